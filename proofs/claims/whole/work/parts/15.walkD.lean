abbrev wd_X6_thrown (cI : ClassId) (a_t a_z a_history a_text a_left a_other a_smooth a_weights a_signs a_worked : Nat) (c_states : Int32) (c_length : Int32) (c_thrown : Int32) (c_codes : Int32) (c_read : Int32) (c_isOpen : Int32) (c_hash : Int64) : va_W := [(a_t, .inr (6, [.ref a_z, .int c_states, .ref a_history, .int c_length, .ref a_text, .int c_thrown, .ref a_left, .ref a_other, .ref a_smooth, .ref a_weights, .int c_codes, .ref a_signs, .int c_read, .int c_isOpen, .ref a_worked, .long c_hash]))]
def rm_X6_thrown : Room := { frames := 0, cells := 0, slots := 0, locals := 0 }
set_option maxHeartbeats 4000000 in
set_option maxRecDepth 100000 in
theorem c_X6_thrown (l : Launch) (D : va_G) (cI : ClassId) (a_t a_z a_history a_text a_left a_other a_smooth a_weights a_signs a_worked : Nat) (sz : Nat) (c_states : Int32) (c_length : Int32) (c_thrown : Int32) (c_codes : Int32) (c_read : Int32) (c_isOpen : Int32) (c_hash : Int64) (o : Int32) (hF : F_X6_thrown c_thrown = some o) : Met l yX6_thrown (Cond.code yX6_thrown cX6_thrown 1 (some .int) :: WL) rm_X6_thrown (preM D [(cI, .int)] (wd_X6_thrown cI a_t a_z a_history a_text a_left a_other a_smooth a_weights a_signs a_worked c_states c_length c_thrown c_codes c_read c_isOpen c_hash) sz [.ref a_t]) (postI D o (wd_X6_thrown cI a_t a_z a_history a_text a_left a_other a_smooth a_weights a_signs a_worked c_states c_length c_thrown c_codes c_read c_isOpen c_hash) (wd_X6_thrown cI a_t a_z a_history a_text a_left a_other a_smooth a_weights a_signs a_worked c_states c_length c_thrown c_codes c_read c_isOpen c_hash) sz) 0 0 (va_A (wd_X6_thrown cI a_t a_z a_history a_text a_left a_other a_smooth a_weights a_signs a_worked c_states c_length c_thrown c_codes c_read c_isOpen c_hash) sz) := by
  refine mofI (by decide +kernel) (Nat.le_of_ble_eq_true rfl) ?_
  intro p e s m args below meth c Q A ls hx hb hml hown hts hK hP hD hS hA hG hl hret hsz0
  have hl : lv_has ls 1 [(0, .ref a_t)] := hl
  unfold F_X6_thrown at hF
  have hP : va_P D vwCl (wd_X6_thrown cI a_t a_z a_history a_text a_left a_other a_smooth a_weights a_signs a_worked c_states c_length c_thrown c_codes c_read c_isOpen c_hash) s.heap := hP
  obtain ⟨H, hH⟩ : ∃ H, H = s.heap := ⟨_, rfl⟩
  rw [← hH]
  rw [← hH] at hP
  obtain ⟨locs, hlo⟩ : ∃ z : List Loc, z = [] := ⟨_, rfl⟩
  rw [← hlo]
  have hS : va_S A s.heap H locs := by rw [hH, hlo]; exact hS
  refine lv_aload_n hx hb dX6_thrown_0 rfl (lv_at hl 0 rfl) ?_
  refine get_X6_37 hx hb hts hown hK hP 0 rfl rfl dX6_thrown_1 ?_
  have ho := Option.some.inj hF
  exact hret H locs ls 4 c_thrown _ hP hS rfl ho dX6_thrown_4
abbrev wd_X6_within (cI : ClassId)  : va_W := []
def rm_X6_within : Room := { frames := 0, cells := 0, slots := 0, locals := 0 }
set_option maxHeartbeats 4000000 in
set_option maxRecDepth 100000 in
theorem c_X6_within (l : Launch) (D : va_G) (cI : ClassId) (sz : Nat) (x0 : Int32) (x1 : Int32) (x2 : Int32) (o : Int32) (hF : F_X6_within x0 x1 x2 = some o) : Met l yX6_within (Cond.code yX6_within cX6_within 3 (some .boolean) :: WL) rm_X6_within (preM D [(cI, .int)] (wd_X6_within cI ) sz [.int x0, .int x1, .int x2]) (postI D o (wd_X6_within cI ) (wd_X6_within cI ) sz) 0 0 (va_A (wd_X6_within cI ) sz) := by
  refine mofZ (by decide +kernel) (Nat.le_of_ble_eq_true rfl) ?_
  intro p e s m args below meth c Q A ls hx hb hml hown hts hK hP hD hS hA hG hl hret hsz0
  have hl : lv_has ls 3 [(0, .int x0), (1, .int x1), (2, .int x2)] := hl
  unfold F_X6_within at hF
  have hP : va_P D vwCl (wd_X6_within cI ) s.heap := hP
  obtain ⟨H, hH⟩ : ∃ H, H = s.heap := ⟨_, rfl⟩
  rw [← hH]
  rw [← hH] at hP
  obtain ⟨locs, hlo⟩ : ∃ z : List Loc, z = [] := ⟨_, rfl⟩
  rw [← hlo]
  have hS : va_S A s.heap H locs := by rw [hH, hlo]; exact hS
  refine lv_iload_n hx hb dX6_within_0 rfl (lv_at hl 0 rfl) ?_
  refine lv_iload_n hx hb dX6_within_1 rfl (lv_at hl 1 rfl) ?_
  refine lv_icmp_lt (tgt := 14) hx hb dX6_within_2 (by decide) (fun k2 => ?_) (fun k2 => ?_)
  · (try simp only [if_pos k2] at hF)
    refine lv_iconst (v := 0) hx hb dX6_within_14 (by decide) ?_
    have ho := Option.some.inj hF
    exact hret H locs ls 15 (0 : Int32) _ hP hS rfl ho (by decide) dX6_within_15
  · (try simp only [if_neg k2] at hF)
    refine lv_iload_n hx hb dX6_within_5 rfl (lv_at hl 0 rfl) ?_
    refine lv_iload_n hx hb dX6_within_6 rfl (lv_at hl 2 rfl) ?_
    refine lv_icmp_gt (tgt := 14) hx hb dX6_within_7 (by decide) (fun k7 => ?_) (fun k7 => ?_)
    · (try simp only [if_pos k7] at hF)
      refine lv_iconst (v := 0) hx hb dX6_within_14 (by decide) ?_
      have ho := Option.some.inj hF
      exact hret H locs ls 15 (0 : Int32) _ hP hS rfl ho (by decide) dX6_within_15
    · (try simp only [if_neg k7] at hF)
      refine lv_iconst (v := 1) hx hb dX6_within_10 (by decide) ?_
      refine lv_goto (tgt := 15) hx hb dX6_within_11 (by decide) ?_
      have ho := Option.some.inj hF
      exact hret H locs ls 15 (1 : Int32) _ hP hS rfl ho (by decide) dX6_within_15
abbrev wd_X6_save (cI : ClassId) (a_t a_z a_history a_text a_left a_other a_smooth a_weights a_signs a_worked : Nat) (c_states : Int32) (c_length : Int32) (c_thrown : Int32) (c_codes : Int32) (c_read : Int32) (c_isOpen : Int32) (c_hash : Int64) (c_history : Nat → Int32) (c_z : Nat → Int32) : va_W := [(a_t, .inr (6, [.ref a_z, .int c_states, .ref a_history, .int c_length, .ref a_text, .int c_thrown, .ref a_left, .ref a_other, .ref a_smooth, .ref a_weights, .int c_codes, .ref a_signs, .int c_read, .int c_isOpen, .ref a_worked, .long c_hash])), (a_history, .inl (cI, 78, .inl c_history)), (a_z, .inl (cI, 13, .inl c_z))]
def rm_X6_save : Room := { frames := 0, cells := 0, slots := 0, locals := 0 }
set_option maxHeartbeats 4000000 in
set_option maxRecDepth 100000 in
theorem c_X6_save (l : Launch) (D : va_G) (cI : ClassId) (a_t a_z a_history a_text a_left a_other a_smooth a_weights a_signs a_worked : Nat) (sz : Nat) (c_states : Int32) (c_length : Int32) (c_thrown : Int32) (c_codes : Int32) (c_read : Int32) (c_isOpen : Int32) (c_hash : Int64) (c_history : Nat → Int32) (c_z : Nat → Int32) (o : Int32 × (Nat → Int32)) (hF : F_X6_save c_states c_history c_z = some o) : Met l yX6_save (Cond.code yX6_save cX6_save 2 none :: WL) rm_X6_save (preM D [(cI, .int)] (wd_X6_save cI a_t a_z a_history a_text a_left a_other a_smooth a_weights a_signs a_worked c_states c_length c_thrown c_codes c_read c_isOpen c_hash c_history c_z) sz [.ref a_t]) (postV D (wd_X6_save cI a_t a_z a_history a_text a_left a_other a_smooth a_weights a_signs a_worked o.1 c_length c_thrown c_codes c_read c_isOpen c_hash o.2 c_z) (wd_X6_save cI a_t a_z a_history a_text a_left a_other a_smooth a_weights a_signs a_worked c_states c_length c_thrown c_codes c_read c_isOpen c_hash c_history c_z) sz) 0 0 (va_A (wd_X6_save cI a_t a_z a_history a_text a_left a_other a_smooth a_weights a_signs a_worked c_states c_length c_thrown c_codes c_read c_isOpen c_hash c_history c_z) sz) := by
  refine mofV (by decide +kernel) (Nat.le_of_ble_eq_true rfl) ?_
  intro p e s m args below meth c Q A ls hx hb hml hown hts hK hP hD hS hA hG hl hret hsz0
  have hl : lv_has ls 2 [(0, .ref a_t)] := hl
  have K51 : ∀ (n51 : Nat) (c_states : Int32) (c_history : Nat → Int32) (x1 : Int32) (H : Heap) (locs : List Loc) (ls : Array Slot), va_P D vwCl (wd_X6_save cI a_t a_z a_history a_text a_left a_other a_smooth a_weights a_signs a_worked c_states c_length c_thrown c_codes c_read c_isOpen c_hash c_history c_z) H → va_D A (wd_X6_save cI a_t a_z a_history a_text a_left a_other a_smooth a_weights a_signs a_worked c_states c_length c_thrown c_codes c_read c_isOpen c_hash c_history c_z) → va_S A s.heap H locs → lv_has ls 2 [(0, .ref a_t), (1, .int x1)] → F_X6_save_L51 c_z n51 c_states c_history x1 = some o → W p l e rm_X6_save s m args below meth c H locs 0 0 Q (F0 m 51 ls []) := by
    intro n51
    induction n51 with
    | zero => intro c_states c_history x1 H locs ls hP hD hS hl hF; exact nos hF
    | succ n51 ih51 =>
      intro c_states c_history x1 H locs ls hP hD hS hl hF
      rw [F_X6_save_L51] at hF
      refine lv_iload_n hx hb dX6_save_51 rfl (lv_at hl 1 rfl) ?_
      refine lv_bipush (v := 13) hx hb dX6_save_52 (by decide) ?_
      refine lv_icmp_ge (tgt := 83) hx hb dX6_save_54 (by decide) (fun k54 => ?_) (fun k54 => ?_)
      · replace hF := (if_pos k54).symm.trans hF
        refine lv_aload_n hx hb dX6_save_83 rfl (lv_at hl 0 rfl) ?_
        refine lv_dup hx hb dX6_save_84 rfl ?_
        refine get_X6_41 hx hb hts hown hK hP 0 rfl rfl dX6_save_85 ?_
        refine lv_iconst (v := 1) hx hb dX6_save_88 (by decide) ?_
        refine lv_iadd hx hb dX6_save_89 ?_
        refine put_X6_41 hx hb hts hown hK hP hD hS 0 rfl rfl rfl (Nat.le_of_ble_eq_true rfl) dX6_save_90 (fun H locs hP hD hS => ?_)
        have hP : va_P D vwCl (wd_X6_save cI a_t a_z a_history a_text a_left a_other a_smooth a_weights a_signs a_worked (c_states + (1 : Int32)) c_length c_thrown c_codes c_read c_isOpen c_hash c_history c_z) H := hP
        have hD : va_D A (wd_X6_save cI a_t a_z a_history a_text a_left a_other a_smooth a_weights a_signs a_worked (c_states + (1 : Int32)) c_length c_thrown c_codes c_read c_isOpen c_hash c_history c_z) := hD
        have ho := Option.some.inj hF
        exact hret H locs ls 93 _ hP hS (by rw [← ho]) dX6_save_93
      · replace hF := (if_neg k54).symm.trans hF
        refine lv_aload_n hx hb dX6_save_57 rfl (lv_at hl 0 rfl) ?_
        refine get_X6_13 hx hb hts hown hK hP 0 rfl rfl dX6_save_58 ?_
        refine lv_bipush (v := 13) hx hb dX6_save_61 (by decide) ?_
        refine lv_aload_n hx hb dX6_save_63 rfl (lv_at hl 0 rfl) ?_
        refine get_X6_41 hx hb hts hown hK hP 0 rfl rfl dX6_save_64 ?_
        refine lv_imul hx hb dX6_save_67 ?_
        refine lv_iload_n hx hb dX6_save_68 rfl (lv_at hl 1 rfl) ?_
        refine lv_iadd hx hb dX6_save_69 ?_
        refine lv_aload_n hx hb dX6_save_70 rfl (lv_at hl 0 rfl) ?_
        refine get_X6_7 hx hb hts hown hK hP 0 rfl rfl dX6_save_71 ?_
        refine lv_iload_n hx hb dX6_save_74 rfl (lv_at hl 1 rfl) ?_
        obtain ⟨g75, hF⟩ := gdb hF
        refine va_iald hx hb hK hP 2 0 rfl rfl (vinb g75) dX6_save_75 ?_
        obtain ⟨g76, hF⟩ := gdb hF
        refine va_iast hx hb hK hP hD hS 1 0 rfl rfl (vinb g76) dX6_save_76 (fun H locs hP hD hS => ?_)
        have hP : va_P D vwCl (wd_X6_save cI a_t a_z a_history a_text a_left a_other a_smooth a_weights a_signs a_worked c_states c_length c_thrown c_codes c_read c_isOpen c_hash (upd c_history (((13 : Int32) * c_states) + x1).toNatClampNeg (c_z (x1).toNatClampNeg)) c_z) H := hP
        have hD : va_D A (wd_X6_save cI a_t a_z a_history a_text a_left a_other a_smooth a_weights a_signs a_worked c_states c_length c_thrown c_codes c_read c_isOpen c_hash (upd c_history (((13 : Int32) * c_states) + x1).toNatClampNeg (c_z (x1).toNatClampNeg)) c_z) := hD
        refine lv_iinc (v := x1 + 1) (lv' := [(1, .int (x1 + 1)), (0, .ref a_t)]) hx hb dX6_save_77 hl (k := 1) rfl rfl (by decide) rfl (fun ls hl => ?_)
        refine lv_goto (tgt := 51) hx hb dX6_save_80 (by decide) ?_
        exact ih51 c_states (upd c_history (((13 : Int32) * c_states) + x1).toNatClampNeg (c_z (x1).toNatClampNeg)) (x1 + 1) H locs ls hP hD hS (lv_sub hl [1, 0] rfl) hF
  have K12 : ∀ (n12 : Nat) (c_states : Int32) (c_history : Nat → Int32) (x1 : Int32) (H : Heap) (locs : List Loc) (ls : Array Slot), va_P D vwCl (wd_X6_save cI a_t a_z a_history a_text a_left a_other a_smooth a_weights a_signs a_worked c_states c_length c_thrown c_codes c_read c_isOpen c_hash c_history c_z) H → va_D A (wd_X6_save cI a_t a_z a_history a_text a_left a_other a_smooth a_weights a_signs a_worked c_states c_length c_thrown c_codes c_read c_isOpen c_hash c_history c_z) → va_S A s.heap H locs → lv_has ls 2 [(0, .ref a_t), (1, .int x1)] → F_X6_save_L12 c_z n12 c_states c_history x1 = some o → W p l e rm_X6_save s m args below meth c H locs 0 0 Q (F0 m 12 ls []) := by
    intro n12
    induction n12 with
    | zero => intro c_states c_history x1 H locs ls hP hD hS hl hF; exact nos hF
    | succ n12 ih12 =>
      intro c_states c_history x1 H locs ls hP hD hS hl hF
      rw [F_X6_save_L12] at hF
      refine lv_iload_n hx hb dX6_save_12 rfl (lv_at hl 1 rfl) ?_
      refine lv_bipush (v := 78) hx hb dX6_save_13 (by decide) ?_
      refine lv_icmp_ge (tgt := 39) hx hb dX6_save_15 (by decide) (fun k15 => ?_) (fun k15 => ?_)
      · replace hF := (if_pos k15).symm.trans hF
        refine lv_aload_n hx hb dX6_save_39 rfl (lv_at hl 0 rfl) ?_
        refine lv_dup hx hb dX6_save_40 rfl ?_
        refine get_X6_41 hx hb hts hown hK hP 0 rfl rfl dX6_save_41 ?_
        refine lv_iconst (v := 1) hx hb dX6_save_44 (by decide) ?_
        refine lv_isub hx hb dX6_save_45 ?_
        refine put_X6_41 hx hb hts hown hK hP hD hS 0 rfl rfl rfl (Nat.le_of_ble_eq_true rfl) dX6_save_46 (fun H locs hP hD hS => ?_)
        have hP : va_P D vwCl (wd_X6_save cI a_t a_z a_history a_text a_left a_other a_smooth a_weights a_signs a_worked (c_states - (1 : Int32)) c_length c_thrown c_codes c_read c_isOpen c_hash c_history c_z) H := hP
        have hD : va_D A (wd_X6_save cI a_t a_z a_history a_text a_left a_other a_smooth a_weights a_signs a_worked (c_states - (1 : Int32)) c_length c_thrown c_codes c_read c_isOpen c_hash c_history c_z) := hD
        refine lv_iconst (v := 0) hx hb dX6_save_49 (by decide) ?_
        refine lv_istore_n (lv' := [(1, .int (0 : Int32)), (0, .ref a_t)]) hx hb dX6_save_50 rfl hl (by decide) rfl (fun ls hl => ?_)
        exact K51 FU (c_states - (1 : Int32)) c_history (0 : Int32) H locs ls hP hD hS (lv_sub hl [1, 0] rfl) hF
      · replace hF := (if_neg k15).symm.trans hF
        refine lv_aload_n hx hb dX6_save_18 rfl (lv_at hl 0 rfl) ?_
        refine get_X6_13 hx hb hts hown hK hP 0 rfl rfl dX6_save_19 ?_
        refine lv_iload_n hx hb dX6_save_22 rfl (lv_at hl 1 rfl) ?_
        refine lv_bipush (v := 13) hx hb dX6_save_23 (by decide) ?_
        refine lv_isub hx hb dX6_save_25 ?_
        refine lv_aload_n hx hb dX6_save_26 rfl (lv_at hl 0 rfl) ?_
        refine get_X6_13 hx hb hts hown hK hP 0 rfl rfl dX6_save_27 ?_
        refine lv_iload_n hx hb dX6_save_30 rfl (lv_at hl 1 rfl) ?_
        obtain ⟨g31, hF⟩ := gdb hF
        refine va_iald hx hb hK hP 1 0 rfl rfl (vinb g31) dX6_save_31 ?_
        obtain ⟨g32, hF⟩ := gdb hF
        refine va_iast hx hb hK hP hD hS 1 0 rfl rfl (vinb g32) dX6_save_32 (fun H locs hP hD hS => ?_)
        have hP : va_P D vwCl (wd_X6_save cI a_t a_z a_history a_text a_left a_other a_smooth a_weights a_signs a_worked c_states c_length c_thrown c_codes c_read c_isOpen c_hash (upd c_history (x1 - (13 : Int32)).toNatClampNeg (c_history (x1).toNatClampNeg)) c_z) H := hP
        have hD : va_D A (wd_X6_save cI a_t a_z a_history a_text a_left a_other a_smooth a_weights a_signs a_worked c_states c_length c_thrown c_codes c_read c_isOpen c_hash (upd c_history (x1 - (13 : Int32)).toNatClampNeg (c_history (x1).toNatClampNeg)) c_z) := hD
        refine lv_iinc (v := x1 + 1) (lv' := [(1, .int (x1 + 1)), (0, .ref a_t)]) hx hb dX6_save_33 hl (k := 1) rfl rfl (by decide) rfl (fun ls hl => ?_)
        refine lv_goto (tgt := 12) hx hb dX6_save_36 (by decide) ?_
        exact ih12 c_states (upd c_history (x1 - (13 : Int32)).toNatClampNeg (c_history (x1).toNatClampNeg)) (x1 + 1) H locs ls hP hD hS (lv_sub hl [1, 0] rfl) hF
  unfold F_X6_save at hF
  have hP : va_P D vwCl (wd_X6_save cI a_t a_z a_history a_text a_left a_other a_smooth a_weights a_signs a_worked c_states c_length c_thrown c_codes c_read c_isOpen c_hash c_history c_z) s.heap := hP
  obtain ⟨H, hH⟩ : ∃ H, H = s.heap := ⟨_, rfl⟩
  rw [← hH]
  rw [← hH] at hP
  obtain ⟨locs, hlo⟩ : ∃ z : List Loc, z = [] := ⟨_, rfl⟩
  rw [← hlo]
  have hS : va_S A s.heap H locs := by rw [hH, hlo]; exact hS
  refine lv_aload_n hx hb dX6_save_0 rfl (lv_at hl 0 rfl) ?_
  refine get_X6_41 hx hb hts hown hK hP 0 rfl rfl dX6_save_1 ?_
  refine lv_bipush (v := 6) hx hb dX6_save_4 (by decide) ?_
  refine lv_icmp_ne (tgt := 49) hx hb dX6_save_6 (by decide) (fun k6 => ?_) (fun k6 => ?_)
  · replace hF := (if_neg k6).symm.trans hF
    refine lv_iconst (v := 0) hx hb dX6_save_49 (by decide) ?_
    refine lv_istore_n (lv' := [(1, .int (0 : Int32)), (0, .ref a_t)]) hx hb dX6_save_50 rfl hl (by decide) rfl (fun ls hl => ?_)
    exact K51 FU c_states c_history (0 : Int32) H locs ls hP hD hS (lv_sub hl [1, 0] rfl) hF
  · replace hF := (if_pos k6).symm.trans hF
    refine lv_bipush (v := 13) hx hb dX6_save_9 (by decide) ?_
    refine lv_istore_n (lv' := [(1, .int (13 : Int32)), (0, .ref a_t)]) hx hb dX6_save_11 rfl hl (by decide) rfl (fun ls hl => ?_)
    exact K12 FU c_states c_history (13 : Int32) H locs ls hP hD hS (lv_sub hl [1, 0] rfl) hF
abbrev wd_X6_isPlace (cI : ClassId) (a_t a_z a_history a_text a_left a_other a_smooth a_weights a_signs a_worked : Nat) (c_states : Int32) (c_length : Int32) (c_thrown : Int32) (c_codes : Int32) (c_read : Int32) (c_isOpen : Int32) (c_hash : Int64) (c_z : Nat → Int32) : va_W := [(a_t, .inr (6, [.ref a_z, .int c_states, .ref a_history, .int c_length, .ref a_text, .int c_thrown, .ref a_left, .ref a_other, .ref a_smooth, .ref a_weights, .int c_codes, .ref a_signs, .int c_read, .int c_isOpen, .ref a_worked, .long c_hash])), (a_z, .inl (cI, 13, .inl c_z))]
def rm_X6_isPlace : Room := { frames := 1, cells := 0, slots := 0, locals := 22 }
set_option maxHeartbeats 4000000 in
set_option maxRecDepth 100000 in
theorem c_X6_isPlace (l : Launch) (D : va_G) (cI : ClassId) (a_t a_z a_history a_text a_left a_other a_smooth a_weights a_signs a_worked : Nat) (sz : Nat) (c_states : Int32) (c_length : Int32) (c_thrown : Int32) (c_codes : Int32) (c_read : Int32) (c_isOpen : Int32) (c_hash : Int64) (c_z : Nat → Int32) (x1 : Int32) (o : Int32) (hF : F_X6_isPlace c_z x1 = some o) : Met l yX6_isPlace (Cond.code yX6_isPlace cX6_isPlace 2 (some .boolean) :: WL) rm_X6_isPlace (preM D [(cI, .int)] (wd_X6_isPlace cI a_t a_z a_history a_text a_left a_other a_smooth a_weights a_signs a_worked c_states c_length c_thrown c_codes c_read c_isOpen c_hash c_z) sz [.ref a_t, .int x1]) (postI D o (wd_X6_isPlace cI a_t a_z a_history a_text a_left a_other a_smooth a_weights a_signs a_worked c_states c_length c_thrown c_codes c_read c_isOpen c_hash c_z) (wd_X6_isPlace cI a_t a_z a_history a_text a_left a_other a_smooth a_weights a_signs a_worked c_states c_length c_thrown c_codes c_read c_isOpen c_hash c_z) sz) 0 0 (va_A (wd_X6_isPlace cI a_t a_z a_history a_text a_left a_other a_smooth a_weights a_signs a_worked c_states c_length c_thrown c_codes c_read c_isOpen c_hash c_z) sz) := by
  refine mofZ (by decide +kernel) (Nat.le_of_ble_eq_true rfl) ?_
  intro p e s m args below meth c Q A ls hx hb hml hown hts hK hP hD hS hA hG hl hret hsz0
  have hl : lv_has ls 2 [(0, .ref a_t), (1, .int x1)] := hl
  unfold F_X6_isPlace at hF
  have hP : va_P D vwCl (wd_X6_isPlace cI a_t a_z a_history a_text a_left a_other a_smooth a_weights a_signs a_worked c_states c_length c_thrown c_codes c_read c_isOpen c_hash c_z) s.heap := hP
  obtain ⟨H, hH⟩ : ∃ H, H = s.heap := ⟨_, rfl⟩
  rw [← hH]
  rw [← hH] at hP
  obtain ⟨locs, hlo⟩ : ∃ z : List Loc, z = [] := ⟨_, rfl⟩
  rw [← hlo]
  have hS : va_S A s.heap H locs := by rw [hH, hlo]; exact hS
  refine lv_iload_n hx hb dX6_isPlace_0 rfl (lv_at hl 1 rfl) ?_
  refine lv_iconst (v := 0) hx hb dX6_isPlace_1 (by decide) ?_
  refine lv_aload_n hx hb dX6_isPlace_2 rfl (lv_at hl 0 rfl) ?_
  refine get_X6_7 hx hb hts hown hK hP 0 rfl rfl dX6_isPlace_3 ?_
  refine lv_iconst (v := 0) hx hb dX6_isPlace_6 (by decide) ?_
  obtain ⟨g7, hF⟩ := gdb hF
  refine va_iald hx hb hK hP 1 0 rfl rfl (vinb g7) dX6_isPlace_7 ?_
  refine lv_iconst (v := 1) hx hb dX6_isPlace_8 (by decide) ?_
  refine lv_isub hx hb dX6_isPlace_9 ?_
  obtain ⟨r10, hr10, hF⟩ := opb hF
  refine kSI (As := [.int x1, .int (0 : Int32), .int ((c_z ((0 : Int32)).toNatClampNeg) - (1 : Int32))]) (rest := []) (ws' := (wd_X6_isPlace cI a_t a_z a_history a_text a_left a_other a_smooth a_weights a_signs a_worked c_states c_length c_thrown c_codes c_read c_isOpen c_hash c_z)) ⟨hx, hb, hml, hown, hts⟩ (c_X6_within l D cI  H.size  x1 (0 : Int32) ((c_z ((0 : Int32)).toNatClampNeg) - (1 : Int32)) r10 hr10) (va_cwS 3 hts mw_X6_44 rfl rfl rfl hd_X6_within ⟨Nat.le_of_ble_eq_true rfl, Nat.le_of_ble_eq_true rfl⟩) hS hA hG hK hP hD [] rfl rfl rfl rfl rfl ⟨Nat.zero_le _, Nat.zero_le _⟩ rfl hl.1 rfl (Nat.le_of_ble_eq_true rfl) dX6_isPlace_10 (fun H locs hP hD hS => ?_)
  obtain ⟨g13, hF⟩ := gdb hF
  have ho := Option.some.inj hF
  exact hret H locs ls 13 r10 _ hP hS rfl ho (bzb g13) dX6_isPlace_13
abbrev wd_X6_isSign (cI : ClassId)  : va_W := []
def rm_X6_isSign : Room := { frames := 1, cells := 0, slots := 0, locals := 22 }
set_option maxHeartbeats 4000000 in
set_option maxRecDepth 100000 in
theorem c_X6_isSign (l : Launch) (D : va_G) (cI : ClassId) (sz : Nat) (x0 : Int32) (o : Int32) (hF : F_X6_isSign x0 = some o) : Met l yX6_isSign (Cond.code yX6_isSign cX6_isSign 1 (some .boolean) :: WL) rm_X6_isSign (preM D [(cI, .int)] (wd_X6_isSign cI ) sz [.int x0]) (postI D o (wd_X6_isSign cI ) (wd_X6_isSign cI ) sz) 0 0 (va_A (wd_X6_isSign cI ) sz) := by
  refine mofZ (by decide +kernel) (Nat.le_of_ble_eq_true rfl) ?_
  intro p e s m args below meth c Q A ls hx hb hml hown hts hK hP hD hS hA hG hl hret hsz0
  have hl : lv_has ls 1 [(0, .int x0)] := hl
  unfold F_X6_isSign at hF
  have hP : va_P D vwCl (wd_X6_isSign cI ) s.heap := hP
  obtain ⟨H, hH⟩ : ∃ H, H = s.heap := ⟨_, rfl⟩
  rw [← hH]
  rw [← hH] at hP
  obtain ⟨locs, hlo⟩ : ∃ z : List Loc, z = [] := ⟨_, rfl⟩
  rw [← hlo]
  have hS : va_S A s.heap H locs := by rw [hH, hlo]; exact hS
  refine lv_iload_n hx hb dX6_isSign_0 rfl (lv_at hl 0 rfl) ?_
  refine lv_iconst (v := 0) hx hb dX6_isSign_1 (by decide) ?_
  refine lv_iconst (v := 5) hx hb dX6_isSign_2 (by decide) ?_
  obtain ⟨r3, hr3, hF⟩ := opb hF
  refine kSI (As := [.int x0, .int (0 : Int32), .int (5 : Int32)]) (rest := []) (ws' := (wd_X6_isSign cI )) ⟨hx, hb, hml, hown, hts⟩ (c_X6_within l D cI  H.size  x0 (0 : Int32) (5 : Int32) r3 hr3) (va_cwS 3 hts mw_X6_44 rfl rfl rfl hd_X6_within ⟨Nat.le_of_ble_eq_true rfl, Nat.le_of_ble_eq_true rfl⟩) hS hA hG hK hP hD [] rfl rfl rfl rfl rfl ⟨Nat.zero_le _, Nat.zero_le _⟩ rfl hl.1 rfl (Nat.le_of_ble_eq_true rfl) dX6_isSign_3 (fun H locs hP hD hS => ?_)
  obtain ⟨g6, hF⟩ := gdb hF
  have ho := Option.some.inj hF
  exact hret H locs ls 6 r3 _ hP hS rfl ho (bzb g6) dX6_isSign_6
abbrev wd_X6_countAll (cI : ClassId) (a_t a_z a_history a_text a_left a_other a_smooth a_weights a_signs a_worked : Nat) (c_states : Int32) (c_length : Int32) (c_thrown : Int32) (c_codes : Int32) (c_read : Int32) (c_isOpen : Int32) (c_hash : Int64) (c_left : Nat → Int32) (c_z : Nat → Int32) : va_W := [(a_t, .inr (6, [.ref a_z, .int c_states, .ref a_history, .int c_length, .ref a_text, .int c_thrown, .ref a_left, .ref a_other, .ref a_smooth, .ref a_weights, .int c_codes, .ref a_signs, .int c_read, .int c_isOpen, .ref a_worked, .long c_hash])), (a_left, .inl (cI, 6, .inl c_left)), (a_z, .inl (cI, 13, .inl c_z))]
def rm_X6_countAll : Room := { frames := 0, cells := 0, slots := 0, locals := 0 }
set_option maxHeartbeats 4000000 in
set_option maxRecDepth 100000 in
theorem c_X6_countAll (l : Launch) (D : va_G) (cI : ClassId) (a_t a_z a_history a_text a_left a_other a_smooth a_weights a_signs a_worked : Nat) (sz : Nat) (c_states : Int32) (c_length : Int32) (c_thrown : Int32) (c_codes : Int32) (c_read : Int32) (c_isOpen : Int32) (c_hash : Int64) (c_left : Nat → Int32) (c_z : Nat → Int32) (o : (Nat → Int32)) (hF : F_X6_countAll c_left c_z = some o) : Met l yX6_countAll (Cond.code yX6_countAll cX6_countAll 2 none :: WL) rm_X6_countAll (preM D [(cI, .int)] (wd_X6_countAll cI a_t a_z a_history a_text a_left a_other a_smooth a_weights a_signs a_worked c_states c_length c_thrown c_codes c_read c_isOpen c_hash c_left c_z) sz [.ref a_t]) (postV D (wd_X6_countAll cI a_t a_z a_history a_text a_left a_other a_smooth a_weights a_signs a_worked c_states c_length c_thrown c_codes c_read c_isOpen c_hash o c_z) (wd_X6_countAll cI a_t a_z a_history a_text a_left a_other a_smooth a_weights a_signs a_worked c_states c_length c_thrown c_codes c_read c_isOpen c_hash c_left c_z) sz) 0 0 (va_A (wd_X6_countAll cI a_t a_z a_history a_text a_left a_other a_smooth a_weights a_signs a_worked c_states c_length c_thrown c_codes c_read c_isOpen c_hash c_left c_z) sz) := by
  refine mofV (by decide +kernel) (Nat.le_of_ble_eq_true rfl) ?_
  intro p e s m args below meth c Q A ls hx hb hml hown hts hK hP hD hS hA hG hl hret hsz0
  have hl : lv_has ls 2 [(0, .ref a_t)] := hl
  have K23 : ∀ (n23 : Nat) (c_left : Nat → Int32) (x1 : Int32) (H : Heap) (locs : List Loc) (ls : Array Slot), va_P D vwCl (wd_X6_countAll cI a_t a_z a_history a_text a_left a_other a_smooth a_weights a_signs a_worked c_states c_length c_thrown c_codes c_read c_isOpen c_hash c_left c_z) H → va_D A (wd_X6_countAll cI a_t a_z a_history a_text a_left a_other a_smooth a_weights a_signs a_worked c_states c_length c_thrown c_codes c_read c_isOpen c_hash c_left c_z) → va_S A s.heap H locs → lv_has ls 2 [(0, .ref a_t), (1, .int x1)] → F_X6_countAll_L23 c_z n23 c_left x1 = some o → W p l e rm_X6_countAll s m args below meth c H locs 0 0 Q (F0 m 23 ls []) := by
    intro n23
    induction n23 with
    | zero => intro c_left x1 H locs ls hP hD hS hl hF; exact nos hF
    | succ n23 ih23 =>
      intro c_left x1 H locs ls hP hD hS hl hF
      rw [F_X6_countAll_L23] at hF
      refine lv_iload_n hx hb dX6_countAll_23 rfl (lv_at hl 1 rfl) ?_
      refine lv_aload_n hx hb dX6_countAll_24 rfl (lv_at hl 0 rfl) ?_
      refine get_X6_7 hx hb hts hown hK hP 0 rfl rfl dX6_countAll_25 ?_
      refine lv_iconst (v := 0) hx hb dX6_countAll_28 (by decide) ?_
      obtain ⟨g29, hF⟩ := gdb hF
      refine va_iald hx hb hK hP 2 0 rfl rfl (vinb g29) dX6_countAll_29 ?_
      refine lv_icmp_ge (tgt := 56) hx hb dX6_countAll_30 (by decide) (fun k30 => ?_) (fun k30 => ?_)
      · replace hF := (if_pos k30).symm.trans hF
        have ho := Option.some.inj hF
        exact hret H locs ls 56 _ hP hS (by rw [← ho]) dX6_countAll_56
      · replace hF := (if_neg k30).symm.trans hF
        refine lv_aload_n hx hb dX6_countAll_33 rfl (lv_at hl 0 rfl) ?_
        refine get_X6_19 hx hb hts hown hK hP 0 rfl rfl dX6_countAll_34 ?_
        refine lv_aload_n hx hb dX6_countAll_37 rfl (lv_at hl 0 rfl) ?_
        refine get_X6_7 hx hb hts hown hK hP 0 rfl rfl dX6_countAll_38 ?_
        refine lv_iconst (v := 2) hx hb dX6_countAll_41 (by decide) ?_
        refine lv_iload_n hx hb dX6_countAll_42 rfl (lv_at hl 1 rfl) ?_
        refine lv_iadd hx hb dX6_countAll_43 ?_
        obtain ⟨g44, hF⟩ := gdb hF
        refine va_iald hx hb hK hP 2 0 rfl rfl (vinb g44) dX6_countAll_44 ?_
        refine lv_dup2_11 hx hb dX6_countAll_45 rfl rfl ?_
        obtain ⟨g46, hF⟩ := gdb hF
        refine va_iald hx hb hK hP 1 0 rfl rfl (vinb g46) dX6_countAll_46 ?_
        refine lv_iconst (v := 1) hx hb dX6_countAll_47 (by decide) ?_
        refine lv_iadd hx hb dX6_countAll_48 ?_
        obtain ⟨g49, hF⟩ := gdb hF
        refine va_iast hx hb hK hP hD hS 1 0 rfl rfl (vinb g49) dX6_countAll_49 (fun H locs hP hD hS => ?_)
        have hP : va_P D vwCl (wd_X6_countAll cI a_t a_z a_history a_text a_left a_other a_smooth a_weights a_signs a_worked c_states c_length c_thrown c_codes c_read c_isOpen c_hash (upd c_left (c_z ((2 : Int32) + x1).toNatClampNeg).toNatClampNeg ((c_left (c_z ((2 : Int32) + x1).toNatClampNeg).toNatClampNeg) + (1 : Int32))) c_z) H := hP
        have hD : va_D A (wd_X6_countAll cI a_t a_z a_history a_text a_left a_other a_smooth a_weights a_signs a_worked c_states c_length c_thrown c_codes c_read c_isOpen c_hash (upd c_left (c_z ((2 : Int32) + x1).toNatClampNeg).toNatClampNeg ((c_left (c_z ((2 : Int32) + x1).toNatClampNeg).toNatClampNeg) + (1 : Int32))) c_z) := hD
        refine lv_iinc (v := x1 + 1) (lv' := [(1, .int (x1 + 1)), (0, .ref a_t)]) hx hb dX6_countAll_50 hl (k := 1) rfl rfl (by decide) rfl (fun ls hl => ?_)
        refine lv_goto (tgt := 23) hx hb dX6_countAll_53 (by decide) ?_
        exact ih23 (upd c_left (c_z ((2 : Int32) + x1).toNatClampNeg).toNatClampNeg ((c_left (c_z ((2 : Int32) + x1).toNatClampNeg).toNatClampNeg) + (1 : Int32))) (x1 + 1) H locs ls hP hD hS (lv_sub hl [1, 0] rfl) hF
  have K2 : ∀ (n2 : Nat) (c_left : Nat → Int32) (x1 : Int32) (H : Heap) (locs : List Loc) (ls : Array Slot), va_P D vwCl (wd_X6_countAll cI a_t a_z a_history a_text a_left a_other a_smooth a_weights a_signs a_worked c_states c_length c_thrown c_codes c_read c_isOpen c_hash c_left c_z) H → va_D A (wd_X6_countAll cI a_t a_z a_history a_text a_left a_other a_smooth a_weights a_signs a_worked c_states c_length c_thrown c_codes c_read c_isOpen c_hash c_left c_z) → va_S A s.heap H locs → lv_has ls 2 [(0, .ref a_t), (1, .int x1)] → F_X6_countAll_L2 c_z n2 c_left x1 = some o → W p l e rm_X6_countAll s m args below meth c H locs 0 0 Q (F0 m 2 ls []) := by
    intro n2
    induction n2 with
    | zero => intro c_left x1 H locs ls hP hD hS hl hF; exact nos hF
    | succ n2 ih2 =>
      intro c_left x1 H locs ls hP hD hS hl hF
      rw [F_X6_countAll_L2] at hF
      refine lv_iload_n hx hb dX6_countAll_2 rfl (lv_at hl 1 rfl) ?_
      refine lv_bipush (v := 6) hx hb dX6_countAll_3 (by decide) ?_
      refine lv_icmp_ge (tgt := 21) hx hb dX6_countAll_5 (by decide) (fun k5 => ?_) (fun k5 => ?_)
      · replace hF := (if_pos k5).symm.trans hF
        refine lv_iconst (v := 0) hx hb dX6_countAll_21 (by decide) ?_
        refine lv_istore_n (lv' := [(1, .int (0 : Int32)), (0, .ref a_t)]) hx hb dX6_countAll_22 rfl hl (by decide) rfl (fun ls hl => ?_)
        exact K23 FU c_left (0 : Int32) H locs ls hP hD hS (lv_sub hl [1, 0] rfl) hF
      · replace hF := (if_neg k5).symm.trans hF
        refine lv_aload_n hx hb dX6_countAll_8 rfl (lv_at hl 0 rfl) ?_
        refine get_X6_19 hx hb hts hown hK hP 0 rfl rfl dX6_countAll_9 ?_
        refine lv_iload_n hx hb dX6_countAll_12 rfl (lv_at hl 1 rfl) ?_
        refine lv_iconst (v := 0) hx hb dX6_countAll_13 (by decide) ?_
        obtain ⟨g14, hF⟩ := gdb hF
        refine va_iast hx hb hK hP hD hS 1 0 rfl rfl (vinb g14) dX6_countAll_14 (fun H locs hP hD hS => ?_)
        have hP : va_P D vwCl (wd_X6_countAll cI a_t a_z a_history a_text a_left a_other a_smooth a_weights a_signs a_worked c_states c_length c_thrown c_codes c_read c_isOpen c_hash (upd c_left (x1).toNatClampNeg (0 : Int32)) c_z) H := hP
        have hD : va_D A (wd_X6_countAll cI a_t a_z a_history a_text a_left a_other a_smooth a_weights a_signs a_worked c_states c_length c_thrown c_codes c_read c_isOpen c_hash (upd c_left (x1).toNatClampNeg (0 : Int32)) c_z) := hD
        refine lv_iinc (v := x1 + 1) (lv' := [(1, .int (x1 + 1)), (0, .ref a_t)]) hx hb dX6_countAll_15 hl (k := 1) rfl rfl (by decide) rfl (fun ls hl => ?_)
        refine lv_goto (tgt := 2) hx hb dX6_countAll_18 (by decide) ?_
        exact ih2 (upd c_left (x1).toNatClampNeg (0 : Int32)) (x1 + 1) H locs ls hP hD hS (lv_sub hl [1, 0] rfl) hF
  unfold F_X6_countAll at hF
  have hP : va_P D vwCl (wd_X6_countAll cI a_t a_z a_history a_text a_left a_other a_smooth a_weights a_signs a_worked c_states c_length c_thrown c_codes c_read c_isOpen c_hash c_left c_z) s.heap := hP
  obtain ⟨H, hH⟩ : ∃ H, H = s.heap := ⟨_, rfl⟩
  rw [← hH]
  rw [← hH] at hP
  obtain ⟨locs, hlo⟩ : ∃ z : List Loc, z = [] := ⟨_, rfl⟩
  rw [← hlo]
  have hS : va_S A s.heap H locs := by rw [hH, hlo]; exact hS
  refine lv_iconst (v := 0) hx hb dX6_countAll_0 (by decide) ?_
  refine lv_istore_n (lv' := [(1, .int (0 : Int32)), (0, .ref a_t)]) hx hb dX6_countAll_1 rfl hl (by decide) rfl (fun ls hl => ?_)
  exact K2 FU c_left (0 : Int32) H locs ls hP hD hS (lv_sub hl [1, 0] rfl) hF
abbrev wd_X6_factorial (cI : ClassId)  : va_W := []
def rm_X6_factorial : Room := { frames := 0, cells := 0, slots := 0, locals := 0 }
set_option maxHeartbeats 4000000 in
set_option maxRecDepth 100000 in
theorem c_X6_factorial (l : Launch) (D : va_G) (cI : ClassId) (sz : Nat) (x0 : Int32) (o : Int32) (hF : F_X6_factorial x0 = some o) : Met l yX6_factorial (Cond.code yX6_factorial cX6_factorial 3 (some .int) :: WL) rm_X6_factorial (preM D [(cI, .int)] (wd_X6_factorial cI ) sz [.int x0]) (postI D o (wd_X6_factorial cI ) (wd_X6_factorial cI ) sz) 0 0 (va_A (wd_X6_factorial cI ) sz) := by
  refine mofI (by decide +kernel) (Nat.le_of_ble_eq_true rfl) ?_
  intro p e s m args below meth c Q A ls hx hb hml hown hts hK hP hD hS hA hG hl hret hsz0
  have hl : lv_has ls 3 [(0, .int x0)] := hl
  have K4 : ∀ (n4 : Nat) (x1 : Int32) (x2 : Int32) (H : Heap) (locs : List Loc) (ls : Array Slot), va_P D vwCl (wd_X6_factorial cI ) H → va_D A (wd_X6_factorial cI ) → va_S A s.heap H locs → lv_has ls 3 [(0, .int x0), (1, .int x1), (2, .int x2)] → F_X6_factorial_L4 x0 n4 x1 x2 = some o → W p l e rm_X6_factorial s m args below meth c H locs 0 0 Q (F0 m 4 ls []) := by
    intro n4
    induction n4 with
    | zero => intro x1 x2 H locs ls hP hD hS hl hF; exact nos hF
    | succ n4 ih4 =>
      intro x1 x2 H locs ls hP hD hS hl hF
      rw [F_X6_factorial_L4] at hF
      refine lv_iload_n hx hb dX6_factorial_4 rfl (lv_at hl 2 rfl) ?_
      refine lv_iload_n hx hb dX6_factorial_5 rfl (lv_at hl 0 rfl) ?_
      refine lv_icmp_gt (tgt := 19) hx hb dX6_factorial_6 (by decide) (fun k6 => ?_) (fun k6 => ?_)
      · replace hF := (if_pos k6).symm.trans hF
        refine lv_iload_n hx hb dX6_factorial_19 rfl (lv_at hl 1 rfl) ?_
        have ho := Option.some.inj hF
        exact hret H locs ls 20 x1 _ hP hS rfl ho dX6_factorial_20
      · replace hF := (if_neg k6).symm.trans hF
        refine lv_iload_n hx hb dX6_factorial_9 rfl (lv_at hl 1 rfl) ?_
        refine lv_iload_n hx hb dX6_factorial_10 rfl (lv_at hl 2 rfl) ?_
        refine lv_imul hx hb dX6_factorial_11 ?_
        refine lv_istore_n (lv' := [(1, .int (x1 * x2)), (0, .int x0), (2, .int x2)]) hx hb dX6_factorial_12 rfl hl (by decide) rfl (fun ls hl => ?_)
        refine lv_iinc (v := x2 + 1) (lv' := [(2, .int (x2 + 1)), (1, .int (x1 * x2)), (0, .int x0)]) hx hb dX6_factorial_13 hl (k := 2) rfl rfl (by decide) rfl (fun ls hl => ?_)
        refine lv_goto (tgt := 4) hx hb dX6_factorial_16 (by decide) ?_
        exact ih4 (x1 * x2) (x2 + 1) H locs ls hP hD hS (lv_sub hl [2, 1, 0] rfl) hF
  unfold F_X6_factorial at hF
  have hP : va_P D vwCl (wd_X6_factorial cI ) s.heap := hP
  obtain ⟨H, hH⟩ : ∃ H, H = s.heap := ⟨_, rfl⟩
  rw [← hH]
  rw [← hH] at hP
  obtain ⟨locs, hlo⟩ : ∃ z : List Loc, z = [] := ⟨_, rfl⟩
  rw [← hlo]
  have hS : va_S A s.heap H locs := by rw [hH, hlo]; exact hS
  refine lv_iconst (v := 1) hx hb dX6_factorial_0 (by decide) ?_
  refine lv_istore_n (lv' := [(1, .int (1 : Int32)), (0, .int x0)]) hx hb dX6_factorial_1 rfl hl (by decide) rfl (fun ls hl => ?_)
  refine lv_iconst (v := 2) hx hb dX6_factorial_2 (by decide) ?_
  refine lv_istore_n (lv' := [(2, .int (2 : Int32)), (1, .int (1 : Int32)), (0, .int x0)]) hx hb dX6_factorial_3 rfl hl (by decide) rfl (fun ls hl => ?_)
  exact K4 FU (1 : Int32) (2 : Int32) H locs ls hP hD hS (lv_sub hl [2, 1, 0] rfl) hF
abbrev wd_X6_rows (cI : ClassId) (a_t a_z a_history a_text a_left a_other a_smooth a_weights a_signs a_worked : Nat) (c_states : Int32) (c_length : Int32) (c_thrown : Int32) (c_codes : Int32) (c_read : Int32) (c_isOpen : Int32) (c_hash : Int64) (c_left : Nat → Int32) : va_W := [(a_t, .inr (6, [.ref a_z, .int c_states, .ref a_history, .int c_length, .ref a_text, .int c_thrown, .ref a_left, .ref a_other, .ref a_smooth, .ref a_weights, .int c_codes, .ref a_signs, .int c_read, .int c_isOpen, .ref a_worked, .long c_hash])), (a_left, .inl (cI, 6, .inl c_left))]
def rm_X6_rows : Room := { frames := 1, cells := 0, slots := 0, locals := 22 }
set_option maxHeartbeats 4000000 in
set_option maxRecDepth 100000 in
theorem c_X6_rows (l : Launch) (D : va_G) (cI : ClassId) (a_t a_z a_history a_text a_left a_other a_smooth a_weights a_signs a_worked : Nat) (sz : Nat) (c_states : Int32) (c_length : Int32) (c_thrown : Int32) (c_codes : Int32) (c_read : Int32) (c_isOpen : Int32) (c_hash : Int64) (c_left : Nat → Int32) (o : Int32) (hF : F_X6_rows c_left = some o) : Met l yX6_rows (Cond.code yX6_rows cX6_rows 4 (some .int) :: WL) rm_X6_rows (preM D [(cI, .int)] (wd_X6_rows cI a_t a_z a_history a_text a_left a_other a_smooth a_weights a_signs a_worked c_states c_length c_thrown c_codes c_read c_isOpen c_hash c_left) sz [.ref a_t]) (postI D o (wd_X6_rows cI a_t a_z a_history a_text a_left a_other a_smooth a_weights a_signs a_worked c_states c_length c_thrown c_codes c_read c_isOpen c_hash c_left) (wd_X6_rows cI a_t a_z a_history a_text a_left a_other a_smooth a_weights a_signs a_worked c_states c_length c_thrown c_codes c_read c_isOpen c_hash c_left) sz) 0 0 (va_A (wd_X6_rows cI a_t a_z a_history a_text a_left a_other a_smooth a_weights a_signs a_worked c_states c_length c_thrown c_codes c_read c_isOpen c_hash c_left) sz) := by
  refine mofI (by decide +kernel) (Nat.le_of_ble_eq_true rfl) ?_
  intro p e s m args below meth c Q A ls hx hb hml hown hts hK hP hD hS hA hG hl hret hsz0
  have hl : lv_has ls 4 [(0, .ref a_t)] := hl
  have K32 : ∀ (n32 : Nat) (x2 : Int32) (x3 : Int32) (H : Heap) (locs : List Loc) (ls : Array Slot), va_P D vwCl (wd_X6_rows cI a_t a_z a_history a_text a_left a_other a_smooth a_weights a_signs a_worked c_states c_length c_thrown c_codes c_read c_isOpen c_hash c_left) H → va_D A (wd_X6_rows cI a_t a_z a_history a_text a_left a_other a_smooth a_weights a_signs a_worked c_states c_length c_thrown c_codes c_read c_isOpen c_hash c_left) → va_S A s.heap H locs → lv_has ls 4 [(0, .ref a_t), (2, .int x2), (3, .int x3)] → F_X6_rows_L32 c_left n32 x2 x3 = some o → W p l e rm_X6_rows s m args below meth c H locs 0 0 Q (F0 m 32 ls []) := by
    intro n32
    induction n32 with
    | zero => intro x2 x3 H locs ls hP hD hS hl hF; exact nos hF
    | succ n32 ih32 =>
      intro x2 x3 H locs ls hP hD hS hl hF
      rw [F_X6_rows_L32] at hF
      refine lv_iload_n hx hb dX6_rows_32 rfl (lv_at hl 2 rfl) ?_
      refine lv_bipush (v := 6) hx hb dX6_rows_33 (by decide) ?_
      refine lv_icmp_ge (tgt := 56) hx hb dX6_rows_35 (by decide) (fun k35 => ?_) (fun k35 => ?_)
      · replace hF := (if_pos k35).symm.trans hF
        refine lv_iload_n hx hb dX6_rows_56 rfl (lv_at hl 1 rfl) ?_
        have ho := Option.some.inj hF
        exact hret H locs ls 57 x2 _ hP hS rfl ho dX6_rows_57
      · replace hF := (if_neg k35).symm.trans hF
        refine lv_iload_n hx hb dX6_rows_38 rfl (lv_at hl 1 rfl) ?_
        refine lv_aload_n hx hb dX6_rows_39 rfl (lv_at hl 0 rfl) ?_
        refine get_X6_19 hx hb hts hown hK hP 0 rfl rfl dX6_rows_40 ?_
        refine lv_iload_n hx hb dX6_rows_43 rfl (lv_at hl 2 rfl) ?_
        obtain ⟨g44, hF⟩ := gdb hF
        refine va_iald hx hb hK hP 1 0 rfl rfl (vinb g44) dX6_rows_44 ?_
        obtain ⟨r45, hr45, hF⟩ := opb hF
        refine kSI (As := [.int (c_left (x3).toNatClampNeg)]) (rest := [.int x2]) (ws' := (wd_X6_rows cI a_t a_z a_history a_text a_left a_other a_smooth a_weights a_signs a_worked c_states c_length c_thrown c_codes c_read c_isOpen c_hash c_left)) ⟨hx, hb, hml, hown, hts⟩ (c_X6_factorial l D cI  H.size  (c_left (x3).toNatClampNeg) r45 hr45) (va_cwS 1 hts mw_X6_48 rfl rfl rfl hd_X6_factorial ⟨Nat.le_of_ble_eq_true rfl, Nat.le_of_ble_eq_true rfl⟩) hS hA hG hK hP hD [] rfl rfl rfl rfl rfl ⟨Nat.zero_le _, Nat.zero_le _⟩ rfl hl.1 rfl (Nat.le_of_ble_eq_true rfl) dX6_rows_45 (fun H locs hP hD hS => ?_)
        obtain ⟨g48, hF⟩ := gdb hF
        refine lv_idiv hx hb dX6_rows_48 (nzb g48) ?_
        refine lv_istore_n (lv' := [(2, .int (x2 / r45)), (0, .ref a_t), (3, .int x3)]) hx hb dX6_rows_49 rfl hl (by decide) rfl (fun ls hl => ?_)
        refine lv_iinc (v := x3 + 1) (lv' := [(3, .int (x3 + 1)), (2, .int (x2 / r45)), (0, .ref a_t)]) hx hb dX6_rows_50 hl (k := 2) rfl rfl (by decide) rfl (fun ls hl => ?_)
        refine lv_goto (tgt := 32) hx hb dX6_rows_53 (by decide) ?_
        exact ih32 (x2 / r45) (x3 + 1) H locs ls hP hD hS (lv_sub hl [2, 1, 0] rfl) hF
  have K4 : ∀ (n4 : Nat) (x1 : Int32) (x2 : Int32) (H : Heap) (locs : List Loc) (ls : Array Slot), va_P D vwCl (wd_X6_rows cI a_t a_z a_history a_text a_left a_other a_smooth a_weights a_signs a_worked c_states c_length c_thrown c_codes c_read c_isOpen c_hash c_left) H → va_D A (wd_X6_rows cI a_t a_z a_history a_text a_left a_other a_smooth a_weights a_signs a_worked c_states c_length c_thrown c_codes c_read c_isOpen c_hash c_left) → va_S A s.heap H locs → lv_has ls 4 [(0, .ref a_t), (1, .int x1), (2, .int x2)] → F_X6_rows_L4 c_left n4 x1 x2 = some o → W p l e rm_X6_rows s m args below meth c H locs 0 0 Q (F0 m 4 ls []) := by
    intro n4
    induction n4 with
    | zero => intro x1 x2 H locs ls hP hD hS hl hF; exact nos hF
    | succ n4 ih4 =>
      intro x1 x2 H locs ls hP hD hS hl hF
      rw [F_X6_rows_L4] at hF
      refine lv_iload_n hx hb dX6_rows_4 rfl (lv_at hl 2 rfl) ?_
      refine lv_bipush (v := 6) hx hb dX6_rows_5 (by decide) ?_
      refine lv_icmp_ge (tgt := 25) hx hb dX6_rows_7 (by decide) (fun k7 => ?_) (fun k7 => ?_)
      · replace hF := (if_pos k7).symm.trans hF
        refine lv_iload_n hx hb dX6_rows_25 rfl (lv_at hl 1 rfl) ?_
        obtain ⟨r26, hr26, hF⟩ := opb hF
        refine kSI (As := [.int x1]) (rest := []) (ws' := (wd_X6_rows cI a_t a_z a_history a_text a_left a_other a_smooth a_weights a_signs a_worked c_states c_length c_thrown c_codes c_read c_isOpen c_hash c_left)) ⟨hx, hb, hml, hown, hts⟩ (c_X6_factorial l D cI  H.size  x1 r26 hr26) (va_cwS 1 hts mw_X6_48 rfl rfl rfl hd_X6_factorial ⟨Nat.le_of_ble_eq_true rfl, Nat.le_of_ble_eq_true rfl⟩) hS hA hG hK hP hD [] rfl rfl rfl rfl rfl ⟨Nat.zero_le _, Nat.zero_le _⟩ rfl hl.1 rfl (Nat.le_of_ble_eq_true rfl) dX6_rows_26 (fun H locs hP hD hS => ?_)
        refine lv_istore_n (lv' := [(2, .int r26), (0, .ref a_t), (1, .int x1)]) hx hb dX6_rows_29 rfl hl (by decide) rfl (fun ls hl => ?_)
        refine lv_iconst (v := 0) hx hb dX6_rows_30 (by decide) ?_
        refine lv_istore_n (lv' := [(3, .int (0 : Int32)), (2, .int r26), (0, .ref a_t), (1, .int x1)]) hx hb dX6_rows_31 rfl hl (by decide) rfl (fun ls hl => ?_)
        exact K32 FU r26 (0 : Int32) H locs ls hP hD hS (lv_sub hl [2, 1, 0] rfl) hF
      · replace hF := (if_neg k7).symm.trans hF
        refine lv_iload_n hx hb dX6_rows_10 rfl (lv_at hl 1 rfl) ?_
        refine lv_aload_n hx hb dX6_rows_11 rfl (lv_at hl 0 rfl) ?_
        refine get_X6_19 hx hb hts hown hK hP 0 rfl rfl dX6_rows_12 ?_
        refine lv_iload_n hx hb dX6_rows_15 rfl (lv_at hl 2 rfl) ?_
        obtain ⟨g16, hF⟩ := gdb hF
        refine va_iald hx hb hK hP 1 0 rfl rfl (vinb g16) dX6_rows_16 ?_
        refine lv_iadd hx hb dX6_rows_17 ?_
        refine lv_istore_n (lv' := [(1, .int (x1 + (c_left (x2).toNatClampNeg))), (0, .ref a_t), (2, .int x2)]) hx hb dX6_rows_18 rfl hl (by decide) rfl (fun ls hl => ?_)
        refine lv_iinc (v := x2 + 1) (lv' := [(2, .int (x2 + 1)), (1, .int (x1 + (c_left (x2).toNatClampNeg))), (0, .ref a_t)]) hx hb dX6_rows_19 hl (k := 2) rfl rfl (by decide) rfl (fun ls hl => ?_)
        refine lv_goto (tgt := 4) hx hb dX6_rows_22 (by decide) ?_
        exact ih4 (x1 + (c_left (x2).toNatClampNeg)) (x2 + 1) H locs ls hP hD hS (lv_sub hl [2, 1, 0] rfl) hF
  unfold F_X6_rows at hF
  have hP : va_P D vwCl (wd_X6_rows cI a_t a_z a_history a_text a_left a_other a_smooth a_weights a_signs a_worked c_states c_length c_thrown c_codes c_read c_isOpen c_hash c_left) s.heap := hP
  obtain ⟨H, hH⟩ : ∃ H, H = s.heap := ⟨_, rfl⟩
  rw [← hH]
  rw [← hH] at hP
  obtain ⟨locs, hlo⟩ : ∃ z : List Loc, z = [] := ⟨_, rfl⟩
  rw [← hlo]
  have hS : va_S A s.heap H locs := by rw [hH, hlo]; exact hS
  refine lv_iconst (v := 0) hx hb dX6_rows_0 (by decide) ?_
  refine lv_istore_n (lv' := [(1, .int (0 : Int32)), (0, .ref a_t)]) hx hb dX6_rows_1 rfl hl (by decide) rfl (fun ls hl => ?_)
  refine lv_iconst (v := 0) hx hb dX6_rows_2 (by decide) ?_
  refine lv_istore_n (lv' := [(2, .int (0 : Int32)), (1, .int (0 : Int32)), (0, .ref a_t)]) hx hb dX6_rows_3 rfl hl (by decide) rfl (fun ls hl => ?_)
  exact K4 FU (0 : Int32) (0 : Int32) H locs ls hP hD hS (lv_sub hl [2, 1, 0] rfl) hF
abbrev wd_X6_rowsWith (cI : ClassId) (a_t a_z a_history a_text a_left a_other a_smooth a_weights a_signs a_worked : Nat) (c_states : Int32) (c_length : Int32) (c_thrown : Int32) (c_codes : Int32) (c_read : Int32) (c_isOpen : Int32) (c_hash : Int64) (c_left : Nat → Int32) : va_W := [(a_t, .inr (6, [.ref a_z, .int c_states, .ref a_history, .int c_length, .ref a_text, .int c_thrown, .ref a_left, .ref a_other, .ref a_smooth, .ref a_weights, .int c_codes, .ref a_signs, .int c_read, .int c_isOpen, .ref a_worked, .long c_hash])), (a_left, .inl (cI, 6, .inl c_left))]
def rm_X6_rowsWith : Room := { frames := 2, cells := 0, slots := 0, locals := 45 }
set_option maxHeartbeats 4000000 in
set_option maxRecDepth 100000 in
theorem c_X6_rowsWith (l : Launch) (D : va_G) (cI : ClassId) (a_t a_z a_history a_text a_left a_other a_smooth a_weights a_signs a_worked : Nat) (sz : Nat) (c_states : Int32) (c_length : Int32) (c_thrown : Int32) (c_codes : Int32) (c_read : Int32) (c_isOpen : Int32) (c_hash : Int64) (c_left : Nat → Int32) (x1 : Int32) (o : Int32 × (Nat → Int32)) (hF : F_X6_rowsWith c_left x1 = some o) : Met l yX6_rowsWith (Cond.code yX6_rowsWith cX6_rowsWith 3 (some .int) :: WL) rm_X6_rowsWith (preM D [(cI, .int)] (wd_X6_rowsWith cI a_t a_z a_history a_text a_left a_other a_smooth a_weights a_signs a_worked c_states c_length c_thrown c_codes c_read c_isOpen c_hash c_left) sz [.ref a_t, .int x1]) (postI D o.1 (wd_X6_rowsWith cI a_t a_z a_history a_text a_left a_other a_smooth a_weights a_signs a_worked c_states c_length c_thrown c_codes c_read c_isOpen c_hash o.2) (wd_X6_rowsWith cI a_t a_z a_history a_text a_left a_other a_smooth a_weights a_signs a_worked c_states c_length c_thrown c_codes c_read c_isOpen c_hash c_left) sz) 0 0 (va_A (wd_X6_rowsWith cI a_t a_z a_history a_text a_left a_other a_smooth a_weights a_signs a_worked c_states c_length c_thrown c_codes c_read c_isOpen c_hash c_left) sz) := by
  refine mofI (by decide +kernel) (Nat.le_of_ble_eq_true rfl) ?_
  intro p e s m args below meth c Q A ls hx hb hml hown hts hK hP hD hS hA hG hl hret hsz0
  have hl : lv_has ls 3 [(0, .ref a_t), (1, .int x1)] := hl
  unfold F_X6_rowsWith at hF
  have hP : va_P D vwCl (wd_X6_rowsWith cI a_t a_z a_history a_text a_left a_other a_smooth a_weights a_signs a_worked c_states c_length c_thrown c_codes c_read c_isOpen c_hash c_left) s.heap := hP
  obtain ⟨H, hH⟩ : ∃ H, H = s.heap := ⟨_, rfl⟩
  rw [← hH]
  rw [← hH] at hP
  obtain ⟨locs, hlo⟩ : ∃ z : List Loc, z = [] := ⟨_, rfl⟩
  rw [← hlo]
  have hS : va_S A s.heap H locs := by rw [hH, hlo]; exact hS
  refine lv_aload_n hx hb dX6_rowsWith_0 rfl (lv_at hl 0 rfl) ?_
  refine get_X6_19 hx hb hts hown hK hP 0 rfl rfl dX6_rowsWith_1 ?_
  refine lv_iload_n hx hb dX6_rowsWith_4 rfl (lv_at hl 1 rfl) ?_
  obtain ⟨g5, hF⟩ := gdb hF
  refine va_iald hx hb hK hP 1 0 rfl rfl (vinb g5) dX6_rowsWith_5 ?_
  refine lv_if_ne (tgt := 11) hx hb dX6_rowsWith_6 (by decide) (fun k6 => ?_) (fun k6 => ?_)
  · replace hF := (if_neg k6).symm.trans hF
    refine lv_aload_n hx hb dX6_rowsWith_11 rfl (lv_at hl 0 rfl) ?_
    refine get_X6_19 hx hb hts hown hK hP 0 rfl rfl dX6_rowsWith_12 ?_
    refine lv_iload_n hx hb dX6_rowsWith_15 rfl (lv_at hl 1 rfl) ?_
    refine lv_dup2_11 hx hb dX6_rowsWith_16 rfl rfl ?_
    obtain ⟨g17, hF⟩ := gdb hF
    refine va_iald hx hb hK hP 1 0 rfl rfl (vinb g17) dX6_rowsWith_17 ?_
    refine lv_iconst (v := 1) hx hb dX6_rowsWith_18 (by decide) ?_
    refine lv_isub hx hb dX6_rowsWith_19 ?_
    obtain ⟨g20, hF⟩ := gdb hF
    refine va_iast hx hb hK hP hD hS 1 0 rfl rfl (vinb g20) dX6_rowsWith_20 (fun H locs hP hD hS => ?_)
    have hP : va_P D vwCl (wd_X6_rowsWith cI a_t a_z a_history a_text a_left a_other a_smooth a_weights a_signs a_worked c_states c_length c_thrown c_codes c_read c_isOpen c_hash (upd c_left (x1).toNatClampNeg ((c_left (x1).toNatClampNeg) - (1 : Int32)))) H := hP
    have hD : va_D A (wd_X6_rowsWith cI a_t a_z a_history a_text a_left a_other a_smooth a_weights a_signs a_worked c_states c_length c_thrown c_codes c_read c_isOpen c_hash (upd c_left (x1).toNatClampNeg ((c_left (x1).toNatClampNeg) - (1 : Int32)))) := hD
    refine lv_aload_n hx hb dX6_rowsWith_21 rfl (lv_at hl 0 rfl) ?_
    obtain ⟨r22, hr22, hF⟩ := opb hF
    refine kVI (As := []) (rest := []) (ws' := (wd_X6_rowsWith cI a_t a_z a_history a_text a_left a_other a_smooth a_weights a_signs a_worked c_states c_length c_thrown c_codes c_read c_isOpen c_hash (upd c_left (x1).toNatClampNeg ((c_left (x1).toNatClampNeg) - (1 : Int32))))) ⟨hx, hb, hml, hown, hts⟩ (c_X6_rows l D cI a_t a_z a_history a_text a_left a_other a_smooth a_weights a_signs a_worked H.size c_states c_length c_thrown c_codes c_read c_isOpen c_hash (upd c_left (x1).toNatClampNeg ((c_left (x1).toNatClampNeg) - (1 : Int32)))  r22 hr22) (cwV 0 hts mw_X6_52 rfl rfl rfl hd_X6_rows ⟨Nat.le_of_ble_eq_true rfl, Nat.le_of_ble_eq_true rfl⟩) hS hA hG hK hP hD [0, 1] rfl rfl rfl rfl rfl ⟨Nat.zero_le _, Nat.zero_le _⟩ 6 0 rfl rfl rfl rfl hl.1 rfl (Nat.le_of_ble_eq_true rfl) dX6_rowsWith_22 (fun H locs hP hD hS => ?_)
    refine lv_istore_n (lv' := [(2, .int r22), (0, .ref a_t), (1, .int x1)]) hx hb dX6_rowsWith_25 rfl hl (by decide) rfl (fun ls hl => ?_)
    refine lv_aload_n hx hb dX6_rowsWith_26 rfl (lv_at hl 1 rfl) ?_
    refine get_X6_19 hx hb hts hown hK hP 0 rfl rfl dX6_rowsWith_27 ?_
    refine lv_iload_n hx hb dX6_rowsWith_30 rfl (lv_at hl 2 rfl) ?_
    refine lv_dup2_11 hx hb dX6_rowsWith_31 rfl rfl ?_
    obtain ⟨g32, hF⟩ := gdb hF
    refine va_iald hx hb hK hP 1 0 rfl rfl (vinb g32) dX6_rowsWith_32 ?_
    refine lv_iconst (v := 1) hx hb dX6_rowsWith_33 (by decide) ?_
    refine lv_iadd hx hb dX6_rowsWith_34 ?_
    obtain ⟨g35, hF⟩ := gdb hF
    refine va_iast hx hb hK hP hD hS 1 0 rfl rfl (vinb g35) dX6_rowsWith_35 (fun H locs hP hD hS => ?_)
    have hP : va_P D vwCl (wd_X6_rowsWith cI a_t a_z a_history a_text a_left a_other a_smooth a_weights a_signs a_worked c_states c_length c_thrown c_codes c_read c_isOpen c_hash (upd (upd c_left (x1).toNatClampNeg ((c_left (x1).toNatClampNeg) - (1 : Int32))) (x1).toNatClampNeg (((upd c_left (x1).toNatClampNeg ((c_left (x1).toNatClampNeg) - (1 : Int32))) (x1).toNatClampNeg) + (1 : Int32)))) H := hP
    have hD : va_D A (wd_X6_rowsWith cI a_t a_z a_history a_text a_left a_other a_smooth a_weights a_signs a_worked c_states c_length c_thrown c_codes c_read c_isOpen c_hash (upd (upd c_left (x1).toNatClampNeg ((c_left (x1).toNatClampNeg) - (1 : Int32))) (x1).toNatClampNeg (((upd c_left (x1).toNatClampNeg ((c_left (x1).toNatClampNeg) - (1 : Int32))) (x1).toNatClampNeg) + (1 : Int32)))) := hD
    refine lv_iload_n hx hb dX6_rowsWith_36 rfl (lv_at hl 0 rfl) ?_
    have ho := Option.some.inj hF
    exact hret H locs ls 37 r22 _ hP hS (by rw [← ho]) (by rw [← ho]) dX6_rowsWith_37
  · replace hF := (if_pos k6).symm.trans hF
    refine lv_iconst (v := 0) hx hb dX6_rowsWith_9 (by decide) ?_
    have ho := Option.some.inj hF
    exact hret H locs ls 10 (0 : Int32) _ hP hS (by rw [← ho]) (by rw [← ho]) dX6_rowsWith_10
abbrev wd_X6_allRows (cI : ClassId) (a_t a_z a_history a_text a_left a_other a_smooth a_weights a_signs a_worked : Nat) (c_states : Int32) (c_length : Int32) (c_thrown : Int32) (c_codes : Int32) (c_read : Int32) (c_isOpen : Int32) (c_hash : Int64) (c_left : Nat → Int32) (c_z : Nat → Int32) : va_W := [(a_t, .inr (6, [.ref a_z, .int c_states, .ref a_history, .int c_length, .ref a_text, .int c_thrown, .ref a_left, .ref a_other, .ref a_smooth, .ref a_weights, .int c_codes, .ref a_signs, .int c_read, .int c_isOpen, .ref a_worked, .long c_hash])), (a_left, .inl (cI, 6, .inl c_left)), (a_z, .inl (cI, 13, .inl c_z))]
def rm_X6_allRows : Room := { frames := 2, cells := 0, slots := 0, locals := 45 }
set_option maxHeartbeats 4000000 in
set_option maxRecDepth 100000 in
theorem c_X6_allRows (l : Launch) (D : va_G) (cI : ClassId) (a_t a_z a_history a_text a_left a_other a_smooth a_weights a_signs a_worked : Nat) (sz : Nat) (c_states : Int32) (c_length : Int32) (c_thrown : Int32) (c_codes : Int32) (c_read : Int32) (c_isOpen : Int32) (c_hash : Int64) (c_left : Nat → Int32) (c_z : Nat → Int32) (o : Int32 × (Nat → Int32)) (hF : F_X6_allRows c_left c_z = some o) : Met l yX6_allRows (Cond.code yX6_allRows cX6_allRows 1 (some .int) :: WL) rm_X6_allRows (preM D [(cI, .int)] (wd_X6_allRows cI a_t a_z a_history a_text a_left a_other a_smooth a_weights a_signs a_worked c_states c_length c_thrown c_codes c_read c_isOpen c_hash c_left c_z) sz [.ref a_t]) (postI D o.1 (wd_X6_allRows cI a_t a_z a_history a_text a_left a_other a_smooth a_weights a_signs a_worked c_states c_length c_thrown c_codes c_read c_isOpen c_hash o.2 c_z) (wd_X6_allRows cI a_t a_z a_history a_text a_left a_other a_smooth a_weights a_signs a_worked c_states c_length c_thrown c_codes c_read c_isOpen c_hash c_left c_z) sz) 0 0 (va_A (wd_X6_allRows cI a_t a_z a_history a_text a_left a_other a_smooth a_weights a_signs a_worked c_states c_length c_thrown c_codes c_read c_isOpen c_hash c_left c_z) sz) := by
  refine mofI (by decide +kernel) (Nat.le_of_ble_eq_true rfl) ?_
  intro p e s m args below meth c Q A ls hx hb hml hown hts hK hP hD hS hA hG hl hret hsz0
  have hl : lv_has ls 1 [(0, .ref a_t)] := hl
  unfold F_X6_allRows at hF
  have hP : va_P D vwCl (wd_X6_allRows cI a_t a_z a_history a_text a_left a_other a_smooth a_weights a_signs a_worked c_states c_length c_thrown c_codes c_read c_isOpen c_hash c_left c_z) s.heap := hP
  obtain ⟨H, hH⟩ : ∃ H, H = s.heap := ⟨_, rfl⟩
  rw [← hH]
  rw [← hH] at hP
  obtain ⟨locs, hlo⟩ : ∃ z : List Loc, z = [] := ⟨_, rfl⟩
  rw [← hlo]
  have hS : va_S A s.heap H locs := by rw [hH, hlo]; exact hS
  refine lv_aload_n hx hb dX6_allRows_0 rfl (lv_at hl 0 rfl) ?_
  obtain ⟨r1, hr1, hF⟩ := opb hF
  refine kVV (As := []) (rest := []) (ws' := (wd_X6_allRows cI a_t a_z a_history a_text a_left a_other a_smooth a_weights a_signs a_worked c_states c_length c_thrown c_codes c_read c_isOpen c_hash r1 c_z)) ⟨hx, hb, hml, hown, hts⟩ (c_X6_countAll l D cI a_t a_z a_history a_text a_left a_other a_smooth a_weights a_signs a_worked H.size c_states c_length c_thrown c_codes c_read c_isOpen c_hash c_left c_z  r1 hr1) (cwV 0 hts mw_X6_56 rfl rfl rfl hd_X6_countAll ⟨Nat.le_of_ble_eq_true rfl, Nat.le_of_ble_eq_true rfl⟩) hS hA hG hK hP hD [0, 1, 2] rfl rfl rfl rfl rfl ⟨Nat.zero_le _, Nat.zero_le _⟩ 6 0 rfl rfl rfl rfl hl.1 rfl (Nat.le_of_ble_eq_true rfl) dX6_allRows_1 (fun H locs hP hD hS => ?_)
  refine lv_aload_n hx hb dX6_allRows_4 rfl (lv_at hl 0 rfl) ?_
  obtain ⟨r5, hr5, hF⟩ := opb hF
  refine kVI (As := []) (rest := []) (ws' := (wd_X6_allRows cI a_t a_z a_history a_text a_left a_other a_smooth a_weights a_signs a_worked c_states c_length c_thrown c_codes c_read c_isOpen c_hash r1 c_z)) ⟨hx, hb, hml, hown, hts⟩ (c_X6_rows l D cI a_t a_z a_history a_text a_left a_other a_smooth a_weights a_signs a_worked H.size c_states c_length c_thrown c_codes c_read c_isOpen c_hash r1  r5 hr5) (cwV 0 hts mw_X6_52 rfl rfl rfl hd_X6_rows ⟨Nat.le_of_ble_eq_true rfl, Nat.le_of_ble_eq_true rfl⟩) hS hA hG hK hP hD [0, 1] rfl rfl rfl rfl rfl ⟨Nat.zero_le _, Nat.zero_le _⟩ 6 0 rfl rfl rfl rfl hl.1 rfl (Nat.le_of_ble_eq_true rfl) dX6_allRows_5 (fun H locs hP hD hS => ?_)
  have ho := Option.some.inj hF
  exact hret H locs ls 8 r5 _ hP hS (by rw [← ho]) (by rw [← ho]) dX6_allRows_8
abbrev wd_X6_copyRow (cI : ClassId) (a_t a_z a_history a_text a_left a_other a_smooth a_weights a_signs a_worked : Nat) (c_states : Int32) (c_length : Int32) (c_thrown : Int32) (c_codes : Int32) (c_read : Int32) (c_isOpen : Int32) (c_hash : Int64) (c_other : Nat → Int32) (c_z : Nat → Int32) : va_W := [(a_t, .inr (6, [.ref a_z, .int c_states, .ref a_history, .int c_length, .ref a_text, .int c_thrown, .ref a_left, .ref a_other, .ref a_smooth, .ref a_weights, .int c_codes, .ref a_signs, .int c_read, .int c_isOpen, .ref a_worked, .long c_hash])), (a_other, .inl (cI, 11, .inl c_other)), (a_z, .inl (cI, 13, .inl c_z))]
def rm_X6_copyRow : Room := { frames := 0, cells := 0, slots := 0, locals := 0 }
set_option maxHeartbeats 4000000 in
set_option maxRecDepth 100000 in
theorem c_X6_copyRow (l : Launch) (D : va_G) (cI : ClassId) (a_t a_z a_history a_text a_left a_other a_smooth a_weights a_signs a_worked : Nat) (sz : Nat) (c_states : Int32) (c_length : Int32) (c_thrown : Int32) (c_codes : Int32) (c_read : Int32) (c_isOpen : Int32) (c_hash : Int64) (c_other : Nat → Int32) (c_z : Nat → Int32) (o : (Nat → Int32)) (hF : F_X6_copyRow c_other c_z = some o) : Met l yX6_copyRow (Cond.code yX6_copyRow cX6_copyRow 2 none :: WL) rm_X6_copyRow (preM D [(cI, .int)] (wd_X6_copyRow cI a_t a_z a_history a_text a_left a_other a_smooth a_weights a_signs a_worked c_states c_length c_thrown c_codes c_read c_isOpen c_hash c_other c_z) sz [.ref a_t]) (postV D (wd_X6_copyRow cI a_t a_z a_history a_text a_left a_other a_smooth a_weights a_signs a_worked c_states c_length c_thrown c_codes c_read c_isOpen c_hash o c_z) (wd_X6_copyRow cI a_t a_z a_history a_text a_left a_other a_smooth a_weights a_signs a_worked c_states c_length c_thrown c_codes c_read c_isOpen c_hash c_other c_z) sz) 0 0 (va_A (wd_X6_copyRow cI a_t a_z a_history a_text a_left a_other a_smooth a_weights a_signs a_worked c_states c_length c_thrown c_codes c_read c_isOpen c_hash c_other c_z) sz) := by
  refine mofV (by decide +kernel) (Nat.le_of_ble_eq_true rfl) ?_
  intro p e s m args below meth c Q A ls hx hb hml hown hts hK hP hD hS hA hG hl hret hsz0
  have hl : lv_has ls 2 [(0, .ref a_t)] := hl
  have K2 : ∀ (n2 : Nat) (c_other : Nat → Int32) (x1 : Int32) (H : Heap) (locs : List Loc) (ls : Array Slot), va_P D vwCl (wd_X6_copyRow cI a_t a_z a_history a_text a_left a_other a_smooth a_weights a_signs a_worked c_states c_length c_thrown c_codes c_read c_isOpen c_hash c_other c_z) H → va_D A (wd_X6_copyRow cI a_t a_z a_history a_text a_left a_other a_smooth a_weights a_signs a_worked c_states c_length c_thrown c_codes c_read c_isOpen c_hash c_other c_z) → va_S A s.heap H locs → lv_has ls 2 [(0, .ref a_t), (1, .int x1)] → F_X6_copyRow_L2 c_z n2 c_other x1 = some o → W p l e rm_X6_copyRow s m args below meth c H locs 0 0 Q (F0 m 2 ls []) := by
    intro n2
    induction n2 with
    | zero => intro c_other x1 H locs ls hP hD hS hl hF; exact nos hF
    | succ n2 ih2 =>
      intro c_other x1 H locs ls hP hD hS hl hF
      rw [F_X6_copyRow_L2] at hF
      refine lv_iload_n hx hb dX6_copyRow_2 rfl (lv_at hl 1 rfl) ?_
      refine lv_aload_n hx hb dX6_copyRow_3 rfl (lv_at hl 0 rfl) ?_
      refine get_X6_7 hx hb hts hown hK hP 0 rfl rfl dX6_copyRow_4 ?_
      refine lv_iconst (v := 0) hx hb dX6_copyRow_7 (by decide) ?_
      obtain ⟨g8, hF⟩ := gdb hF
      refine va_iald hx hb hK hP 2 0 rfl rfl (vinb g8) dX6_copyRow_8 ?_
      refine lv_icmp_ge (tgt := 32) hx hb dX6_copyRow_9 (by decide) (fun k9 => ?_) (fun k9 => ?_)
      · replace hF := (if_pos k9).symm.trans hF
        have ho := Option.some.inj hF
        exact hret H locs ls 32 _ hP hS (by rw [← ho]) dX6_copyRow_32
      · replace hF := (if_neg k9).symm.trans hF
        refine lv_aload_n hx hb dX6_copyRow_12 rfl (lv_at hl 0 rfl) ?_
        refine get_X6_22 hx hb hts hown hK hP 0 rfl rfl dX6_copyRow_13 ?_
        refine lv_iload_n hx hb dX6_copyRow_16 rfl (lv_at hl 1 rfl) ?_
        refine lv_aload_n hx hb dX6_copyRow_17 rfl (lv_at hl 0 rfl) ?_
        refine get_X6_7 hx hb hts hown hK hP 0 rfl rfl dX6_copyRow_18 ?_
        refine lv_iconst (v := 2) hx hb dX6_copyRow_21 (by decide) ?_
        refine lv_iload_n hx hb dX6_copyRow_22 rfl (lv_at hl 1 rfl) ?_
        refine lv_iadd hx hb dX6_copyRow_23 ?_
        obtain ⟨g24, hF⟩ := gdb hF
        refine va_iald hx hb hK hP 2 0 rfl rfl (vinb g24) dX6_copyRow_24 ?_
        obtain ⟨g25, hF⟩ := gdb hF
        refine va_iast hx hb hK hP hD hS 1 0 rfl rfl (vinb g25) dX6_copyRow_25 (fun H locs hP hD hS => ?_)
        have hP : va_P D vwCl (wd_X6_copyRow cI a_t a_z a_history a_text a_left a_other a_smooth a_weights a_signs a_worked c_states c_length c_thrown c_codes c_read c_isOpen c_hash (upd c_other (x1).toNatClampNeg (c_z ((2 : Int32) + x1).toNatClampNeg)) c_z) H := hP
        have hD : va_D A (wd_X6_copyRow cI a_t a_z a_history a_text a_left a_other a_smooth a_weights a_signs a_worked c_states c_length c_thrown c_codes c_read c_isOpen c_hash (upd c_other (x1).toNatClampNeg (c_z ((2 : Int32) + x1).toNatClampNeg)) c_z) := hD
        refine lv_iinc (v := x1 + 1) (lv' := [(1, .int (x1 + 1)), (0, .ref a_t)]) hx hb dX6_copyRow_26 hl (k := 1) rfl rfl (by decide) rfl (fun ls hl => ?_)
        refine lv_goto (tgt := 2) hx hb dX6_copyRow_29 (by decide) ?_
        exact ih2 (upd c_other (x1).toNatClampNeg (c_z ((2 : Int32) + x1).toNatClampNeg)) (x1 + 1) H locs ls hP hD hS (lv_sub hl [1, 0] rfl) hF
  unfold F_X6_copyRow at hF
  have hP : va_P D vwCl (wd_X6_copyRow cI a_t a_z a_history a_text a_left a_other a_smooth a_weights a_signs a_worked c_states c_length c_thrown c_codes c_read c_isOpen c_hash c_other c_z) s.heap := hP
  obtain ⟨H, hH⟩ : ∃ H, H = s.heap := ⟨_, rfl⟩
  rw [← hH]
  rw [← hH] at hP
  obtain ⟨locs, hlo⟩ : ∃ z : List Loc, z = [] := ⟨_, rfl⟩
  rw [← hlo]
  have hS : va_S A s.heap H locs := by rw [hH, hlo]; exact hS
  refine lv_iconst (v := 0) hx hb dX6_copyRow_0 (by decide) ?_
  refine lv_istore_n (lv' := [(1, .int (0 : Int32)), (0, .ref a_t)]) hx hb dX6_copyRow_1 rfl hl (by decide) rfl (fun ls hl => ?_)
  exact K2 FU c_other (0 : Int32) H locs ls hP hD hS (lv_sub hl [1, 0] rfl) hF
abbrev wd_X6_lowestRank (cI : ClassId) (a_t a_z a_history a_text a_left a_other a_smooth a_weights a_signs a_worked : Nat) (c_states : Int32) (c_length : Int32) (c_thrown : Int32) (c_codes : Int32) (c_read : Int32) (c_isOpen : Int32) (c_hash : Int64) (c_left : Nat → Int32) (c_other : Nat → Int32) (c_z : Nat → Int32) : va_W := [(a_t, .inr (6, [.ref a_z, .int c_states, .ref a_history, .int c_length, .ref a_text, .int c_thrown, .ref a_left, .ref a_other, .ref a_smooth, .ref a_weights, .int c_codes, .ref a_signs, .int c_read, .int c_isOpen, .ref a_worked, .long c_hash])), (a_left, .inl (cI, 6, .inl c_left)), (a_other, .inl (cI, 11, .inl c_other)), (a_z, .inl (cI, 13, .inl c_z))]
def rm_X6_lowestRank : Room := { frames := 3, cells := 0, slots := 0, locals := 67 }
set_option maxHeartbeats 4000000 in
set_option maxRecDepth 100000 in
theorem c_X6_lowestRank (l : Launch) (D : va_G) (cI : ClassId) (a_t a_z a_history a_text a_left a_other a_smooth a_weights a_signs a_worked : Nat) (sz : Nat) (c_states : Int32) (c_length : Int32) (c_thrown : Int32) (c_codes : Int32) (c_read : Int32) (c_isOpen : Int32) (c_hash : Int64) (c_left : Nat → Int32) (c_other : Nat → Int32) (c_z : Nat → Int32) (x1 : Int32) (o : Int32 × (Nat → Int32)) (hF : F_X6_lowestRank c_left c_other c_z x1 = some o) : Met l yX6_lowestRank (Cond.code yX6_lowestRank cX6_lowestRank 5 (some .int) :: WL) rm_X6_lowestRank (preM D [(cI, .int)] (wd_X6_lowestRank cI a_t a_z a_history a_text a_left a_other a_smooth a_weights a_signs a_worked c_states c_length c_thrown c_codes c_read c_isOpen c_hash c_left c_other c_z) sz [.ref a_t, .int x1]) (postI D o.1 (wd_X6_lowestRank cI a_t a_z a_history a_text a_left a_other a_smooth a_weights a_signs a_worked c_states c_length c_thrown c_codes c_read c_isOpen c_hash o.2 c_other c_z) (wd_X6_lowestRank cI a_t a_z a_history a_text a_left a_other a_smooth a_weights a_signs a_worked c_states c_length c_thrown c_codes c_read c_isOpen c_hash c_left c_other c_z) sz) 0 0 (va_A (wd_X6_lowestRank cI a_t a_z a_history a_text a_left a_other a_smooth a_weights a_signs a_worked c_states c_length c_thrown c_codes c_read c_isOpen c_hash c_left c_other c_z) sz) := by
  refine mofI (by decide +kernel) (Nat.le_of_ble_eq_true rfl) ?_
  intro p e s m args below meth c Q A ls hx hb hml hown hts hK hP hD hS hA hG hl hret hsz0
  have hl : lv_has ls 5 [(0, .ref a_t), (1, .int x1)] := hl
  have K8 : ∀ (n8 : Nat) (c_left : Nat → Int32) (x2 : Int32) (x3 : Int32) (H : Heap) (locs : List Loc) (ls : Array Slot), va_P D vwCl (wd_X6_lowestRank cI a_t a_z a_history a_text a_left a_other a_smooth a_weights a_signs a_worked c_states c_length c_thrown c_codes c_read c_isOpen c_hash c_left c_other c_z) H → va_D A (wd_X6_lowestRank cI a_t a_z a_history a_text a_left a_other a_smooth a_weights a_signs a_worked c_states c_length c_thrown c_codes c_read c_isOpen c_hash c_left c_other c_z) → va_S A s.heap H locs → lv_has ls 5 [(0, .ref a_t), (1, .int x1), (2, .int x2), (3, .int x3)] → F_X6_lowestRank_L8 c_other c_z x1 n8 c_left x2 x3 = some o → W p l e rm_X6_lowestRank s m args below meth c H locs 0 0 Q (F0 m 8 ls []) := by
    intro n8
    induction n8 with
    | zero => intro c_left x2 x3 H locs ls hP hD hS hl hF; exact nos hF
    | succ n8 ih8 =>
      have K16 : ∀ (n16 : Nat) (c_left : Nat → Int32) (x2 : Int32) (x3 : Int32) (x4 : Int32) (H : Heap) (locs : List Loc) (ls : Array Slot), va_P D vwCl (wd_X6_lowestRank cI a_t a_z a_history a_text a_left a_other a_smooth a_weights a_signs a_worked c_states c_length c_thrown c_codes c_read c_isOpen c_hash c_left c_other c_z) H → va_D A (wd_X6_lowestRank cI a_t a_z a_history a_text a_left a_other a_smooth a_weights a_signs a_worked c_states c_length c_thrown c_codes c_read c_isOpen c_hash c_left c_other c_z) → va_S A s.heap H locs → lv_has ls 5 [(0, .ref a_t), (1, .int x1), (2, .int x2), (3, .int x3), (4, .int x4)] → F_X6_lowestRank_L16 (F_X6_lowestRank_L8 c_other c_z x1 n8) c_other c_z x1 n16 c_left x2 x3 x4 = some o → W p l e rm_X6_lowestRank s m args below meth c H locs 0 0 Q (F0 m 16 ls []) := by
        intro n16
        induction n16 with
        | zero => intro c_left x2 x3 x4 H locs ls hP hD hS hl hF; exact nos hF
        | succ n16 ih16 =>
          intro c_left x2 x3 x4 H locs ls hP hD hS hl hF
          rw [F_X6_lowestRank_L16] at hF
          refine lv_iload hx hb dX6_lowestRank_16 (lv_at hl 4 rfl) ?_
          refine lv_aload_n hx hb dX6_lowestRank_18 rfl (lv_at hl 0 rfl) ?_
          refine get_X6_22 hx hb hts hown hK hP 0 rfl rfl dX6_lowestRank_19 ?_
          refine lv_iload_n hx hb dX6_lowestRank_22 rfl (lv_at hl 3 rfl) ?_
          obtain ⟨g23, hF⟩ := gdb hF
          refine va_iald hx hb hK hP 2 0 rfl rfl (vinb g23) dX6_lowestRank_23 ?_
          refine lv_icmp_ge (tgt := 42) hx hb dX6_lowestRank_24 (by decide) (fun k24 => ?_) (fun k24 => ?_)
          · replace hF := (if_pos k24).symm.trans hF
            refine lv_aload_n hx hb dX6_lowestRank_42 rfl (lv_at hl 0 rfl) ?_
            refine get_X6_19 hx hb hts hown hK hP 0 rfl rfl dX6_lowestRank_43 ?_
            refine lv_aload_n hx hb dX6_lowestRank_46 rfl (lv_at hl 0 rfl) ?_
            refine get_X6_22 hx hb hts hown hK hP 0 rfl rfl dX6_lowestRank_47 ?_
            refine lv_iload_n hx hb dX6_lowestRank_50 rfl (lv_at hl 3 rfl) ?_
            obtain ⟨g51, hF⟩ := gdb hF
            refine va_iald hx hb hK hP 2 0 rfl rfl (vinb g51) dX6_lowestRank_51 ?_
            refine lv_dup2_11 hx hb dX6_lowestRank_52 rfl rfl ?_
            obtain ⟨g53, hF⟩ := gdb hF
            refine va_iald hx hb hK hP 1 0 rfl rfl (vinb g53) dX6_lowestRank_53 ?_
            refine lv_iconst (v := 1) hx hb dX6_lowestRank_54 (by decide) ?_
            refine lv_isub hx hb dX6_lowestRank_55 ?_
            obtain ⟨g56, hF⟩ := gdb hF
            refine va_iast hx hb hK hP hD hS 1 0 rfl rfl (vinb g56) dX6_lowestRank_56 (fun H locs hP hD hS => ?_)
            have hP : va_P D vwCl (wd_X6_lowestRank cI a_t a_z a_history a_text a_left a_other a_smooth a_weights a_signs a_worked c_states c_length c_thrown c_codes c_read c_isOpen c_hash (upd c_left (c_other (x3).toNatClampNeg).toNatClampNeg ((c_left (c_other (x3).toNatClampNeg).toNatClampNeg) - (1 : Int32))) c_other c_z) H := hP
            have hD : va_D A (wd_X6_lowestRank cI a_t a_z a_history a_text a_left a_other a_smooth a_weights a_signs a_worked c_states c_length c_thrown c_codes c_read c_isOpen c_hash (upd c_left (c_other (x3).toNatClampNeg).toNatClampNeg ((c_left (c_other (x3).toNatClampNeg).toNatClampNeg) - (1 : Int32))) c_other c_z) := hD
            refine lv_iinc (v := x3 + 1) (lv' := [(3, .int (x3 + 1)), (0, .ref a_t), (1, .int x1), (2, .int x2), (4, .int x4)]) hx hb dX6_lowestRank_57 hl (k := 3) rfl rfl (by decide) rfl (fun ls hl => ?_)
            refine lv_goto (tgt := 8) hx hb dX6_lowestRank_60 (by decide) ?_
            exact ih8 (upd c_left (c_other (x3).toNatClampNeg).toNatClampNeg ((c_left (c_other (x3).toNatClampNeg).toNatClampNeg) - (1 : Int32))) x2 (x3 + 1) H locs ls hP hD hS (lv_sub hl [1, 2, 3, 0] rfl) hF
          · replace hF := (if_neg k24).symm.trans hF
            refine lv_iload_n hx hb dX6_lowestRank_27 rfl (lv_at hl 2 rfl) ?_
            refine lv_aload_n hx hb dX6_lowestRank_28 rfl (lv_at hl 0 rfl) ?_
            refine lv_iload hx hb dX6_lowestRank_29 (lv_at hl 4 rfl) ?_
            obtain ⟨r31, hr31, hF⟩ := opb hF
            refine kVI (As := [.int x4]) (rest := [.int x2]) (ws' := (wd_X6_lowestRank cI a_t a_z a_history a_text a_left a_other a_smooth a_weights a_signs a_worked c_states c_length c_thrown c_codes c_read c_isOpen c_hash r31.2 c_other c_z)) ⟨hx, hb, hml, hown, hts⟩ (c_X6_rowsWith l D cI a_t a_z a_history a_text a_left a_other a_smooth a_weights a_signs a_worked H.size c_states c_length c_thrown c_codes c_read c_isOpen c_hash c_left x4 r31 hr31) (cwV 1 hts mw_X6_59 rfl rfl rfl hd_X6_rowsWith ⟨Nat.le_of_ble_eq_true rfl, Nat.le_of_ble_eq_true rfl⟩) hS hA hG hK hP hD [0, 1] rfl rfl rfl rfl rfl ⟨Nat.zero_le _, Nat.zero_le _⟩ 6 0 rfl rfl rfl rfl hl.1 rfl (Nat.le_of_ble_eq_true rfl) dX6_lowestRank_31 (fun H locs hP hD hS => ?_)
            refine lv_iadd hx hb dX6_lowestRank_34 ?_
            refine lv_istore_n (lv' := [(2, .int (x2 + r31.1)), (0, .ref a_t), (1, .int x1), (3, .int x3), (4, .int x4)]) hx hb dX6_lowestRank_35 rfl hl (by decide) rfl (fun ls hl => ?_)
            refine lv_iinc (v := x4 + 1) (lv' := [(4, .int (x4 + 1)), (2, .int (x2 + r31.1)), (0, .ref a_t), (1, .int x1), (3, .int x3)]) hx hb dX6_lowestRank_36 hl (k := 4) rfl rfl (by decide) rfl (fun ls hl => ?_)
            refine lv_goto (tgt := 16) hx hb dX6_lowestRank_39 (by decide) ?_
            exact ih16 r31.2 (x2 + r31.1) x3 (x4 + 1) H locs ls hP hD hS (lv_sub hl [2, 3, 1, 4, 0] rfl) hF
      intro c_left x2 x3 H locs ls hP hD hS hl hF
      rw [F_X6_lowestRank_L8] at hF
      refine lv_iload_n hx hb dX6_lowestRank_8 rfl (lv_at hl 3 rfl) ?_
      refine lv_iload_n hx hb dX6_lowestRank_9 rfl (lv_at hl 1 rfl) ?_
      refine lv_icmp_ge (tgt := 63) hx hb dX6_lowestRank_10 (by decide) (fun k10 => ?_) (fun k10 => ?_)
      · replace hF := (if_pos k10).symm.trans hF
        refine lv_iload_n hx hb dX6_lowestRank_63 rfl (lv_at hl 2 rfl) ?_
        have ho := Option.some.inj hF
        exact hret H locs ls 64 x2 _ hP hS (by rw [← ho]) (by rw [← ho]) dX6_lowestRank_64
      · replace hF := (if_neg k10).symm.trans hF
        refine lv_iconst (v := 0) hx hb dX6_lowestRank_13 (by decide) ?_
        refine lv_istore (lv' := [(4, .int (0 : Int32)), (0, .ref a_t), (1, .int x1), (2, .int x2), (3, .int x3)]) hx hb dX6_lowestRank_14 hl (by decide) rfl (fun ls hl => ?_)
        exact K16 FU c_left x2 x3 (0 : Int32) H locs ls hP hD hS (lv_sub hl [1, 2, 3, 4, 0] rfl) hF
  unfold F_X6_lowestRank at hF
  have hP : va_P D vwCl (wd_X6_lowestRank cI a_t a_z a_history a_text a_left a_other a_smooth a_weights a_signs a_worked c_states c_length c_thrown c_codes c_read c_isOpen c_hash c_left c_other c_z) s.heap := hP
  obtain ⟨H, hH⟩ : ∃ H, H = s.heap := ⟨_, rfl⟩
  rw [← hH]
  rw [← hH] at hP
  obtain ⟨locs, hlo⟩ : ∃ z : List Loc, z = [] := ⟨_, rfl⟩
  rw [← hlo]
  have hS : va_S A s.heap H locs := by rw [hH, hlo]; exact hS
  refine lv_aload_n hx hb dX6_lowestRank_0 rfl (lv_at hl 0 rfl) ?_
  obtain ⟨r1, hr1, hF⟩ := opb hF
  refine kVV (As := []) (rest := []) (ws' := (wd_X6_lowestRank cI a_t a_z a_history a_text a_left a_other a_smooth a_weights a_signs a_worked c_states c_length c_thrown c_codes c_read c_isOpen c_hash r1 c_other c_z)) ⟨hx, hb, hml, hown, hts⟩ (c_X6_countAll l D cI a_t a_z a_history a_text a_left a_other a_smooth a_weights a_signs a_worked H.size c_states c_length c_thrown c_codes c_read c_isOpen c_hash c_left c_z  r1 hr1) (cwV 0 hts mw_X6_56 rfl rfl rfl hd_X6_countAll ⟨Nat.le_of_ble_eq_true rfl, Nat.le_of_ble_eq_true rfl⟩) hS hA hG hK hP hD [0, 1, 3] rfl rfl rfl rfl rfl ⟨Nat.zero_le _, Nat.zero_le _⟩ 6 0 rfl rfl rfl rfl hl.1 rfl (Nat.le_of_ble_eq_true rfl) dX6_lowestRank_1 (fun H locs hP hD hS => ?_)
  refine lv_iconst (v := 0) hx hb dX6_lowestRank_4 (by decide) ?_
  refine lv_istore_n (lv' := [(2, .int (0 : Int32)), (0, .ref a_t), (1, .int x1)]) hx hb dX6_lowestRank_5 rfl hl (by decide) rfl (fun ls hl => ?_)
  refine lv_iconst (v := 0) hx hb dX6_lowestRank_6 (by decide) ?_
  refine lv_istore_n (lv' := [(3, .int (0 : Int32)), (2, .int (0 : Int32)), (0, .ref a_t), (1, .int x1)]) hx hb dX6_lowestRank_7 rfl hl (by decide) rfl (fun ls hl => ?_)
  exact K8 FU r1 (0 : Int32) (0 : Int32) H locs ls hP hD hS (lv_sub hl [2, 3, 1, 0] rfl) hF
abbrev wd_X6_rankOfOther (cI : ClassId) (a_t a_z a_history a_text a_left a_other a_smooth a_weights a_signs a_worked : Nat) (c_states : Int32) (c_length : Int32) (c_thrown : Int32) (c_codes : Int32) (c_read : Int32) (c_isOpen : Int32) (c_hash : Int64) (c_left : Nat → Int32) (c_other : Nat → Int32) (c_z : Nat → Int32) : va_W := [(a_t, .inr (6, [.ref a_z, .int c_states, .ref a_history, .int c_length, .ref a_text, .int c_thrown, .ref a_left, .ref a_other, .ref a_smooth, .ref a_weights, .int c_codes, .ref a_signs, .int c_read, .int c_isOpen, .ref a_worked, .long c_hash])), (a_left, .inl (cI, 6, .inl c_left)), (a_other, .inl (cI, 11, .inl c_other)), (a_z, .inl (cI, 13, .inl c_z))]
def rm_X6_rankOfOther : Room := { frames := 4, cells := 0, slots := 0, locals := 91 }
set_option maxHeartbeats 4000000 in
set_option maxRecDepth 100000 in
theorem c_X6_rankOfOther (l : Launch) (D : va_G) (cI : ClassId) (a_t a_z a_history a_text a_left a_other a_smooth a_weights a_signs a_worked : Nat) (sz : Nat) (c_states : Int32) (c_length : Int32) (c_thrown : Int32) (c_codes : Int32) (c_read : Int32) (c_isOpen : Int32) (c_hash : Int64) (c_left : Nat → Int32) (c_other : Nat → Int32) (c_z : Nat → Int32) (o : Int32 × (Nat → Int32)) (hF : F_X6_rankOfOther c_left c_other c_z = some o) : Met l yX6_rankOfOther (Cond.code yX6_rankOfOther cX6_rankOfOther 1 (some .int) :: WL) rm_X6_rankOfOther (preM D [(cI, .int)] (wd_X6_rankOfOther cI a_t a_z a_history a_text a_left a_other a_smooth a_weights a_signs a_worked c_states c_length c_thrown c_codes c_read c_isOpen c_hash c_left c_other c_z) sz [.ref a_t]) (postI D o.1 (wd_X6_rankOfOther cI a_t a_z a_history a_text a_left a_other a_smooth a_weights a_signs a_worked c_states c_length c_thrown c_codes c_read c_isOpen c_hash o.2 c_other c_z) (wd_X6_rankOfOther cI a_t a_z a_history a_text a_left a_other a_smooth a_weights a_signs a_worked c_states c_length c_thrown c_codes c_read c_isOpen c_hash c_left c_other c_z) sz) 0 0 (va_A (wd_X6_rankOfOther cI a_t a_z a_history a_text a_left a_other a_smooth a_weights a_signs a_worked c_states c_length c_thrown c_codes c_read c_isOpen c_hash c_left c_other c_z) sz) := by
  refine mofI (by decide +kernel) (Nat.le_of_ble_eq_true rfl) ?_
  intro p e s m args below meth c Q A ls hx hb hml hown hts hK hP hD hS hA hG hl hret hsz0
  have hl : lv_has ls 1 [(0, .ref a_t)] := hl
  unfold F_X6_rankOfOther at hF
  have hP : va_P D vwCl (wd_X6_rankOfOther cI a_t a_z a_history a_text a_left a_other a_smooth a_weights a_signs a_worked c_states c_length c_thrown c_codes c_read c_isOpen c_hash c_left c_other c_z) s.heap := hP
  obtain ⟨H, hH⟩ : ∃ H, H = s.heap := ⟨_, rfl⟩
  rw [← hH]
  rw [← hH] at hP
  obtain ⟨locs, hlo⟩ : ∃ z : List Loc, z = [] := ⟨_, rfl⟩
  rw [← hlo]
  have hS : va_S A s.heap H locs := by rw [hH, hlo]; exact hS
  refine lv_aload_n hx hb dX6_rankOfOther_0 rfl (lv_at hl 0 rfl) ?_
  refine lv_aload_n hx hb dX6_rankOfOther_1 rfl (lv_at hl 0 rfl) ?_
  refine get_X6_7 hx hb hts hown hK hP 0 rfl rfl dX6_rankOfOther_2 ?_
  refine lv_iconst (v := 0) hx hb dX6_rankOfOther_5 (by decide) ?_
  obtain ⟨g6, hF⟩ := gdb hF
  refine va_iald hx hb hK hP 3 0 rfl rfl (vinb g6) dX6_rankOfOther_6 ?_
  obtain ⟨r7, hr7, hF⟩ := opb hF
  refine kVI (As := [.int (c_z ((0 : Int32)).toNatClampNeg)]) (rest := []) (ws' := (wd_X6_rankOfOther cI a_t a_z a_history a_text a_left a_other a_smooth a_weights a_signs a_worked c_states c_length c_thrown c_codes c_read c_isOpen c_hash r7.2 c_other c_z)) ⟨hx, hb, hml, hown, hts⟩ (c_X6_lowestRank l D cI a_t a_z a_history a_text a_left a_other a_smooth a_weights a_signs a_worked H.size c_states c_length c_thrown c_codes c_read c_isOpen c_hash c_left c_other c_z (c_z ((0 : Int32)).toNatClampNeg) r7 hr7) (cwV 1 hts mw_X6_62 rfl rfl rfl hd_X6_lowestRank ⟨Nat.le_of_ble_eq_true rfl, Nat.le_of_ble_eq_true rfl⟩) hS hA hG hK hP hD [0, 1, 2, 3] rfl rfl rfl rfl rfl ⟨Nat.zero_le _, Nat.zero_le _⟩ 6 0 rfl rfl rfl rfl hl.1 rfl (Nat.le_of_ble_eq_true rfl) dX6_rankOfOther_7 (fun H locs hP hD hS => ?_)
  have ho := Option.some.inj hF
  exact hret H locs ls 10 r7.1 _ hP hS (by rw [← ho]) (by rw [← ho]) dX6_rankOfOther_10
abbrev wd_X6_rankNow (cI : ClassId) (a_t a_z a_history a_text a_left a_other a_smooth a_weights a_signs a_worked : Nat) (c_states : Int32) (c_length : Int32) (c_thrown : Int32) (c_codes : Int32) (c_read : Int32) (c_isOpen : Int32) (c_hash : Int64) (c_left : Nat → Int32) (c_other : Nat → Int32) (c_z : Nat → Int32) : va_W := [(a_t, .inr (6, [.ref a_z, .int c_states, .ref a_history, .int c_length, .ref a_text, .int c_thrown, .ref a_left, .ref a_other, .ref a_smooth, .ref a_weights, .int c_codes, .ref a_signs, .int c_read, .int c_isOpen, .ref a_worked, .long c_hash])), (a_left, .inl (cI, 6, .inl c_left)), (a_other, .inl (cI, 11, .inl c_other)), (a_z, .inl (cI, 13, .inl c_z))]
def rm_X6_rankNow : Room := { frames := 5, cells := 0, slots := 0, locals := 111 }
set_option maxHeartbeats 4000000 in
set_option maxRecDepth 100000 in
theorem c_X6_rankNow (l : Launch) (D : va_G) (cI : ClassId) (a_t a_z a_history a_text a_left a_other a_smooth a_weights a_signs a_worked : Nat) (sz : Nat) (c_states : Int32) (c_length : Int32) (c_thrown : Int32) (c_codes : Int32) (c_read : Int32) (c_isOpen : Int32) (c_hash : Int64) (c_left : Nat → Int32) (c_other : Nat → Int32) (c_z : Nat → Int32) (o : Int32 × (Nat → Int32) × (Nat → Int32)) (hF : F_X6_rankNow c_left c_other c_z = some o) : Met l yX6_rankNow (Cond.code yX6_rankNow cX6_rankNow 1 (some .int) :: WL) rm_X6_rankNow (preM D [(cI, .int)] (wd_X6_rankNow cI a_t a_z a_history a_text a_left a_other a_smooth a_weights a_signs a_worked c_states c_length c_thrown c_codes c_read c_isOpen c_hash c_left c_other c_z) sz [.ref a_t]) (postI D o.1 (wd_X6_rankNow cI a_t a_z a_history a_text a_left a_other a_smooth a_weights a_signs a_worked c_states c_length c_thrown c_codes c_read c_isOpen c_hash o.2.1 o.2.2 c_z) (wd_X6_rankNow cI a_t a_z a_history a_text a_left a_other a_smooth a_weights a_signs a_worked c_states c_length c_thrown c_codes c_read c_isOpen c_hash c_left c_other c_z) sz) 0 0 (va_A (wd_X6_rankNow cI a_t a_z a_history a_text a_left a_other a_smooth a_weights a_signs a_worked c_states c_length c_thrown c_codes c_read c_isOpen c_hash c_left c_other c_z) sz) := by
  refine mofI (by decide +kernel) (Nat.le_of_ble_eq_true rfl) ?_
  intro p e s m args below meth c Q A ls hx hb hml hown hts hK hP hD hS hA hG hl hret hsz0
  have hl : lv_has ls 1 [(0, .ref a_t)] := hl
  unfold F_X6_rankNow at hF
  have hP : va_P D vwCl (wd_X6_rankNow cI a_t a_z a_history a_text a_left a_other a_smooth a_weights a_signs a_worked c_states c_length c_thrown c_codes c_read c_isOpen c_hash c_left c_other c_z) s.heap := hP
  obtain ⟨H, hH⟩ : ∃ H, H = s.heap := ⟨_, rfl⟩
  rw [← hH]
  rw [← hH] at hP
  obtain ⟨locs, hlo⟩ : ∃ z : List Loc, z = [] := ⟨_, rfl⟩
  rw [← hlo]
  have hS : va_S A s.heap H locs := by rw [hH, hlo]; exact hS
  refine lv_aload_n hx hb dX6_rankNow_0 rfl (lv_at hl 0 rfl) ?_
  obtain ⟨r1, hr1, hF⟩ := opb hF
  refine kVV (As := []) (rest := []) (ws' := (wd_X6_rankNow cI a_t a_z a_history a_text a_left a_other a_smooth a_weights a_signs a_worked c_states c_length c_thrown c_codes c_read c_isOpen c_hash c_left r1 c_z)) ⟨hx, hb, hml, hown, hts⟩ (c_X6_copyRow l D cI a_t a_z a_history a_text a_left a_other a_smooth a_weights a_signs a_worked H.size c_states c_length c_thrown c_codes c_read c_isOpen c_hash c_other c_z  r1 hr1) (cwV 0 hts mw_X6_65 rfl rfl rfl hd_X6_copyRow ⟨Nat.le_of_ble_eq_true rfl, Nat.le_of_ble_eq_true rfl⟩) hS hA hG hK hP hD [0, 2, 3] rfl rfl rfl rfl rfl ⟨Nat.zero_le _, Nat.zero_le _⟩ 6 0 rfl rfl rfl rfl hl.1 rfl (Nat.le_of_ble_eq_true rfl) dX6_rankNow_1 (fun H locs hP hD hS => ?_)
  refine lv_aload_n hx hb dX6_rankNow_4 rfl (lv_at hl 0 rfl) ?_
  obtain ⟨r5, hr5, hF⟩ := opb hF
  refine kVI (As := []) (rest := []) (ws' := (wd_X6_rankNow cI a_t a_z a_history a_text a_left a_other a_smooth a_weights a_signs a_worked c_states c_length c_thrown c_codes c_read c_isOpen c_hash r5.2 r1 c_z)) ⟨hx, hb, hml, hown, hts⟩ (c_X6_rankOfOther l D cI a_t a_z a_history a_text a_left a_other a_smooth a_weights a_signs a_worked H.size c_states c_length c_thrown c_codes c_read c_isOpen c_hash c_left r1 c_z  r5 hr5) (cwV 0 hts mw_X6_68 rfl rfl rfl hd_X6_rankOfOther ⟨Nat.le_of_ble_eq_true rfl, Nat.le_of_ble_eq_true rfl⟩) hS hA hG hK hP hD [0, 1, 2, 3] rfl rfl rfl rfl rfl ⟨Nat.zero_le _, Nat.zero_le _⟩ 6 0 rfl rfl rfl rfl hl.1 rfl (Nat.le_of_ble_eq_true rfl) dX6_rankNow_5 (fun H locs hP hD hS => ?_)
  have ho := Option.some.inj hF
  exact hret H locs ls 8 r5.1 _ hP hS (by rw [← ho]) (by rw [← ho]) dX6_rankNow_8
abbrev wd_X6_layRank (cI : ClassId) (a_t a_z a_history a_text a_left a_other a_smooth a_weights a_signs a_worked : Nat) (c_states : Int32) (c_length : Int32) (c_thrown : Int32) (c_codes : Int32) (c_read : Int32) (c_isOpen : Int32) (c_hash : Int64) (c_left : Nat → Int32) (c_other : Nat → Int32) (c_z : Nat → Int32) : va_W := [(a_t, .inr (6, [.ref a_z, .int c_states, .ref a_history, .int c_length, .ref a_text, .int c_thrown, .ref a_left, .ref a_other, .ref a_smooth, .ref a_weights, .int c_codes, .ref a_signs, .int c_read, .int c_isOpen, .ref a_worked, .long c_hash])), (a_left, .inl (cI, 6, .inl c_left)), (a_other, .inl (cI, 11, .inl c_other)), (a_z, .inl (cI, 13, .inl c_z))]
def rm_X6_layRank : Room := { frames := 3, cells := 0, slots := 0, locals := 67 }
set_option maxHeartbeats 4000000 in
set_option maxRecDepth 100000 in
theorem c_X6_layRank (l : Launch) (D : va_G) (cI : ClassId) (a_t a_z a_history a_text a_left a_other a_smooth a_weights a_signs a_worked : Nat) (sz : Nat) (c_states : Int32) (c_length : Int32) (c_thrown : Int32) (c_codes : Int32) (c_read : Int32) (c_isOpen : Int32) (c_hash : Int64) (c_left : Nat → Int32) (c_other : Nat → Int32) (c_z : Nat → Int32) (x1 : Int32) (o : (Nat → Int32) × (Nat → Int32)) (hF : F_X6_layRank c_left c_other c_z x1 = some o) : Met l yX6_layRank (Cond.code yX6_layRank cX6_layRank 5 none :: WL) rm_X6_layRank (preM D [(cI, .int)] (wd_X6_layRank cI a_t a_z a_history a_text a_left a_other a_smooth a_weights a_signs a_worked c_states c_length c_thrown c_codes c_read c_isOpen c_hash c_left c_other c_z) sz [.ref a_t, .int x1]) (postV D (wd_X6_layRank cI a_t a_z a_history a_text a_left a_other a_smooth a_weights a_signs a_worked c_states c_length c_thrown c_codes c_read c_isOpen c_hash o.1 o.2 c_z) (wd_X6_layRank cI a_t a_z a_history a_text a_left a_other a_smooth a_weights a_signs a_worked c_states c_length c_thrown c_codes c_read c_isOpen c_hash c_left c_other c_z) sz) 0 0 (va_A (wd_X6_layRank cI a_t a_z a_history a_text a_left a_other a_smooth a_weights a_signs a_worked c_states c_length c_thrown c_codes c_read c_isOpen c_hash c_left c_other c_z) sz) := by
  refine mofV (by decide +kernel) (Nat.le_of_ble_eq_true rfl) ?_
  intro p e s m args below meth c Q A ls hx hb hml hown hts hK hP hD hS hA hG hl hret hsz0
  have hl : lv_has ls 5 [(0, .ref a_t), (1, .int x1)] := hl
  have K8 : ∀ (n8 : Nat) (c_left : Nat → Int32) (c_other : Nat → Int32) (x2 : Int32) (x3 : Int32) (H : Heap) (locs : List Loc) (ls : Array Slot), va_P D vwCl (wd_X6_layRank cI a_t a_z a_history a_text a_left a_other a_smooth a_weights a_signs a_worked c_states c_length c_thrown c_codes c_read c_isOpen c_hash c_left c_other c_z) H → va_D A (wd_X6_layRank cI a_t a_z a_history a_text a_left a_other a_smooth a_weights a_signs a_worked c_states c_length c_thrown c_codes c_read c_isOpen c_hash c_left c_other c_z) → va_S A s.heap H locs → lv_has ls 5 [(0, .ref a_t), (2, .int x2), (3, .int x3)] → F_X6_layRank_L8 c_z x1 n8 c_left c_other x2 x3 = some o → W p l e rm_X6_layRank s m args below meth c H locs 0 0 Q (F0 m 8 ls []) := by
    intro n8
    induction n8 with
    | zero => intro c_left c_other x2 x3 H locs ls hP hD hS hl hF; exact nos hF
    | succ n8 ih8 =>
      have K21 : ∀ (n21 : Nat) (c_left : Nat → Int32) (c_other : Nat → Int32) (x2 : Int32) (x3 : Int32) (x4 : Int32) (H : Heap) (locs : List Loc) (ls : Array Slot), va_P D vwCl (wd_X6_layRank cI a_t a_z a_history a_text a_left a_other a_smooth a_weights a_signs a_worked c_states c_length c_thrown c_codes c_read c_isOpen c_hash c_left c_other c_z) H → va_D A (wd_X6_layRank cI a_t a_z a_history a_text a_left a_other a_smooth a_weights a_signs a_worked c_states c_length c_thrown c_codes c_read c_isOpen c_hash c_left c_other c_z) → va_S A s.heap H locs → lv_has ls 5 [(0, .ref a_t), (2, .int x2), (3, .int x3), (4, .int x4)] → F_X6_layRank_L21 (F_X6_layRank_L8 c_z x1 n8) c_z x1 n21 c_left c_other x2 x3 x4 = some o → W p l e rm_X6_layRank s m args below meth c H locs 0 0 Q (F0 m 21 ls []) := by
        intro n21
        induction n21 with
        | zero => intro c_left c_other x2 x3 x4 H locs ls hP hD hS hl hF; exact nos hF
        | succ n21 ih21 =>
          intro c_left c_other x2 x3 x4 H locs ls hP hD hS hl hF
          rw [F_X6_layRank_L21] at hF
          refine lv_iload_n hx hb dX6_layRank_21 rfl (lv_at hl 1 rfl) ?_
          refine lv_aload_n hx hb dX6_layRank_22 rfl (lv_at hl 0 rfl) ?_
          refine lv_iload hx hb dX6_layRank_23 (lv_at hl 3 rfl) ?_
          obtain ⟨r25, hr25, hF⟩ := opb hF
          refine kVI (As := [.int x4]) (rest := [.int x2]) (ws' := (wd_X6_layRank cI a_t a_z a_history a_text a_left a_other a_smooth a_weights a_signs a_worked c_states c_length c_thrown c_codes c_read c_isOpen c_hash r25.2 c_other c_z)) ⟨hx, hb, hml, hown, hts⟩ (c_X6_rowsWith l D cI a_t a_z a_history a_text a_left a_other a_smooth a_weights a_signs a_worked H.size c_states c_length c_thrown c_codes c_read c_isOpen c_hash c_left x4 r25 hr25) (cwV 1 hts mw_X6_59 rfl rfl rfl hd_X6_rowsWith ⟨Nat.le_of_ble_eq_true rfl, Nat.le_of_ble_eq_true rfl⟩) hS hA hG hK hP hD [0, 1] rfl rfl rfl rfl rfl ⟨Nat.zero_le _, Nat.zero_le _⟩ 6 0 rfl rfl rfl rfl hl.1 rfl (Nat.le_of_ble_eq_true rfl) dX6_layRank_25 (fun H locs hP hD hS => ?_)
          refine lv_icmp_lt (tgt := 46) hx hb dX6_layRank_28 (by decide) (fun k28 => ?_) (fun k28 => ?_)
          · replace hF := (if_pos k28).symm.trans hF
            refine lv_aload_n hx hb dX6_layRank_46 rfl (lv_at hl 0 rfl) ?_
            refine get_X6_22 hx hb hts hown hK hP 0 rfl rfl dX6_layRank_47 ?_
            refine lv_iload_n hx hb dX6_layRank_50 rfl (lv_at hl 2 rfl) ?_
            refine lv_iload hx hb dX6_layRank_51 (lv_at hl 3 rfl) ?_
            obtain ⟨g53, hF⟩ := gdb hF
            refine va_iast hx hb hK hP hD hS 2 0 rfl rfl (vinb g53) dX6_layRank_53 (fun H locs hP hD hS => ?_)
            have hP : va_P D vwCl (wd_X6_layRank cI a_t a_z a_history a_text a_left a_other a_smooth a_weights a_signs a_worked c_states c_length c_thrown c_codes c_read c_isOpen c_hash r25.2 (upd c_other (x3).toNatClampNeg x4) c_z) H := hP
            have hD : va_D A (wd_X6_layRank cI a_t a_z a_history a_text a_left a_other a_smooth a_weights a_signs a_worked c_states c_length c_thrown c_codes c_read c_isOpen c_hash r25.2 (upd c_other (x3).toNatClampNeg x4) c_z) := hD
            refine lv_aload_n hx hb dX6_layRank_54 rfl (lv_at hl 0 rfl) ?_
            refine get_X6_19 hx hb hts hown hK hP 0 rfl rfl dX6_layRank_55 ?_
            refine lv_iload hx hb dX6_layRank_58 (lv_at hl 3 rfl) ?_
            refine lv_dup2_11 hx hb dX6_layRank_60 rfl rfl ?_
            obtain ⟨g61, hF⟩ := gdb hF
            refine va_iald hx hb hK hP 1 0 rfl rfl (vinb g61) dX6_layRank_61 ?_
            refine lv_iconst (v := 1) hx hb dX6_layRank_62 (by decide) ?_
            refine lv_isub hx hb dX6_layRank_63 ?_
            obtain ⟨g64, hF⟩ := gdb hF
            refine va_iast hx hb hK hP hD hS 1 0 rfl rfl (vinb g64) dX6_layRank_64 (fun H locs hP hD hS => ?_)
            have hP : va_P D vwCl (wd_X6_layRank cI a_t a_z a_history a_text a_left a_other a_smooth a_weights a_signs a_worked c_states c_length c_thrown c_codes c_read c_isOpen c_hash (upd r25.2 (x4).toNatClampNeg ((r25.2 (x4).toNatClampNeg) - (1 : Int32))) (upd c_other (x3).toNatClampNeg x4) c_z) H := hP
            have hD : va_D A (wd_X6_layRank cI a_t a_z a_history a_text a_left a_other a_smooth a_weights a_signs a_worked c_states c_length c_thrown c_codes c_read c_isOpen c_hash (upd r25.2 (x4).toNatClampNeg ((r25.2 (x4).toNatClampNeg) - (1 : Int32))) (upd c_other (x3).toNatClampNeg x4) c_z) := hD
            refine lv_iinc (v := x3 + 1) (lv' := [(3, .int (x3 + 1)), (0, .ref a_t), (2, .int x2), (4, .int x4)]) hx hb dX6_layRank_65 hl (k := 2) rfl rfl (by decide) rfl (fun ls hl => ?_)
            refine lv_goto (tgt := 8) hx hb dX6_layRank_68 (by decide) ?_
            exact ih8 (upd r25.2 (x4).toNatClampNeg ((r25.2 (x4).toNatClampNeg) - (1 : Int32))) (upd c_other (x3).toNatClampNeg x4) x2 (x3 + 1) H locs ls hP hD hS (lv_sub hl [1, 2, 0] rfl) hF
          · replace hF := (if_neg k28).symm.trans hF
            refine lv_iload_n hx hb dX6_layRank_31 rfl (lv_at hl 1 rfl) ?_
            refine lv_aload_n hx hb dX6_layRank_32 rfl (lv_at hl 0 rfl) ?_
            refine lv_iload hx hb dX6_layRank_33 (lv_at hl 3 rfl) ?_
            obtain ⟨r35, hr35, hF⟩ := opb hF
            refine kVI (As := [.int x4]) (rest := [.int x2]) (ws' := (wd_X6_layRank cI a_t a_z a_history a_text a_left a_other a_smooth a_weights a_signs a_worked c_states c_length c_thrown c_codes c_read c_isOpen c_hash r35.2 c_other c_z)) ⟨hx, hb, hml, hown, hts⟩ (c_X6_rowsWith l D cI a_t a_z a_history a_text a_left a_other a_smooth a_weights a_signs a_worked H.size c_states c_length c_thrown c_codes c_read c_isOpen c_hash r25.2 x4 r35 hr35) (cwV 1 hts mw_X6_59 rfl rfl rfl hd_X6_rowsWith ⟨Nat.le_of_ble_eq_true rfl, Nat.le_of_ble_eq_true rfl⟩) hS hA hG hK hP hD [0, 1] rfl rfl rfl rfl rfl ⟨Nat.zero_le _, Nat.zero_le _⟩ 6 0 rfl rfl rfl rfl hl.1 rfl (Nat.le_of_ble_eq_true rfl) dX6_layRank_35 (fun H locs hP hD hS => ?_)
            refine lv_isub hx hb dX6_layRank_38 ?_
            refine lv_istore_n (lv' := [(2, .int (x2 - r35.1)), (0, .ref a_t), (3, .int x3), (4, .int x4)]) hx hb dX6_layRank_39 rfl hl (by decide) rfl (fun ls hl => ?_)
            refine lv_iinc (v := x4 + 1) (lv' := [(4, .int (x4 + 1)), (2, .int (x2 - r35.1)), (0, .ref a_t), (3, .int x3)]) hx hb dX6_layRank_40 hl (k := 3) rfl rfl (by decide) rfl (fun ls hl => ?_)
            refine lv_goto (tgt := 21) hx hb dX6_layRank_43 (by decide) ?_
            exact ih21 r35.2 c_other (x2 - r35.1) x3 (x4 + 1) H locs ls hP hD hS (lv_sub hl [2, 1, 3, 0] rfl) hF
      intro c_left c_other x2 x3 H locs ls hP hD hS hl hF
      rw [F_X6_layRank_L8] at hF
      refine lv_iload_n hx hb dX6_layRank_8 rfl (lv_at hl 2 rfl) ?_
      refine lv_aload_n hx hb dX6_layRank_9 rfl (lv_at hl 0 rfl) ?_
      refine get_X6_7 hx hb hts hown hK hP 0 rfl rfl dX6_layRank_10 ?_
      refine lv_iconst (v := 0) hx hb dX6_layRank_13 (by decide) ?_
      obtain ⟨g14, hF⟩ := gdb hF
      refine va_iald hx hb hK hP 3 0 rfl rfl (vinb g14) dX6_layRank_14 ?_
      refine lv_icmp_ge (tgt := 71) hx hb dX6_layRank_15 (by decide) (fun k15 => ?_) (fun k15 => ?_)
      · replace hF := (if_pos k15).symm.trans hF
        have ho := Option.some.inj hF
        exact hret H locs ls 71 _ hP hS (by rw [← ho]) dX6_layRank_71
      · replace hF := (if_neg k15).symm.trans hF
        refine lv_iconst (v := 0) hx hb dX6_layRank_18 (by decide) ?_
        refine lv_istore (lv' := [(4, .int (0 : Int32)), (0, .ref a_t), (2, .int x2), (3, .int x3)]) hx hb dX6_layRank_19 hl (by decide) rfl (fun ls hl => ?_)
        exact K21 FU c_left c_other x2 x3 (0 : Int32) H locs ls hP hD hS (lv_sub hl [1, 2, 3, 0] rfl) hF
  unfold F_X6_layRank at hF
  have hP : va_P D vwCl (wd_X6_layRank cI a_t a_z a_history a_text a_left a_other a_smooth a_weights a_signs a_worked c_states c_length c_thrown c_codes c_read c_isOpen c_hash c_left c_other c_z) s.heap := hP
  obtain ⟨H, hH⟩ : ∃ H, H = s.heap := ⟨_, rfl⟩
  rw [← hH]
  rw [← hH] at hP
  obtain ⟨locs, hlo⟩ : ∃ z : List Loc, z = [] := ⟨_, rfl⟩
  rw [← hlo]
  have hS : va_S A s.heap H locs := by rw [hH, hlo]; exact hS
  refine lv_aload_n hx hb dX6_layRank_0 rfl (lv_at hl 0 rfl) ?_
  obtain ⟨r1, hr1, hF⟩ := opb hF
  refine kVV (As := []) (rest := []) (ws' := (wd_X6_layRank cI a_t a_z a_history a_text a_left a_other a_smooth a_weights a_signs a_worked c_states c_length c_thrown c_codes c_read c_isOpen c_hash r1 c_other c_z)) ⟨hx, hb, hml, hown, hts⟩ (c_X6_countAll l D cI a_t a_z a_history a_text a_left a_other a_smooth a_weights a_signs a_worked H.size c_states c_length c_thrown c_codes c_read c_isOpen c_hash c_left c_z  r1 hr1) (cwV 0 hts mw_X6_56 rfl rfl rfl hd_X6_countAll ⟨Nat.le_of_ble_eq_true rfl, Nat.le_of_ble_eq_true rfl⟩) hS hA hG hK hP hD [0, 1, 3] rfl rfl rfl rfl rfl ⟨Nat.zero_le _, Nat.zero_le _⟩ 6 0 rfl rfl rfl rfl hl.1 rfl (Nat.le_of_ble_eq_true rfl) dX6_layRank_1 (fun H locs hP hD hS => ?_)
  refine lv_iload_n hx hb dX6_layRank_4 rfl (lv_at hl 1 rfl) ?_
  refine lv_istore_n (lv' := [(2, .int x1), (0, .ref a_t), (1, .int x1)]) hx hb dX6_layRank_5 rfl hl (by decide) rfl (fun ls hl => ?_)
  refine lv_iconst (v := 0) hx hb dX6_layRank_6 (by decide) ?_
  refine lv_istore_n (lv' := [(3, .int (0 : Int32)), (2, .int x1), (0, .ref a_t), (1, .int x1)]) hx hb dX6_layRank_7 rfl hl (by decide) rfl (fun ls hl => ?_)
  exact K8 FU r1 c_other x1 (0 : Int32) H locs ls hP hD hS (lv_sub hl [2, 1, 0] rfl) hF
abbrev wd_X6_takeOther (cI : ClassId) (a_t a_z a_history a_text a_left a_other a_smooth a_weights a_signs a_worked : Nat) (c_states : Int32) (c_length : Int32) (c_thrown : Int32) (c_codes : Int32) (c_read : Int32) (c_isOpen : Int32) (c_hash : Int64) (c_other : Nat → Int32) (c_z : Nat → Int32) : va_W := [(a_t, .inr (6, [.ref a_z, .int c_states, .ref a_history, .int c_length, .ref a_text, .int c_thrown, .ref a_left, .ref a_other, .ref a_smooth, .ref a_weights, .int c_codes, .ref a_signs, .int c_read, .int c_isOpen, .ref a_worked, .long c_hash])), (a_other, .inl (cI, 11, .inl c_other)), (a_z, .inl (cI, 13, .inl c_z))]
def rm_X6_takeOther : Room := { frames := 0, cells := 0, slots := 0, locals := 0 }
set_option maxHeartbeats 4000000 in
set_option maxRecDepth 100000 in
theorem c_X6_takeOther (l : Launch) (D : va_G) (cI : ClassId) (a_t a_z a_history a_text a_left a_other a_smooth a_weights a_signs a_worked : Nat) (sz : Nat) (c_states : Int32) (c_length : Int32) (c_thrown : Int32) (c_codes : Int32) (c_read : Int32) (c_isOpen : Int32) (c_hash : Int64) (c_other : Nat → Int32) (c_z : Nat → Int32) (o : Int32 × (Nat → Int32)) (hF : F_X6_takeOther c_other c_z = some o) : Met l yX6_takeOther (Cond.code yX6_takeOther cX6_takeOther 3 (some .int) :: WL) rm_X6_takeOther (preM D [(cI, .int)] (wd_X6_takeOther cI a_t a_z a_history a_text a_left a_other a_smooth a_weights a_signs a_worked c_states c_length c_thrown c_codes c_read c_isOpen c_hash c_other c_z) sz [.ref a_t]) (postI D o.1 (wd_X6_takeOther cI a_t a_z a_history a_text a_left a_other a_smooth a_weights a_signs a_worked c_states c_length c_thrown c_codes c_read c_isOpen c_hash c_other o.2) (wd_X6_takeOther cI a_t a_z a_history a_text a_left a_other a_smooth a_weights a_signs a_worked c_states c_length c_thrown c_codes c_read c_isOpen c_hash c_other c_z) sz) 0 0 (va_A (wd_X6_takeOther cI a_t a_z a_history a_text a_left a_other a_smooth a_weights a_signs a_worked c_states c_length c_thrown c_codes c_read c_isOpen c_hash c_other c_z) sz) := by
  refine mofI (by decide +kernel) (Nat.le_of_ble_eq_true rfl) ?_
  intro p e s m args below meth c Q A ls hx hb hml hown hts hK hP hD hS hA hG hl hret hsz0
  have hl : lv_has ls 3 [(0, .ref a_t)] := hl
  have K4 : ∀ (n4 : Nat) (c_z : Nat → Int32) (x1 : Int32) (x2 : Int32) (H : Heap) (locs : List Loc) (ls : Array Slot), va_P D vwCl (wd_X6_takeOther cI a_t a_z a_history a_text a_left a_other a_smooth a_weights a_signs a_worked c_states c_length c_thrown c_codes c_read c_isOpen c_hash c_other c_z) H → va_D A (wd_X6_takeOther cI a_t a_z a_history a_text a_left a_other a_smooth a_weights a_signs a_worked c_states c_length c_thrown c_codes c_read c_isOpen c_hash c_other c_z) → va_S A s.heap H locs → lv_has ls 3 [(0, .ref a_t), (1, .int x1), (2, .int x2)] → F_X6_takeOther_L4 c_other n4 c_z x1 x2 = some o → W p l e rm_X6_takeOther s m args below meth c H locs 0 0 Q (F0 m 4 ls []) := by
    intro n4
    induction n4 with
    | zero => intro c_z x1 x2 H locs ls hP hD hS hl hF; exact nos hF
    | succ n4 ih4 =>
      have K37 : ∀ (c_z : Nat → Int32) (x2 : Int32) (v0 : Int32) (v1 : Int32)  (H : Heap) (locs : List Loc) (ls : Array Slot), va_P D vwCl (wd_X6_takeOther cI a_t a_z a_history a_text a_left a_other a_smooth a_weights a_signs a_worked c_states c_length c_thrown c_codes c_read c_isOpen c_hash c_other c_z) H → va_D A (wd_X6_takeOther cI a_t a_z a_history a_text a_left a_other a_smooth a_weights a_signs a_worked c_states c_length c_thrown c_codes c_read c_isOpen c_hash c_other c_z) → va_S A s.heap H locs → lv_has ls 3 [(0, .ref a_t), (2, .int x2)] → F_X6_takeOther_J37 (F_X6_takeOther_L4 c_other n4) c_other c_z x2 v0 v1 = some o → W p l e rm_X6_takeOther s m args below meth c H locs 0 0 Q (F0 m 37 ls [.int v1, .int v0]) := by
        intro c_z x2 v0 v1 H locs ls hP hD hS hl hF
        unfold F_X6_takeOther_J37 at hF
        refine lv_iadd hx hb dX6_takeOther_37 ?_
        refine lv_istore_n (lv' := [(1, .int (v0 + v1)), (0, .ref a_t), (2, .int x2)]) hx hb dX6_takeOther_38 rfl hl (by decide) rfl (fun ls hl => ?_)
        refine lv_aload_n hx hb dX6_takeOther_39 rfl (lv_at hl 1 rfl) ?_
        refine get_X6_7 hx hb hts hown hK hP 0 rfl rfl dX6_takeOther_40 ?_
        refine lv_iconst (v := 2) hx hb dX6_takeOther_43 (by decide) ?_
        refine lv_iload_n hx hb dX6_takeOther_44 rfl (lv_at hl 2 rfl) ?_
        refine lv_iadd hx hb dX6_takeOther_45 ?_
        refine lv_aload_n hx hb dX6_takeOther_46 rfl (lv_at hl 1 rfl) ?_
        refine get_X6_22 hx hb hts hown hK hP 0 rfl rfl dX6_takeOther_47 ?_
        refine lv_iload_n hx hb dX6_takeOther_50 rfl (lv_at hl 2 rfl) ?_
        obtain ⟨g51, hF⟩ := gdb hF
        refine va_iald hx hb hK hP 1 0 rfl rfl (vinb g51) dX6_takeOther_51 ?_
        obtain ⟨g52, hF⟩ := gdb hF
        refine va_iast hx hb hK hP hD hS 2 0 rfl rfl (vinb g52) dX6_takeOther_52 (fun H locs hP hD hS => ?_)
        have hP : va_P D vwCl (wd_X6_takeOther cI a_t a_z a_history a_text a_left a_other a_smooth a_weights a_signs a_worked c_states c_length c_thrown c_codes c_read c_isOpen c_hash c_other (upd c_z ((2 : Int32) + x2).toNatClampNeg (c_other (x2).toNatClampNeg))) H := hP
        have hD : va_D A (wd_X6_takeOther cI a_t a_z a_history a_text a_left a_other a_smooth a_weights a_signs a_worked c_states c_length c_thrown c_codes c_read c_isOpen c_hash c_other (upd c_z ((2 : Int32) + x2).toNatClampNeg (c_other (x2).toNatClampNeg))) := hD
        refine lv_iinc (v := x2 + 1) (lv' := [(2, .int (x2 + 1)), (1, .int (v0 + v1)), (0, .ref a_t)]) hx hb dX6_takeOther_53 hl (k := 2) rfl rfl (by decide) rfl (fun ls hl => ?_)
        refine lv_goto (tgt := 4) hx hb dX6_takeOther_56 (by decide) ?_
        exact ih4 (upd c_z ((2 : Int32) + x2).toNatClampNeg (c_other (x2).toNatClampNeg)) (v0 + v1) (x2 + 1) H locs ls hP hD hS (lv_sub hl [2, 1, 0] rfl) hF
      intro c_z x1 x2 H locs ls hP hD hS hl hF
      rw [F_X6_takeOther_L4] at hF
      refine lv_iload_n hx hb dX6_takeOther_4 rfl (lv_at hl 2 rfl) ?_
      refine lv_aload_n hx hb dX6_takeOther_5 rfl (lv_at hl 0 rfl) ?_
      refine get_X6_7 hx hb hts hown hK hP 0 rfl rfl dX6_takeOther_6 ?_
      refine lv_iconst (v := 0) hx hb dX6_takeOther_9 (by decide) ?_
      obtain ⟨g10, hF⟩ := gdb hF
      refine va_iald hx hb hK hP 2 0 rfl rfl (vinb g10) dX6_takeOther_10 ?_
      refine lv_icmp_ge (tgt := 59) hx hb dX6_takeOther_11 (by decide) (fun k11 => ?_) (fun k11 => ?_)
      · replace hF := (if_pos k11).symm.trans hF
        refine lv_iload_n hx hb dX6_takeOther_59 rfl (lv_at hl 1 rfl) ?_
        have ho := Option.some.inj hF
        exact hret H locs ls 60 x1 _ hP hS (by rw [← ho]) (by rw [← ho]) dX6_takeOther_60
      · replace hF := (if_neg k11).symm.trans hF
        refine lv_iload_n hx hb dX6_takeOther_14 rfl (lv_at hl 1 rfl) ?_
        refine lv_aload_n hx hb dX6_takeOther_15 rfl (lv_at hl 0 rfl) ?_
        refine get_X6_7 hx hb hts hown hK hP 0 rfl rfl dX6_takeOther_16 ?_
        refine lv_iconst (v := 2) hx hb dX6_takeOther_19 (by decide) ?_
        refine lv_iload_n hx hb dX6_takeOther_20 rfl (lv_at hl 2 rfl) ?_
        refine lv_iadd hx hb dX6_takeOther_21 ?_
        obtain ⟨g22, hF⟩ := gdb hF
        refine va_iald hx hb hK hP 2 0 rfl rfl (vinb g22) dX6_takeOther_22 ?_
        refine lv_aload_n hx hb dX6_takeOther_23 rfl (lv_at hl 0 rfl) ?_
        refine get_X6_22 hx hb hts hown hK hP 0 rfl rfl dX6_takeOther_24 ?_
        refine lv_iload_n hx hb dX6_takeOther_27 rfl (lv_at hl 2 rfl) ?_
        obtain ⟨g28, hF⟩ := gdb hF
        refine va_iald hx hb hK hP 1 0 rfl rfl (vinb g28) dX6_takeOther_28 ?_
        refine lv_icmp_ne (tgt := 36) hx hb dX6_takeOther_29 (by decide) (fun k29 => ?_) (fun k29 => ?_)
        · (try simp only [if_neg k29] at hF)
          refine lv_iconst (v := 1) hx hb dX6_takeOther_36 (by decide) ?_
          exact K37 c_z x2 x1 (1 : Int32) H locs ls hP hD hS (lv_sub hl [0, 2] rfl) hF
        · (try simp only [if_pos k29] at hF)
          refine lv_iconst (v := 0) hx hb dX6_takeOther_32 (by decide) ?_
          refine lv_goto (tgt := 37) hx hb dX6_takeOther_33 (by decide) ?_
          exact K37 c_z x2 x1 (0 : Int32) H locs ls hP hD hS (lv_sub hl [0, 2] rfl) hF
  unfold F_X6_takeOther at hF
  have hP : va_P D vwCl (wd_X6_takeOther cI a_t a_z a_history a_text a_left a_other a_smooth a_weights a_signs a_worked c_states c_length c_thrown c_codes c_read c_isOpen c_hash c_other c_z) s.heap := hP
  obtain ⟨H, hH⟩ : ∃ H, H = s.heap := ⟨_, rfl⟩
  rw [← hH]
  rw [← hH] at hP
  obtain ⟨locs, hlo⟩ : ∃ z : List Loc, z = [] := ⟨_, rfl⟩
  rw [← hlo]
  have hS : va_S A s.heap H locs := by rw [hH, hlo]; exact hS
  refine lv_iconst (v := 0) hx hb dX6_takeOther_0 (by decide) ?_
  refine lv_istore_n (lv' := [(1, .int (0 : Int32)), (0, .ref a_t)]) hx hb dX6_takeOther_1 rfl hl (by decide) rfl (fun ls hl => ?_)
  refine lv_iconst (v := 0) hx hb dX6_takeOther_2 (by decide) ?_
  refine lv_istore_n (lv' := [(2, .int (0 : Int32)), (1, .int (0 : Int32)), (0, .ref a_t)]) hx hb dX6_takeOther_3 rfl hl (by decide) rfl (fun ls hl => ?_)
  exact K4 FU c_z (0 : Int32) (0 : Int32) H locs ls hP hD hS (lv_sub hl [2, 1, 0] rfl) hF
abbrev wd_X6_isRank (cI : ClassId) (a_t a_z a_history a_text a_left a_other a_smooth a_weights a_signs a_worked : Nat) (c_states : Int32) (c_length : Int32) (c_thrown : Int32) (c_codes : Int32) (c_read : Int32) (c_isOpen : Int32) (c_hash : Int64) (c_left : Nat → Int32) (c_z : Nat → Int32) : va_W := [(a_t, .inr (6, [.ref a_z, .int c_states, .ref a_history, .int c_length, .ref a_text, .int c_thrown, .ref a_left, .ref a_other, .ref a_smooth, .ref a_weights, .int c_codes, .ref a_signs, .int c_read, .int c_isOpen, .ref a_worked, .long c_hash])), (a_left, .inl (cI, 6, .inl c_left)), (a_z, .inl (cI, 13, .inl c_z))]
def rm_X6_isRank : Room := { frames := 3, cells := 0, slots := 0, locals := 65 }
set_option maxHeartbeats 4000000 in
set_option maxRecDepth 100000 in
theorem c_X6_isRank (l : Launch) (D : va_G) (cI : ClassId) (a_t a_z a_history a_text a_left a_other a_smooth a_weights a_signs a_worked : Nat) (sz : Nat) (c_states : Int32) (c_length : Int32) (c_thrown : Int32) (c_codes : Int32) (c_read : Int32) (c_isOpen : Int32) (c_hash : Int64) (c_left : Nat → Int32) (c_z : Nat → Int32) (x1 : Int32) (o : Int32 × (Nat → Int32)) (hF : F_X6_isRank c_left c_z x1 = some o) : Met l yX6_isRank (Cond.code yX6_isRank cX6_isRank 2 (some .boolean) :: WL) rm_X6_isRank (preM D [(cI, .int)] (wd_X6_isRank cI a_t a_z a_history a_text a_left a_other a_smooth a_weights a_signs a_worked c_states c_length c_thrown c_codes c_read c_isOpen c_hash c_left c_z) sz [.ref a_t, .int x1]) (postI D o.1 (wd_X6_isRank cI a_t a_z a_history a_text a_left a_other a_smooth a_weights a_signs a_worked c_states c_length c_thrown c_codes c_read c_isOpen c_hash o.2 c_z) (wd_X6_isRank cI a_t a_z a_history a_text a_left a_other a_smooth a_weights a_signs a_worked c_states c_length c_thrown c_codes c_read c_isOpen c_hash c_left c_z) sz) 0 0 (va_A (wd_X6_isRank cI a_t a_z a_history a_text a_left a_other a_smooth a_weights a_signs a_worked c_states c_length c_thrown c_codes c_read c_isOpen c_hash c_left c_z) sz) := by
  refine mofZ (by decide +kernel) (Nat.le_of_ble_eq_true rfl) ?_
  intro p e s m args below meth c Q A ls hx hb hml hown hts hK hP hD hS hA hG hl hret hsz0
  have hl : lv_has ls 2 [(0, .ref a_t), (1, .int x1)] := hl
  unfold F_X6_isRank at hF
  have hP : va_P D vwCl (wd_X6_isRank cI a_t a_z a_history a_text a_left a_other a_smooth a_weights a_signs a_worked c_states c_length c_thrown c_codes c_read c_isOpen c_hash c_left c_z) s.heap := hP
  obtain ⟨H, hH⟩ : ∃ H, H = s.heap := ⟨_, rfl⟩
  rw [← hH]
  rw [← hH] at hP
  obtain ⟨locs, hlo⟩ : ∃ z : List Loc, z = [] := ⟨_, rfl⟩
  rw [← hlo]
  have hS : va_S A s.heap H locs := by rw [hH, hlo]; exact hS
  refine lv_iload_n hx hb dX6_isRank_0 rfl (lv_at hl 1 rfl) ?_
  refine lv_if_lt (tgt := 16) hx hb dX6_isRank_1 (by decide) (fun k1 => ?_) (fun k1 => ?_)
  · replace hF := (if_pos k1).symm.trans hF
    refine lv_iconst (v := 0) hx hb dX6_isRank_16 (by decide) ?_
    have ho := Option.some.inj hF
    exact hret H locs ls 17 (0 : Int32) _ hP hS (by rw [← ho]) (by rw [← ho]) (by decide) dX6_isRank_17
  · replace hF := (if_neg k1).symm.trans hF
    refine lv_iload_n hx hb dX6_isRank_4 rfl (lv_at hl 1 rfl) ?_
    refine lv_aload_n hx hb dX6_isRank_5 rfl (lv_at hl 0 rfl) ?_
    obtain ⟨r6, hr6, hF⟩ := opb hF
    refine kVI (As := []) (rest := [.int x1]) (ws' := (wd_X6_isRank cI a_t a_z a_history a_text a_left a_other a_smooth a_weights a_signs a_worked c_states c_length c_thrown c_codes c_read c_isOpen c_hash r6.2 c_z)) ⟨hx, hb, hml, hown, hts⟩ (c_X6_allRows l D cI a_t a_z a_history a_text a_left a_other a_smooth a_weights a_signs a_worked H.size c_states c_length c_thrown c_codes c_read c_isOpen c_hash c_left c_z  r6 hr6) (cwV 0 hts mw_X6_71 rfl rfl rfl hd_X6_allRows ⟨Nat.le_of_ble_eq_true rfl, Nat.le_of_ble_eq_true rfl⟩) hS hA hG hK hP hD [0, 1, 2] rfl rfl rfl rfl rfl ⟨Nat.zero_le _, Nat.zero_le _⟩ 6 0 rfl rfl rfl rfl hl.1 rfl (Nat.le_of_ble_eq_true rfl) dX6_isRank_6 (fun H locs hP hD hS => ?_)
    refine lv_icmp_ge (tgt := 16) hx hb dX6_isRank_9 (by decide) (fun k9 => ?_) (fun k9 => ?_)
    · (try simp only [if_pos k9] at hF)
      refine lv_iconst (v := 0) hx hb dX6_isRank_16 (by decide) ?_
      have ho := Option.some.inj hF
      exact hret H locs ls 17 (0 : Int32) _ hP hS (by rw [← ho]) (by rw [← ho]) (by decide) dX6_isRank_17
    · (try simp only [if_neg k9] at hF)
      refine lv_iconst (v := 1) hx hb dX6_isRank_12 (by decide) ?_
      refine lv_goto (tgt := 17) hx hb dX6_isRank_13 (by decide) ?_
      have ho := Option.some.inj hF
      exact hret H locs ls 17 (1 : Int32) _ hP hS (by rw [← ho]) (by rw [← ho]) (by decide) dX6_isRank_17
abbrev wd_X6_laySmooth (cI : ClassId) (a_t a_z a_history a_text a_left a_other a_smooth a_weights a_signs a_worked : Nat) (c_states : Int32) (c_length : Int32) (c_thrown : Int32) (c_codes : Int32) (c_read : Int32) (c_isOpen : Int32) (c_hash : Int64) (c_left : Nat → Int32) (c_smooth : Nat → Int32) (c_weights : Nat → Int32) (c_z : Nat → Int32) : va_W := [(a_t, .inr (6, [.ref a_z, .int c_states, .ref a_history, .int c_length, .ref a_text, .int c_thrown, .ref a_left, .ref a_other, .ref a_smooth, .ref a_weights, .int c_codes, .ref a_signs, .int c_read, .int c_isOpen, .ref a_worked, .long c_hash])), (a_left, .inl (cI, 6, .inl c_left)), (a_smooth, .inl (cI, 4200, .inl c_smooth)), (a_weights, .inl (cI, 6, .inl c_weights)), (a_z, .inl (cI, 13, .inl c_z))]
def rm_X6_laySmooth : Room := { frames := 1, cells := 0, slots := 0, locals := 21 }
set_option maxHeartbeats 4000000 in
set_option maxRecDepth 100000 in
theorem c_X6_laySmooth (l : Launch) (D : va_G) (cI : ClassId) (a_t a_z a_history a_text a_left a_other a_smooth a_weights a_signs a_worked : Nat) (sz : Nat) (c_states : Int32) (c_length : Int32) (c_thrown : Int32) (c_codes : Int32) (c_read : Int32) (c_isOpen : Int32) (c_hash : Int64) (c_left : Nat → Int32) (c_smooth : Nat → Int32) (c_weights : Nat → Int32) (c_z : Nat → Int32) (o : Int32 × (Nat → Int32) × (Nat → Int32) × (Nat → Int32)) (hF : F_X6_laySmooth c_codes c_left c_smooth c_weights c_z = some o) : Met l yX6_laySmooth (Cond.code yX6_laySmooth cX6_laySmooth 6 none :: WL) rm_X6_laySmooth (preM D [(cI, .int)] (wd_X6_laySmooth cI a_t a_z a_history a_text a_left a_other a_smooth a_weights a_signs a_worked c_states c_length c_thrown c_codes c_read c_isOpen c_hash c_left c_smooth c_weights c_z) sz [.ref a_t]) (postV D (wd_X6_laySmooth cI a_t a_z a_history a_text a_left a_other a_smooth a_weights a_signs a_worked c_states c_length c_thrown o.1 c_read c_isOpen c_hash o.2.1 o.2.2.1 o.2.2.2 c_z) (wd_X6_laySmooth cI a_t a_z a_history a_text a_left a_other a_smooth a_weights a_signs a_worked c_states c_length c_thrown c_codes c_read c_isOpen c_hash c_left c_smooth c_weights c_z) sz) 0 0 (va_A (wd_X6_laySmooth cI a_t a_z a_history a_text a_left a_other a_smooth a_weights a_signs a_worked c_states c_length c_thrown c_codes c_read c_isOpen c_hash c_left c_smooth c_weights c_z) sz) := by
  refine mofV (by decide +kernel) (Nat.le_of_ble_eq_true rfl) ?_
  intro p e s m args below meth c Q A ls hx hb hml hown hts hK hP hD hS hA hG hl hret hsz0
  have hl : lv_has ls 6 [(0, .ref a_t)] := hl
  have K52 : ∀ (n52 : Nat) (c_codes : Int32) (c_left : Nat → Int32) (c_smooth : Nat → Int32) (c_weights : Nat → Int32) (x1 : Int32) (H : Heap) (locs : List Loc) (ls : Array Slot), va_P D vwCl (wd_X6_laySmooth cI a_t a_z a_history a_text a_left a_other a_smooth a_weights a_signs a_worked c_states c_length c_thrown c_codes c_read c_isOpen c_hash c_left c_smooth c_weights c_z) H → va_D A (wd_X6_laySmooth cI a_t a_z a_history a_text a_left a_other a_smooth a_weights a_signs a_worked c_states c_length c_thrown c_codes c_read c_isOpen c_hash c_left c_smooth c_weights c_z) → va_S A s.heap H locs → lv_has ls 6 [(0, .ref a_t), (1, .int x1)] → F_X6_laySmooth_L52 c_z n52 c_codes c_left c_smooth c_weights x1 = some o → W p l e rm_X6_laySmooth s m args below meth c H locs 0 0 Q (F0 m 52 ls []) := by
    intro n52
    induction n52 with
    | zero => intro c_codes c_left c_smooth c_weights x1 H locs ls hP hD hS hl hF; exact nos hF
    | succ n52 ih52 =>
      have K62 : ∀ (n62 : Nat) (c_codes : Int32) (c_left : Nat → Int32) (c_smooth : Nat → Int32) (c_weights : Nat → Int32) (x1 : Int32) (x2 : Int32) (H : Heap) (locs : List Loc) (ls : Array Slot), va_P D vwCl (wd_X6_laySmooth cI a_t a_z a_history a_text a_left a_other a_smooth a_weights a_signs a_worked c_states c_length c_thrown c_codes c_read c_isOpen c_hash c_left c_smooth c_weights c_z) H → va_D A (wd_X6_laySmooth cI a_t a_z a_history a_text a_left a_other a_smooth a_weights a_signs a_worked c_states c_length c_thrown c_codes c_read c_isOpen c_hash c_left c_smooth c_weights c_z) → va_S A s.heap H locs → lv_has ls 6 [(0, .ref a_t), (1, .int x1), (2, .int x2)] → F_X6_laySmooth_L62 (F_X6_laySmooth_L52 c_z n52) c_z n62 c_codes c_left c_smooth c_weights x1 x2 = some o → W p l e rm_X6_laySmooth s m args below meth c H locs 0 0 Q (F0 m 62 ls []) := by
        intro n62
        induction n62 with
        | zero => intro c_codes c_left c_smooth c_weights x1 x2 H locs ls hP hD hS hl hF; exact nos hF
        | succ n62 ih62 =>
          have K81 : ∀ (n81 : Nat) (c_codes : Int32) (c_left : Nat → Int32) (c_smooth : Nat → Int32) (c_weights : Nat → Int32) (x1 : Int32) (x2 : Int32) (x3 : Int32) (x4 : Int32) (H : Heap) (locs : List Loc) (ls : Array Slot), va_P D vwCl (wd_X6_laySmooth cI a_t a_z a_history a_text a_left a_other a_smooth a_weights a_signs a_worked c_states c_length c_thrown c_codes c_read c_isOpen c_hash c_left c_smooth c_weights c_z) H → va_D A (wd_X6_laySmooth cI a_t a_z a_history a_text a_left a_other a_smooth a_weights a_signs a_worked c_states c_length c_thrown c_codes c_read c_isOpen c_hash c_left c_smooth c_weights c_z) → va_S A s.heap H locs → lv_has ls 6 [(0, .ref a_t), (1, .int x1), (2, .int x2), (3, .int x3), (4, .int x4)] → F_X6_laySmooth_L81 (F_X6_laySmooth_L52 c_z n52) (F_X6_laySmooth_L62 (F_X6_laySmooth_L52 c_z n52) c_z n62) c_z n81 c_codes c_left c_smooth c_weights x1 x2 x3 x4 = some o → W p l e rm_X6_laySmooth s m args below meth c H locs 0 0 Q (F0 m 81 ls []) := by
            intro n81
            induction n81 with
            | zero => intro c_codes c_left c_smooth c_weights x1 x2 x3 x4 H locs ls hP hD hS hl hF; exact nos hF
            | succ n81 ih81 =>
              have K115 : ∀ (c_codes : Int32) (c_left : Nat → Int32) (c_smooth : Nat → Int32) (c_weights : Nat → Int32) (x1 : Int32) (x2 : Int32) (x3 : Int32) (x4 : Int32) (v0 : Int32)  (H : Heap) (locs : List Loc) (ls : Array Slot), va_P D vwCl (wd_X6_laySmooth cI a_t a_z a_history a_text a_left a_other a_smooth a_weights a_signs a_worked c_states c_length c_thrown c_codes c_read c_isOpen c_hash c_left c_smooth c_weights c_z) H → va_D A (wd_X6_laySmooth cI a_t a_z a_history a_text a_left a_other a_smooth a_weights a_signs a_worked c_states c_length c_thrown c_codes c_read c_isOpen c_hash c_left c_smooth c_weights c_z) → va_S A s.heap H locs → lv_has ls 6 [(0, .ref a_t), (1, .int x1), (2, .int x2), (3, .int x3), (4, .int x4)] → F_X6_laySmooth_J115 (F_X6_laySmooth_L52 c_z n52) (F_X6_laySmooth_L62 (F_X6_laySmooth_L52 c_z n52) c_z n62) (F_X6_laySmooth_L81 (F_X6_laySmooth_L52 c_z n52) (F_X6_laySmooth_L62 (F_X6_laySmooth_L52 c_z n52) c_z n62) c_z n81) c_z c_codes c_left c_smooth c_weights x1 x2 x3 x4 v0 = some o → W p l e rm_X6_laySmooth s m args below meth c H locs 0 0 Q (F0 m 115 ls [.int v0]) := by
                intro c_codes c_left c_smooth c_weights x1 x2 x3 x4 v0 H locs ls hP hD hS hl hF
                unfold F_X6_laySmooth_J115 at hF
                refine lv_istore (lv' := [(5, .int v0), (0, .ref a_t), (1, .int x1), (2, .int x2), (3, .int x3), (4, .int x4)]) hx hb dX6_laySmooth_115 hl (by decide) rfl (fun ls hl => ?_)
                refine lv_iload_n hx hb dX6_laySmooth_117 rfl (lv_at hl 4 rfl) ?_
                refine lv_iload hx hb dX6_laySmooth_118 (lv_at hl 0 rfl) ?_
                refine lv_if_eq (tgt := 152) hx hb dX6_laySmooth_120 (by decide) (fun k120 => ?_) (fun k120 => ?_)
                · replace hF := (if_pos k120).symm.trans hF
                  refine lv_iconst (v := 0) hx hb dX6_laySmooth_152 (by decide) ?_
                  refine lv_iadd hx hb dX6_laySmooth_153 ?_
                  refine lv_istore_n (lv' := [(3, .int (x3 + (0 : Int32))), (5, .int v0), (0, .ref a_t), (1, .int x1), (2, .int x2), (4, .int x4)]) hx hb dX6_laySmooth_154 rfl hl (by decide) rfl (fun ls hl => ?_)
                  refine lv_iinc (v := x4 + 1) (lv' := [(4, .int (x4 + 1)), (3, .int (x3 + (0 : Int32))), (5, .int v0), (0, .ref a_t), (1, .int x1), (2, .int x2)]) hx hb dX6_laySmooth_155 hl (k := 5) rfl rfl (by decide) rfl (fun ls hl => ?_)
                  refine lv_goto (tgt := 81) hx hb dX6_laySmooth_158 (by decide) ?_
                  exact ih81 c_codes c_left c_smooth c_weights x1 x2 (x3 + (0 : Int32)) (x4 + 1) H locs ls hP hD hS (lv_sub hl [3, 4, 5, 1, 0] rfl) hF
                · replace hF := (if_neg k120).symm.trans hF
                  refine lv_iload hx hb dX6_laySmooth_123 (lv_at hl 5 rfl) ?_
                  refine lv_iload_n hx hb dX6_laySmooth_125 rfl (lv_at hl 3 rfl) ?_
                  refine lv_icmp_eq (tgt := 152) hx hb dX6_laySmooth_126 (by decide) (fun k126 => ?_) (fun k126 => ?_)
                  · replace hF := (if_pos k126).symm.trans hF
                    refine lv_iconst (v := 0) hx hb dX6_laySmooth_152 (by decide) ?_
                    refine lv_iadd hx hb dX6_laySmooth_153 ?_
                    refine lv_istore_n (lv' := [(3, .int (x3 + (0 : Int32))), (5, .int v0), (0, .ref a_t), (1, .int x1), (2, .int x2), (4, .int x4)]) hx hb dX6_laySmooth_154 rfl hl (by decide) rfl (fun ls hl => ?_)
                    refine lv_iinc (v := x4 + 1) (lv' := [(4, .int (x4 + 1)), (3, .int (x3 + (0 : Int32))), (5, .int v0), (0, .ref a_t), (1, .int x1), (2, .int x2)]) hx hb dX6_laySmooth_155 hl (k := 5) rfl rfl (by decide) rfl (fun ls hl => ?_)
                    refine lv_goto (tgt := 81) hx hb dX6_laySmooth_158 (by decide) ?_
                    exact ih81 c_codes c_left c_smooth c_weights x1 x2 (x3 + (0 : Int32)) (x4 + 1) H locs ls hP hD hS (lv_sub hl [3, 4, 5, 1, 0] rfl) hF
                  · replace hF := (if_neg k126).symm.trans hF
                    refine lv_aload_n hx hb dX6_laySmooth_129 rfl (lv_at hl 1 rfl) ?_
                    refine get_X6_25 hx hb hts hown hK hP 0 rfl rfl dX6_laySmooth_130 ?_
                    refine lv_bipush (v := 7) hx hb dX6_laySmooth_133 (by decide) ?_
                    refine lv_iload_n hx hb dX6_laySmooth_135 rfl (lv_at hl 2 rfl) ?_
                    refine lv_aload_n hx hb dX6_laySmooth_136 rfl (lv_at hl 1 rfl) ?_
                    refine get_X6_28 hx hb hts hown hK hP 0 rfl rfl dX6_laySmooth_137 ?_
                    refine lv_iload hx hb dX6_laySmooth_140 (lv_at hl 5 rfl) ?_
                    obtain ⟨g142, hF⟩ := gdb hF
                    refine va_iald hx hb hK hP 3 0 rfl rfl (vinb g142) dX6_laySmooth_142 ?_
                    refine lv_isub hx hb dX6_laySmooth_143 ?_
                    refine lv_imul hx hb dX6_laySmooth_144 ?_
                    refine lv_iload hx hb dX6_laySmooth_145 (lv_at hl 5 rfl) ?_
                    refine lv_iadd hx hb dX6_laySmooth_147 ?_
                    obtain ⟨g148, hF⟩ := gdb hF
                    refine va_iald hx hb hK hP 2 0 rfl rfl (vinb g148) dX6_laySmooth_148 ?_
                    refine lv_goto (tgt := 153) hx hb dX6_laySmooth_149 (by decide) ?_
                    refine lv_iadd hx hb dX6_laySmooth_153 ?_
                    refine lv_istore_n (lv' := [(3, .int (x3 + (c_smooth (((7 : Int32) * (x1 - (c_weights (x4).toNatClampNeg))) + x4).toNatClampNeg))), (5, .int v0), (0, .ref a_t), (1, .int x1), (2, .int x2), (4, .int x4)]) hx hb dX6_laySmooth_154 rfl hl (by decide) rfl (fun ls hl => ?_)
                    refine lv_iinc (v := x4 + 1) (lv' := [(4, .int (x4 + 1)), (3, .int (x3 + (c_smooth (((7 : Int32) * (x1 - (c_weights (x4).toNatClampNeg))) + x4).toNatClampNeg))), (5, .int v0), (0, .ref a_t), (1, .int x1), (2, .int x2)]) hx hb dX6_laySmooth_155 hl (k := 5) rfl rfl (by decide) rfl (fun ls hl => ?_)
                    refine lv_goto (tgt := 81) hx hb dX6_laySmooth_158 (by decide) ?_
                    exact ih81 c_codes c_left c_smooth c_weights x1 x2 (x3 + (c_smooth (((7 : Int32) * (x1 - (c_weights (x4).toNatClampNeg))) + x4).toNatClampNeg)) (x4 + 1) H locs ls hP hD hS (lv_sub hl [3, 4, 5, 1, 0] rfl) hF
              intro c_codes c_left c_smooth c_weights x1 x2 x3 x4 H locs ls hP hD hS hl hF
              rw [F_X6_laySmooth_L81] at hF
              refine lv_iload hx hb dX6_laySmooth_81 (lv_at hl 4 rfl) ?_
              refine lv_bipush (v := 6) hx hb dX6_laySmooth_83 (by decide) ?_
              refine lv_icmp_ge (tgt := 161) hx hb dX6_laySmooth_85 (by decide) (fun k85 => ?_) (fun k85 => ?_)
              · replace hF := (if_pos k85).symm.trans hF
                refine lv_aload_n hx hb dX6_laySmooth_161 rfl (lv_at hl 0 rfl) ?_
                refine get_X6_25 hx hb hts hown hK hP 0 rfl rfl dX6_laySmooth_162 ?_
                refine lv_bipush (v := 7) hx hb dX6_laySmooth_165 (by decide) ?_
                refine lv_iload_n hx hb dX6_laySmooth_167 rfl (lv_at hl 1 rfl) ?_
                refine lv_imul hx hb dX6_laySmooth_168 ?_
                refine lv_iload_n hx hb dX6_laySmooth_169 rfl (lv_at hl 2 rfl) ?_
                refine lv_iadd hx hb dX6_laySmooth_170 ?_
                refine lv_iload_n hx hb dX6_laySmooth_171 rfl (lv_at hl 3 rfl) ?_
                obtain ⟨g172, hF⟩ := gdb hF
                refine va_iast hx hb hK hP hD hS 2 0 rfl rfl (vinb g172) dX6_laySmooth_172 (fun H locs hP hD hS => ?_)
                have hP : va_P D vwCl (wd_X6_laySmooth cI a_t a_z a_history a_text a_left a_other a_smooth a_weights a_signs a_worked c_states c_length c_thrown c_codes c_read c_isOpen c_hash c_left (upd c_smooth (((7 : Int32) * x1) + x2).toNatClampNeg x3) c_weights c_z) H := hP
                have hD : va_D A (wd_X6_laySmooth cI a_t a_z a_history a_text a_left a_other a_smooth a_weights a_signs a_worked c_states c_length c_thrown c_codes c_read c_isOpen c_hash c_left (upd c_smooth (((7 : Int32) * x1) + x2).toNatClampNeg x3) c_weights c_z) := hD
                refine lv_iinc (v := x2 + 1) (lv' := [(2, .int (x2 + 1)), (0, .ref a_t), (1, .int x1), (3, .int x3), (4, .int x4)]) hx hb dX6_laySmooth_173 hl (k := 2) rfl rfl (by decide) rfl (fun ls hl => ?_)
                refine lv_goto (tgt := 62) hx hb dX6_laySmooth_176 (by decide) ?_
                exact ih62 c_codes c_left (upd c_smooth (((7 : Int32) * x1) + x2).toNatClampNeg x3) c_weights x1 (x2 + 1) H locs ls hP hD hS (lv_sub hl [1, 2, 0] rfl) hF
              · replace hF := (if_neg k85).symm.trans hF
                refine lv_iload_n hx hb dX6_laySmooth_88 rfl (lv_at hl 1 rfl) ?_
                refine lv_aload_n hx hb dX6_laySmooth_89 rfl (lv_at hl 0 rfl) ?_
                refine get_X6_28 hx hb hts hown hK hP 0 rfl rfl dX6_laySmooth_90 ?_
                refine lv_iload hx hb dX6_laySmooth_93 (lv_at hl 4 rfl) ?_
                obtain ⟨g95, hF⟩ := gdb hF
                refine va_iald hx hb hK hP 3 0 rfl rfl (vinb g95) dX6_laySmooth_95 ?_
                obtain ⟨g96, hF⟩ := gdb hF
                refine lv_idiv hx hb dX6_laySmooth_96 (nzb g96) ?_
                refine lv_aload_n hx hb dX6_laySmooth_97 rfl (lv_at hl 0 rfl) ?_
                refine get_X6_19 hx hb hts hown hK hP 0 rfl rfl dX6_laySmooth_98 ?_
                refine lv_iload hx hb dX6_laySmooth_101 (lv_at hl 4 rfl) ?_
                obtain ⟨g103, hF⟩ := gdb hF
                refine va_iald hx hb hK hP 1 0 rfl rfl (vinb g103) dX6_laySmooth_103 ?_
                refine lv_iconst (v := 1) hx hb dX6_laySmooth_104 (by decide) ?_
                refine lv_iadd hx hb dX6_laySmooth_105 ?_
                obtain ⟨g106, hF⟩ := gdb hF
                refine lv_irem hx hb dX6_laySmooth_106 (nzb g106) ?_
                refine lv_if_le (tgt := 114) hx hb dX6_laySmooth_107 (by decide) (fun k107 => ?_) (fun k107 => ?_)
                · (try simp only [if_pos k107] at hF)
                  refine lv_iconst (v := 0) hx hb dX6_laySmooth_114 (by decide) ?_
                  exact K115 c_codes c_left c_smooth c_weights x1 x2 x3 x4 (0 : Int32) H locs ls hP hD hS (lv_sub hl [0, 1, 2, 3, 4] rfl) hF
                · (try simp only [if_neg k107] at hF)
                  refine lv_iconst (v := 1) hx hb dX6_laySmooth_110 (by decide) ?_
                  refine lv_goto (tgt := 115) hx hb dX6_laySmooth_111 (by decide) ?_
                  exact K115 c_codes c_left c_smooth c_weights x1 x2 x3 x4 (1 : Int32) H locs ls hP hD hS (lv_sub hl [0, 1, 2, 3, 4] rfl) hF
          intro c_codes c_left c_smooth c_weights x1 x2 H locs ls hP hD hS hl hF
          rw [F_X6_laySmooth_L62] at hF
          refine lv_iload_n hx hb dX6_laySmooth_62 rfl (lv_at hl 2 rfl) ?_
          refine lv_bipush (v := 6) hx hb dX6_laySmooth_63 (by decide) ?_
          refine lv_icmp_gt (tgt := 179) hx hb dX6_laySmooth_65 (by decide) (fun k65 => ?_) (fun k65 => ?_)
          · replace hF := (if_pos k65).symm.trans hF
            refine lv_iinc (v := x1 + 1) (lv' := [(1, .int (x1 + 1)), (0, .ref a_t), (2, .int x2)]) hx hb dX6_laySmooth_179 hl (k := 1) rfl rfl (by decide) rfl (fun ls hl => ?_)
            refine lv_goto (tgt := 52) hx hb dX6_laySmooth_182 (by decide) ?_
            exact ih52 c_codes c_left c_smooth c_weights (x1 + 1) H locs ls hP hD hS (lv_sub hl [1, 0] rfl) hF
          · replace hF := (if_neg k65).symm.trans hF
            refine lv_iload_n hx hb dX6_laySmooth_68 rfl (lv_at hl 1 rfl) ?_
            refine lv_if_ne (tgt := 76) hx hb dX6_laySmooth_69 (by decide) (fun k69 => ?_) (fun k69 => ?_)
            · (try simp only [if_neg k69] at hF)
              refine lv_iconst (v := 0) hx hb dX6_laySmooth_76 (by decide) ?_
              refine lv_istore_n (lv' := [(3, .int (0 : Int32)), (0, .ref a_t), (1, .int x1), (2, .int x2)]) hx hb dX6_laySmooth_77 rfl hl (by decide) rfl (fun ls hl => ?_)
              refine lv_iconst (v := 0) hx hb dX6_laySmooth_78 (by decide) ?_
              refine lv_istore (lv' := [(4, .int (0 : Int32)), (3, .int (0 : Int32)), (0, .ref a_t), (1, .int x1), (2, .int x2)]) hx hb dX6_laySmooth_79 hl (by decide) rfl (fun ls hl => ?_)
              exact K81 FU c_codes c_left c_smooth c_weights x1 x2 (0 : Int32) (0 : Int32) H locs ls hP hD hS (lv_sub hl [2, 3, 4, 1, 0] rfl) hF
            · (try simp only [if_pos k69] at hF)
              refine lv_iconst (v := 1) hx hb dX6_laySmooth_72 (by decide) ?_
              refine lv_goto (tgt := 77) hx hb dX6_laySmooth_73 (by decide) ?_
              refine lv_istore_n (lv' := [(3, .int (1 : Int32)), (0, .ref a_t), (1, .int x1), (2, .int x2)]) hx hb dX6_laySmooth_77 rfl hl (by decide) rfl (fun ls hl => ?_)
              refine lv_iconst (v := 0) hx hb dX6_laySmooth_78 (by decide) ?_
              refine lv_istore (lv' := [(4, .int (0 : Int32)), (3, .int (1 : Int32)), (0, .ref a_t), (1, .int x1), (2, .int x2)]) hx hb dX6_laySmooth_79 hl (by decide) rfl (fun ls hl => ?_)
              exact K81 FU c_codes c_left c_smooth c_weights x1 x2 (1 : Int32) (0 : Int32) H locs ls hP hD hS (lv_sub hl [2, 3, 4, 1, 0] rfl) hF
      intro c_codes c_left c_smooth c_weights x1 H locs ls hP hD hS hl hF
      rw [F_X6_laySmooth_L52] at hF
      refine lv_iload_n hx hb dX6_laySmooth_52 rfl (lv_at hl 1 rfl) ?_
      refine lv_aload_n hx hb dX6_laySmooth_53 rfl (lv_at hl 0 rfl) ?_
      refine get_X6_74 hx hb hts hown hK hP 0 rfl rfl dX6_laySmooth_54 ?_
      refine lv_icmp_ge (tgt := 185) hx hb dX6_laySmooth_57 (by decide) (fun k57 => ?_) (fun k57 => ?_)
      · replace hF := (if_pos k57).symm.trans hF
        have ho := Option.some.inj hF
        exact hret H locs ls 185 _ hP hS (by rw [← ho]) dX6_laySmooth_185
      · replace hF := (if_neg k57).symm.trans hF
        refine lv_iconst (v := 0) hx hb dX6_laySmooth_60 (by decide) ?_
        refine lv_istore_n (lv' := [(2, .int (0 : Int32)), (0, .ref a_t), (1, .int x1)]) hx hb dX6_laySmooth_61 rfl hl (by decide) rfl (fun ls hl => ?_)
        exact K62 FU c_codes c_left c_smooth c_weights x1 (0 : Int32) H locs ls hP hD hS (lv_sub hl [1, 2, 0] rfl) hF
  have K11 : ∀ (n11 : Nat) (c_codes : Int32) (c_left : Nat → Int32) (c_smooth : Nat → Int32) (c_weights : Nat → Int32) (x1 : Int32) (H : Heap) (locs : List Loc) (ls : Array Slot), va_P D vwCl (wd_X6_laySmooth cI a_t a_z a_history a_text a_left a_other a_smooth a_weights a_signs a_worked c_states c_length c_thrown c_codes c_read c_isOpen c_hash c_left c_smooth c_weights c_z) H → va_D A (wd_X6_laySmooth cI a_t a_z a_history a_text a_left a_other a_smooth a_weights a_signs a_worked c_states c_length c_thrown c_codes c_read c_isOpen c_hash c_left c_smooth c_weights c_z) → va_S A s.heap H locs → lv_has ls 6 [(0, .ref a_t), (1, .int x1)] → F_X6_laySmooth_L11 c_z n11 c_codes c_left c_smooth c_weights x1 = some o → W p l e rm_X6_laySmooth s m args below meth c H locs 0 0 Q (F0 m 11 ls []) := by
    intro n11
    induction n11 with
    | zero => intro c_codes c_left c_smooth c_weights x1 H locs ls hP hD hS hl hF; exact nos hF
    | succ n11 ih11 =>
      intro c_codes c_left c_smooth c_weights x1 H locs ls hP hD hS hl hF
      rw [F_X6_laySmooth_L11] at hF
      refine lv_iload_n hx hb dX6_laySmooth_11 rfl (lv_at hl 1 rfl) ?_
      refine lv_bipush (v := 6) hx hb dX6_laySmooth_12 (by decide) ?_
      refine lv_icmp_ge (tgt := 50) hx hb dX6_laySmooth_14 (by decide) (fun k14 => ?_) (fun k14 => ?_)
      · replace hF := (if_pos k14).symm.trans hF
        refine lv_iconst (v := 0) hx hb dX6_laySmooth_50 (by decide) ?_
        refine lv_istore_n (lv' := [(1, .int (0 : Int32)), (0, .ref a_t)]) hx hb dX6_laySmooth_51 rfl hl (by decide) rfl (fun ls hl => ?_)
        exact K52 FU c_codes c_left c_smooth c_weights (0 : Int32) H locs ls hP hD hS (lv_sub hl [1, 0] rfl) hF
      · replace hF := (if_neg k14).symm.trans hF
        refine lv_aload_n hx hb dX6_laySmooth_17 rfl (lv_at hl 0 rfl) ?_
        refine get_X6_28 hx hb hts hown hK hP 0 rfl rfl dX6_laySmooth_18 ?_
        refine lv_iload_n hx hb dX6_laySmooth_21 rfl (lv_at hl 1 rfl) ?_
        refine lv_aload_n hx hb dX6_laySmooth_22 rfl (lv_at hl 0 rfl) ?_
        refine get_X6_74 hx hb hts hown hK hP 0 rfl rfl dX6_laySmooth_23 ?_
        obtain ⟨g26, hF⟩ := gdb hF
        refine va_iast hx hb hK hP hD hS 3 0 rfl rfl (vinb g26) dX6_laySmooth_26 (fun H locs hP hD hS => ?_)
        have hP : va_P D vwCl (wd_X6_laySmooth cI a_t a_z a_history a_text a_left a_other a_smooth a_weights a_signs a_worked c_states c_length c_thrown c_codes c_read c_isOpen c_hash c_left c_smooth (upd c_weights (x1).toNatClampNeg c_codes) c_z) H := hP
        have hD : va_D A (wd_X6_laySmooth cI a_t a_z a_history a_text a_left a_other a_smooth a_weights a_signs a_worked c_states c_length c_thrown c_codes c_read c_isOpen c_hash c_left c_smooth (upd c_weights (x1).toNatClampNeg c_codes) c_z) := hD
        refine lv_aload_n hx hb dX6_laySmooth_27 rfl (lv_at hl 0 rfl) ?_
        refine lv_dup hx hb dX6_laySmooth_28 rfl ?_
        refine get_X6_74 hx hb hts hown hK hP 0 rfl rfl dX6_laySmooth_29 ?_
        refine lv_aload_n hx hb dX6_laySmooth_32 rfl (lv_at hl 0 rfl) ?_
        refine get_X6_19 hx hb hts hown hK hP 0 rfl rfl dX6_laySmooth_33 ?_
        refine lv_iload_n hx hb dX6_laySmooth_36 rfl (lv_at hl 1 rfl) ?_
        obtain ⟨g37, hF⟩ := gdb hF
        refine va_iald hx hb hK hP 1 0 rfl rfl (vinb g37) dX6_laySmooth_37 ?_
        refine lv_iconst (v := 1) hx hb dX6_laySmooth_38 (by decide) ?_
        refine lv_iadd hx hb dX6_laySmooth_39 ?_
        refine lv_imul hx hb dX6_laySmooth_40 ?_
        refine put_X6_74 hx hb hts hown hK hP hD hS 0 rfl rfl rfl (Nat.le_of_ble_eq_true rfl) dX6_laySmooth_41 (fun H locs hP hD hS => ?_)
        have hP : va_P D vwCl (wd_X6_laySmooth cI a_t a_z a_history a_text a_left a_other a_smooth a_weights a_signs a_worked c_states c_length c_thrown (c_codes * ((c_left (x1).toNatClampNeg) + (1 : Int32))) c_read c_isOpen c_hash c_left c_smooth (upd c_weights (x1).toNatClampNeg c_codes) c_z) H := hP
        have hD : va_D A (wd_X6_laySmooth cI a_t a_z a_history a_text a_left a_other a_smooth a_weights a_signs a_worked c_states c_length c_thrown (c_codes * ((c_left (x1).toNatClampNeg) + (1 : Int32))) c_read c_isOpen c_hash c_left c_smooth (upd c_weights (x1).toNatClampNeg c_codes) c_z) := hD
        refine lv_iinc (v := x1 + 1) (lv' := [(1, .int (x1 + 1)), (0, .ref a_t)]) hx hb dX6_laySmooth_44 hl (k := 1) rfl rfl (by decide) rfl (fun ls hl => ?_)
        refine lv_goto (tgt := 11) hx hb dX6_laySmooth_47 (by decide) ?_
        exact ih11 (c_codes * ((c_left (x1).toNatClampNeg) + (1 : Int32))) c_left c_smooth (upd c_weights (x1).toNatClampNeg c_codes) (x1 + 1) H locs ls hP hD hS (lv_sub hl [1, 0] rfl) hF
  unfold F_X6_laySmooth at hF
  have hP : va_P D vwCl (wd_X6_laySmooth cI a_t a_z a_history a_text a_left a_other a_smooth a_weights a_signs a_worked c_states c_length c_thrown c_codes c_read c_isOpen c_hash c_left c_smooth c_weights c_z) s.heap := hP
  obtain ⟨H, hH⟩ : ∃ H, H = s.heap := ⟨_, rfl⟩
  rw [← hH]
  rw [← hH] at hP
  obtain ⟨locs, hlo⟩ : ∃ z : List Loc, z = [] := ⟨_, rfl⟩
  rw [← hlo]
  have hS : va_S A s.heap H locs := by rw [hH, hlo]; exact hS
  refine lv_aload_n hx hb dX6_laySmooth_0 rfl (lv_at hl 0 rfl) ?_
  obtain ⟨r1, hr1, hF⟩ := opb hF
  refine kVV (As := []) (rest := []) (ws' := (wd_X6_laySmooth cI a_t a_z a_history a_text a_left a_other a_smooth a_weights a_signs a_worked c_states c_length c_thrown c_codes c_read c_isOpen c_hash r1 c_smooth c_weights c_z)) ⟨hx, hb, hml, hown, hts⟩ (c_X6_countAll l D cI a_t a_z a_history a_text a_left a_other a_smooth a_weights a_signs a_worked H.size c_states c_length c_thrown c_codes c_read c_isOpen c_hash c_left c_z  r1 hr1) (cwV 0 hts mw_X6_56 rfl rfl rfl hd_X6_countAll ⟨Nat.le_of_ble_eq_true rfl, Nat.le_of_ble_eq_true rfl⟩) hS hA hG hK hP hD [0, 1, 4] rfl rfl rfl rfl rfl ⟨Nat.zero_le _, Nat.zero_le _⟩ 6 0 rfl rfl rfl rfl hl.1 rfl (Nat.le_of_ble_eq_true rfl) dX6_laySmooth_1 (fun H locs hP hD hS => ?_)
  refine lv_aload_n hx hb dX6_laySmooth_4 rfl (lv_at hl 0 rfl) ?_
  refine lv_iconst (v := 1) hx hb dX6_laySmooth_5 (by decide) ?_
  refine put_X6_74 hx hb hts hown hK hP hD hS 0 rfl rfl rfl (Nat.le_of_ble_eq_true rfl) dX6_laySmooth_6 (fun H locs hP hD hS => ?_)
  have hP : va_P D vwCl (wd_X6_laySmooth cI a_t a_z a_history a_text a_left a_other a_smooth a_weights a_signs a_worked c_states c_length c_thrown (1 : Int32) c_read c_isOpen c_hash r1 c_smooth c_weights c_z) H := hP
  have hD : va_D A (wd_X6_laySmooth cI a_t a_z a_history a_text a_left a_other a_smooth a_weights a_signs a_worked c_states c_length c_thrown (1 : Int32) c_read c_isOpen c_hash r1 c_smooth c_weights c_z) := hD
  refine lv_iconst (v := 0) hx hb dX6_laySmooth_9 (by decide) ?_
  refine lv_istore_n (lv' := [(1, .int (0 : Int32)), (0, .ref a_t)]) hx hb dX6_laySmooth_10 rfl hl (by decide) rfl (fun ls hl => ?_)
  exact K11 FU (1 : Int32) r1 c_smooth c_weights (0 : Int32) H locs ls hP hD hS (lv_sub hl [1, 0] rfl) hF
abbrev wd_X6_allSmooth (cI : ClassId) (a_t a_z a_history a_text a_left a_other a_smooth a_weights a_signs a_worked : Nat) (c_states : Int32) (c_length : Int32) (c_thrown : Int32) (c_codes : Int32) (c_read : Int32) (c_isOpen : Int32) (c_hash : Int64) (c_left : Nat → Int32) (c_smooth : Nat → Int32) (c_weights : Nat → Int32) (c_z : Nat → Int32) : va_W := [(a_t, .inr (6, [.ref a_z, .int c_states, .ref a_history, .int c_length, .ref a_text, .int c_thrown, .ref a_left, .ref a_other, .ref a_smooth, .ref a_weights, .int c_codes, .ref a_signs, .int c_read, .int c_isOpen, .ref a_worked, .long c_hash])), (a_left, .inl (cI, 6, .inl c_left)), (a_smooth, .inl (cI, 4200, .inl c_smooth)), (a_weights, .inl (cI, 6, .inl c_weights)), (a_z, .inl (cI, 13, .inl c_z))]
def rm_X6_allSmooth : Room := { frames := 2, cells := 0, slots := 0, locals := 46 }
set_option maxHeartbeats 4000000 in
set_option maxRecDepth 100000 in
theorem c_X6_allSmooth (l : Launch) (D : va_G) (cI : ClassId) (a_t a_z a_history a_text a_left a_other a_smooth a_weights a_signs a_worked : Nat) (sz : Nat) (c_states : Int32) (c_length : Int32) (c_thrown : Int32) (c_codes : Int32) (c_read : Int32) (c_isOpen : Int32) (c_hash : Int64) (c_left : Nat → Int32) (c_smooth : Nat → Int32) (c_weights : Nat → Int32) (c_z : Nat → Int32) (o : Int32 × Int32 × (Nat → Int32) × (Nat → Int32) × (Nat → Int32)) (hF : F_X6_allSmooth c_codes c_left c_smooth c_weights c_z = some o) : Met l yX6_allSmooth (Cond.code yX6_allSmooth cX6_allSmooth 1 (some .int) :: WL) rm_X6_allSmooth (preM D [(cI, .int)] (wd_X6_allSmooth cI a_t a_z a_history a_text a_left a_other a_smooth a_weights a_signs a_worked c_states c_length c_thrown c_codes c_read c_isOpen c_hash c_left c_smooth c_weights c_z) sz [.ref a_t]) (postI D o.1 (wd_X6_allSmooth cI a_t a_z a_history a_text a_left a_other a_smooth a_weights a_signs a_worked c_states c_length c_thrown o.2.1 c_read c_isOpen c_hash o.2.2.1 o.2.2.2.1 o.2.2.2.2 c_z) (wd_X6_allSmooth cI a_t a_z a_history a_text a_left a_other a_smooth a_weights a_signs a_worked c_states c_length c_thrown c_codes c_read c_isOpen c_hash c_left c_smooth c_weights c_z) sz) 0 0 (va_A (wd_X6_allSmooth cI a_t a_z a_history a_text a_left a_other a_smooth a_weights a_signs a_worked c_states c_length c_thrown c_codes c_read c_isOpen c_hash c_left c_smooth c_weights c_z) sz) := by
  refine mofI (by decide +kernel) (Nat.le_of_ble_eq_true rfl) ?_
  intro p e s m args below meth c Q A ls hx hb hml hown hts hK hP hD hS hA hG hl hret hsz0
  have hl : lv_has ls 1 [(0, .ref a_t)] := hl
  unfold F_X6_allSmooth at hF
  have hP : va_P D vwCl (wd_X6_allSmooth cI a_t a_z a_history a_text a_left a_other a_smooth a_weights a_signs a_worked c_states c_length c_thrown c_codes c_read c_isOpen c_hash c_left c_smooth c_weights c_z) s.heap := hP
  obtain ⟨H, hH⟩ : ∃ H, H = s.heap := ⟨_, rfl⟩
  rw [← hH]
  rw [← hH] at hP
  obtain ⟨locs, hlo⟩ : ∃ z : List Loc, z = [] := ⟨_, rfl⟩
  rw [← hlo]
  have hS : va_S A s.heap H locs := by rw [hH, hlo]; exact hS
  refine lv_aload_n hx hb dX6_allSmooth_0 rfl (lv_at hl 0 rfl) ?_
  obtain ⟨r1, hr1, hF⟩ := opb hF
  refine kVV (As := []) (rest := []) (ws' := (wd_X6_allSmooth cI a_t a_z a_history a_text a_left a_other a_smooth a_weights a_signs a_worked c_states c_length c_thrown r1.1 c_read c_isOpen c_hash r1.2.1 r1.2.2.1 r1.2.2.2 c_z)) ⟨hx, hb, hml, hown, hts⟩ (c_X6_laySmooth l D cI a_t a_z a_history a_text a_left a_other a_smooth a_weights a_signs a_worked H.size c_states c_length c_thrown c_codes c_read c_isOpen c_hash c_left c_smooth c_weights c_z  r1 hr1) (cwV 0 hts mw_X6_77 rfl rfl rfl hd_X6_laySmooth ⟨Nat.le_of_ble_eq_true rfl, Nat.le_of_ble_eq_true rfl⟩) hS hA hG hK hP hD [0, 1, 2, 3, 4] rfl rfl rfl rfl rfl ⟨Nat.zero_le _, Nat.zero_le _⟩ 6 0 rfl rfl rfl rfl hl.1 rfl (Nat.le_of_ble_eq_true rfl) dX6_allSmooth_1 (fun H locs hP hD hS => ?_)
  refine lv_aload_n hx hb dX6_allSmooth_4 rfl (lv_at hl 0 rfl) ?_
  refine get_X6_25 hx hb hts hown hK hP 0 rfl rfl dX6_allSmooth_5 ?_
  refine lv_bipush (v := 7) hx hb dX6_allSmooth_8 (by decide) ?_
  refine lv_aload_n hx hb dX6_allSmooth_10 rfl (lv_at hl 0 rfl) ?_
  refine get_X6_74 hx hb hts hown hK hP 0 rfl rfl dX6_allSmooth_11 ?_
  refine lv_iconst (v := 1) hx hb dX6_allSmooth_14 (by decide) ?_
  refine lv_isub hx hb dX6_allSmooth_15 ?_
  refine lv_imul hx hb dX6_allSmooth_16 ?_
  refine lv_bipush (v := 6) hx hb dX6_allSmooth_17 (by decide) ?_
  refine lv_iadd hx hb dX6_allSmooth_19 ?_
  obtain ⟨g20, hF⟩ := gdb hF
  refine va_iald hx hb hK hP 2 0 rfl rfl (vinb g20) dX6_allSmooth_20 ?_
  have ho := Option.some.inj hF
  exact hret H locs ls 21 (r1.2.2.1 (((7 : Int32) * (r1.1 - (1 : Int32))) + (6 : Int32)).toNatClampNeg) _ hP hS (by rw [← ho]) (by rw [← ho]) dX6_allSmooth_21
abbrev wd_X6_smoothAhead (cI : ClassId) (a_t a_z a_history a_text a_left a_other a_smooth a_weights a_signs a_worked : Nat) (c_states : Int32) (c_length : Int32) (c_thrown : Int32) (c_codes : Int32) (c_read : Int32) (c_isOpen : Int32) (c_hash : Int64) (c_left : Nat → Int32) (c_smooth : Nat → Int32) (c_weights : Nat → Int32) (c_z : Nat → Int32) : va_W := [(a_t, .inr (6, [.ref a_z, .int c_states, .ref a_history, .int c_length, .ref a_text, .int c_thrown, .ref a_left, .ref a_other, .ref a_smooth, .ref a_weights, .int c_codes, .ref a_signs, .int c_read, .int c_isOpen, .ref a_worked, .long c_hash])), (a_left, .inl (cI, 6, .inl c_left)), (a_smooth, .inl (cI, 4200, .inl c_smooth)), (a_weights, .inl (cI, 6, .inl c_weights)), (a_z, .inl (cI, 13, .inl c_z))]
def rm_X6_smoothAhead : Room := { frames := 2, cells := 0, slots := 0, locals := 46 }
set_option maxHeartbeats 4000000 in
set_option maxRecDepth 100000 in
theorem c_X6_smoothAhead (l : Launch) (D : va_G) (cI : ClassId) (a_t a_z a_history a_text a_left a_other a_smooth a_weights a_signs a_worked : Nat) (sz : Nat) (c_states : Int32) (c_length : Int32) (c_thrown : Int32) (c_codes : Int32) (c_read : Int32) (c_isOpen : Int32) (c_hash : Int64) (c_left : Nat → Int32) (c_smooth : Nat → Int32) (c_weights : Nat → Int32) (c_z : Nat → Int32) (x1 : Int32) (o : Int32 × Int32 × (Nat → Int32) × (Nat → Int32) × (Nat → Int32)) (hF : F_X6_smoothAhead c_codes c_left c_smooth c_weights c_z x1 = some o) : Met l yX6_smoothAhead (Cond.code yX6_smoothAhead cX6_smoothAhead 9 (some .int) :: WL) rm_X6_smoothAhead (preM D [(cI, .int)] (wd_X6_smoothAhead cI a_t a_z a_history a_text a_left a_other a_smooth a_weights a_signs a_worked c_states c_length c_thrown c_codes c_read c_isOpen c_hash c_left c_smooth c_weights c_z) sz [.ref a_t, .int x1]) (postI D o.1 (wd_X6_smoothAhead cI a_t a_z a_history a_text a_left a_other a_smooth a_weights a_signs a_worked c_states c_length c_thrown o.2.1 c_read c_isOpen c_hash o.2.2.1 o.2.2.2.1 o.2.2.2.2 c_z) (wd_X6_smoothAhead cI a_t a_z a_history a_text a_left a_other a_smooth a_weights a_signs a_worked c_states c_length c_thrown c_codes c_read c_isOpen c_hash c_left c_smooth c_weights c_z) sz) 0 0 (va_A (wd_X6_smoothAhead cI a_t a_z a_history a_text a_left a_other a_smooth a_weights a_signs a_worked c_states c_length c_thrown c_codes c_read c_isOpen c_hash c_left c_smooth c_weights c_z) sz) := by
  refine mofI (by decide +kernel) (Nat.le_of_ble_eq_true rfl) ?_
  intro p e s m args below meth c Q A ls hx hb hml hown hts hK hP hD hS hA hG hl hret hsz0
  have hl : lv_has ls 9 [(0, .ref a_t), (1, .int x1)] := hl
  have K20 : ∀ (n20 : Nat) (c_codes : Int32) (c_left : Nat → Int32) (c_smooth : Nat → Int32) (c_weights : Nat → Int32) (x2 : Int32) (x3 : Int32) (x4 : Int32) (x5 : Int32) (H : Heap) (locs : List Loc) (ls : Array Slot), va_P D vwCl (wd_X6_smoothAhead cI a_t a_z a_history a_text a_left a_other a_smooth a_weights a_signs a_worked c_states c_length c_thrown c_codes c_read c_isOpen c_hash c_left c_smooth c_weights c_z) H → va_D A (wd_X6_smoothAhead cI a_t a_z a_history a_text a_left a_other a_smooth a_weights a_signs a_worked c_states c_length c_thrown c_codes c_read c_isOpen c_hash c_left c_smooth c_weights c_z) → va_S A s.heap H locs → lv_has ls 9 [(0, .ref a_t), (1, .int x1), (2, .int x2), (3, .int x3), (4, .int x4), (5, .int x5)] → F_X6_smoothAhead_L20 c_z x1 n20 c_codes c_left c_smooth c_weights x2 x3 x4 x5 = some o → W p l e rm_X6_smoothAhead s m args below meth c H locs 0 0 Q (F0 m 20 ls []) := by
    intro n20
    induction n20 with
    | zero => intro c_codes c_left c_smooth c_weights x2 x3 x4 x5 H locs ls hP hD hS hl hF; exact nos hF
    | succ n20 ih20 =>
      have K44 : ∀ (n44 : Nat) (c_codes : Int32) (c_left : Nat → Int32) (c_smooth : Nat → Int32) (c_weights : Nat → Int32) (x2 : Int32) (x3 : Int32) (x4 : Int32) (x5 : Int32) (x6 : Int32) (x7 : Int32) (H : Heap) (locs : List Loc) (ls : Array Slot), va_P D vwCl (wd_X6_smoothAhead cI a_t a_z a_history a_text a_left a_other a_smooth a_weights a_signs a_worked c_states c_length c_thrown c_codes c_read c_isOpen c_hash c_left c_smooth c_weights c_z) H → va_D A (wd_X6_smoothAhead cI a_t a_z a_history a_text a_left a_other a_smooth a_weights a_signs a_worked c_states c_length c_thrown c_codes c_read c_isOpen c_hash c_left c_smooth c_weights c_z) → va_S A s.heap H locs → lv_has ls 9 [(0, .ref a_t), (1, .int x1), (2, .int x2), (3, .int x3), (4, .int x4), (5, .int x5), (6, .int x6), (7, .int x7)] → F_X6_smoothAhead_L44 (F_X6_smoothAhead_L20 c_z x1 n20) c_z x1 n44 c_codes c_left c_smooth c_weights x2 x3 x4 x5 x6 x7 = some o → W p l e rm_X6_smoothAhead s m args below meth c H locs 0 0 Q (F0 m 44 ls []) := by
        intro n44
        induction n44 with
        | zero => intro c_codes c_left c_smooth c_weights x2 x3 x4 x5 x6 x7 H locs ls hP hD hS hl hF; exact nos hF
        | succ n44 ih44 =>
          have K78 : ∀ (c_codes : Int32) (c_left : Nat → Int32) (c_smooth : Nat → Int32) (c_weights : Nat → Int32) (x2 : Int32) (x3 : Int32) (x4 : Int32) (x5 : Int32) (x6 : Int32) (x7 : Int32) (v0 : Int32)  (H : Heap) (locs : List Loc) (ls : Array Slot), va_P D vwCl (wd_X6_smoothAhead cI a_t a_z a_history a_text a_left a_other a_smooth a_weights a_signs a_worked c_states c_length c_thrown c_codes c_read c_isOpen c_hash c_left c_smooth c_weights c_z) H → va_D A (wd_X6_smoothAhead cI a_t a_z a_history a_text a_left a_other a_smooth a_weights a_signs a_worked c_states c_length c_thrown c_codes c_read c_isOpen c_hash c_left c_smooth c_weights c_z) → va_S A s.heap H locs → lv_has ls 9 [(0, .ref a_t), (1, .int x1), (2, .int x2), (3, .int x3), (4, .int x4), (5, .int x5), (6, .int x6), (7, .int x7)] → F_X6_smoothAhead_J78 (F_X6_smoothAhead_L20 c_z x1 n20) (F_X6_smoothAhead_L44 (F_X6_smoothAhead_L20 c_z x1 n20) c_z x1 n44) c_z x1 c_codes c_left c_smooth c_weights x2 x3 x4 x5 x6 x7 v0 = some o → W p l e rm_X6_smoothAhead s m args below meth c H locs 0 0 Q (F0 m 78 ls [.int v0]) := by
            intro c_codes c_left c_smooth c_weights x2 x3 x4 x5 x6 x7 v0 H locs ls hP hD hS hl hF
            unfold F_X6_smoothAhead_J78 at hF
            refine lv_istore (lv' := [(8, .int v0), (0, .ref a_t), (1, .int x1), (2, .int x2), (3, .int x3), (4, .int x4), (5, .int x5), (6, .int x6), (7, .int x7)]) hx hb dX6_smoothAhead_78 hl (by decide) rfl (fun ls hl => ?_)
            refine lv_iload_n hx hb dX6_smoothAhead_80 rfl (lv_at hl 4 rfl) ?_
            refine lv_iload hx hb dX6_smoothAhead_81 (lv_at hl 0 rfl) ?_
            refine lv_if_eq (tgt := 116) hx hb dX6_smoothAhead_83 (by decide) (fun k83 => ?_) (fun k83 => ?_)
            · replace hF := (if_pos k83).symm.trans hF
              refine lv_iconst (v := 0) hx hb dX6_smoothAhead_116 (by decide) ?_
              refine lv_iadd hx hb dX6_smoothAhead_117 ?_
              refine lv_istore_n (lv' := [(3, .int (x3 + (0 : Int32))), (8, .int v0), (0, .ref a_t), (1, .int x1), (2, .int x2), (4, .int x4), (5, .int x5), (6, .int x6), (7, .int x7)]) hx hb dX6_smoothAhead_118 rfl hl (by decide) rfl (fun ls hl => ?_)
              refine lv_iinc (v := x7 + 1) (lv' := [(7, .int (x7 + 1)), (3, .int (x3 + (0 : Int32))), (8, .int v0), (0, .ref a_t), (1, .int x1), (2, .int x2), (4, .int x4), (5, .int x5), (6, .int x6)]) hx hb dX6_smoothAhead_119 hl (k := 8) rfl rfl (by decide) rfl (fun ls hl => ?_)
              refine lv_goto (tgt := 44) hx hb dX6_smoothAhead_122 (by decide) ?_
              exact ih44 c_codes c_left c_smooth c_weights x2 (x3 + (0 : Int32)) x4 x5 x6 (x7 + 1) H locs ls hP hD hS (lv_sub hl [3, 4, 5, 1, 6, 7, 8, 0] rfl) hF
            · replace hF := (if_neg k83).symm.trans hF
              refine lv_iload hx hb dX6_smoothAhead_86 (lv_at hl 8 rfl) ?_
              refine lv_iload hx hb dX6_smoothAhead_88 (lv_at hl 5 rfl) ?_
              refine lv_icmp_eq (tgt := 116) hx hb dX6_smoothAhead_90 (by decide) (fun k90 => ?_) (fun k90 => ?_)
              · replace hF := (if_pos k90).symm.trans hF
                refine lv_iconst (v := 0) hx hb dX6_smoothAhead_116 (by decide) ?_
                refine lv_iadd hx hb dX6_smoothAhead_117 ?_
                refine lv_istore_n (lv' := [(3, .int (x3 + (0 : Int32))), (8, .int v0), (0, .ref a_t), (1, .int x1), (2, .int x2), (4, .int x4), (5, .int x5), (6, .int x6), (7, .int x7)]) hx hb dX6_smoothAhead_118 rfl hl (by decide) rfl (fun ls hl => ?_)
                refine lv_iinc (v := x7 + 1) (lv' := [(7, .int (x7 + 1)), (3, .int (x3 + (0 : Int32))), (8, .int v0), (0, .ref a_t), (1, .int x1), (2, .int x2), (4, .int x4), (5, .int x5), (6, .int x6)]) hx hb dX6_smoothAhead_119 hl (k := 8) rfl rfl (by decide) rfl (fun ls hl => ?_)
                refine lv_goto (tgt := 44) hx hb dX6_smoothAhead_122 (by decide) ?_
                exact ih44 c_codes c_left c_smooth c_weights x2 (x3 + (0 : Int32)) x4 x5 x6 (x7 + 1) H locs ls hP hD hS (lv_sub hl [3, 4, 5, 1, 6, 7, 8, 0] rfl) hF
              · replace hF := (if_neg k90).symm.trans hF
                refine lv_aload_n hx hb dX6_smoothAhead_93 rfl (lv_at hl 1 rfl) ?_
                refine get_X6_25 hx hb hts hown hK hP 0 rfl rfl dX6_smoothAhead_94 ?_
                refine lv_bipush (v := 7) hx hb dX6_smoothAhead_97 (by decide) ?_
                refine lv_iload_n hx hb dX6_smoothAhead_99 rfl (lv_at hl 3 rfl) ?_
                refine lv_aload_n hx hb dX6_smoothAhead_100 rfl (lv_at hl 1 rfl) ?_
                refine get_X6_28 hx hb hts hown hK hP 0 rfl rfl dX6_smoothAhead_101 ?_
                refine lv_iload hx hb dX6_smoothAhead_104 (lv_at hl 8 rfl) ?_
                obtain ⟨g106, hF⟩ := gdb hF
                refine va_iald hx hb hK hP 3 0 rfl rfl (vinb g106) dX6_smoothAhead_106 ?_
                refine lv_isub hx hb dX6_smoothAhead_107 ?_
                refine lv_imul hx hb dX6_smoothAhead_108 ?_
                refine lv_iload hx hb dX6_smoothAhead_109 (lv_at hl 8 rfl) ?_
                refine lv_iadd hx hb dX6_smoothAhead_111 ?_
                obtain ⟨g112, hF⟩ := gdb hF
                refine va_iald hx hb hK hP 2 0 rfl rfl (vinb g112) dX6_smoothAhead_112 ?_
                refine lv_goto (tgt := 117) hx hb dX6_smoothAhead_113 (by decide) ?_
                refine lv_iadd hx hb dX6_smoothAhead_117 ?_
                refine lv_istore_n (lv' := [(3, .int (x3 + (c_smooth (((7 : Int32) * (x2 - (c_weights (x7).toNatClampNeg))) + x7).toNatClampNeg))), (8, .int v0), (0, .ref a_t), (1, .int x1), (2, .int x2), (4, .int x4), (5, .int x5), (6, .int x6), (7, .int x7)]) hx hb dX6_smoothAhead_118 rfl hl (by decide) rfl (fun ls hl => ?_)
                refine lv_iinc (v := x7 + 1) (lv' := [(7, .int (x7 + 1)), (3, .int (x3 + (c_smooth (((7 : Int32) * (x2 - (c_weights (x7).toNatClampNeg))) + x7).toNatClampNeg))), (8, .int v0), (0, .ref a_t), (1, .int x1), (2, .int x2), (4, .int x4), (5, .int x5), (6, .int x6)]) hx hb dX6_smoothAhead_119 hl (k := 8) rfl rfl (by decide) rfl (fun ls hl => ?_)
                refine lv_goto (tgt := 44) hx hb dX6_smoothAhead_122 (by decide) ?_
                exact ih44 c_codes c_left c_smooth c_weights x2 (x3 + (c_smooth (((7 : Int32) * (x2 - (c_weights (x7).toNatClampNeg))) + x7).toNatClampNeg)) x4 x5 x6 (x7 + 1) H locs ls hP hD hS (lv_sub hl [3, 4, 5, 1, 6, 7, 8, 0] rfl) hF
          intro c_codes c_left c_smooth c_weights x2 x3 x4 x5 x6 x7 H locs ls hP hD hS hl hF
          rw [F_X6_smoothAhead_L44] at hF
          refine lv_iload hx hb dX6_smoothAhead_44 (lv_at hl 7 rfl) ?_
          refine lv_iload hx hb dX6_smoothAhead_46 (lv_at hl 6 rfl) ?_
          refine lv_icmp_ge (tgt := 125) hx hb dX6_smoothAhead_48 (by decide) (fun k48 => ?_) (fun k48 => ?_)
          · replace hF := (if_pos k48).symm.trans hF
            refine lv_iload hx hb dX6_smoothAhead_125 (lv_at hl 6 rfl) ?_
            refine lv_iload hx hb dX6_smoothAhead_127 (lv_at hl 4 rfl) ?_
            refine lv_icmp_ne (tgt := 136) hx hb dX6_smoothAhead_129 (by decide) (fun k129 => ?_) (fun k129 => ?_)
            · replace hF := (if_neg k129).symm.trans hF
              refine lv_iload_n hx hb dX6_smoothAhead_136 rfl (lv_at hl 2 rfl) ?_
              refine lv_aload_n hx hb dX6_smoothAhead_137 rfl (lv_at hl 0 rfl) ?_
              refine get_X6_28 hx hb hts hown hK hP 0 rfl rfl dX6_smoothAhead_138 ?_
              refine lv_iload hx hb dX6_smoothAhead_141 (lv_at hl 6 rfl) ?_
              obtain ⟨g143, hF⟩ := gdb hF
              refine va_iald hx hb hK hP 3 0 rfl rfl (vinb g143) dX6_smoothAhead_143 ?_
              refine lv_isub hx hb dX6_smoothAhead_144 ?_
              refine lv_istore_n (lv' := [(2, .int (x2 - (c_weights (x6).toNatClampNeg))), (0, .ref a_t), (1, .int x1), (3, .int x3), (4, .int x4), (5, .int x5), (6, .int x6), (7, .int x7)]) hx hb dX6_smoothAhead_145 rfl hl (by decide) rfl (fun ls hl => ?_)
              refine lv_iload hx hb dX6_smoothAhead_146 (lv_at hl 6 rfl) ?_
              refine lv_istore (lv' := [(4, .int x6), (2, .int (x2 - (c_weights (x6).toNatClampNeg))), (0, .ref a_t), (1, .int x1), (3, .int x3), (5, .int x5), (6, .int x6), (7, .int x7)]) hx hb dX6_smoothAhead_148 hl (by decide) rfl (fun ls hl => ?_)
              refine lv_iinc (v := x5 + 1) (lv' := [(5, .int (x5 + 1)), (4, .int x6), (2, .int (x2 - (c_weights (x6).toNatClampNeg))), (0, .ref a_t), (1, .int x1), (3, .int x3), (6, .int x6), (7, .int x7)]) hx hb dX6_smoothAhead_150 hl (k := 5) rfl rfl (by decide) rfl (fun ls hl => ?_)
              refine lv_goto (tgt := 20) hx hb dX6_smoothAhead_153 (by decide) ?_
              exact ih20 c_codes c_left c_smooth c_weights (x2 - (c_weights (x6).toNatClampNeg)) x3 x6 (x5 + 1) H locs ls hP hD hS (lv_sub hl [3, 4, 2, 5, 1, 0] rfl) hF
            · replace hF := (if_pos k129).symm.trans hF
              refine lv_iconst (v := (-1)) hx hb dX6_smoothAhead_132 (by decide) ?_
              refine lv_goto (tgt := 145) hx hb dX6_smoothAhead_133 (by decide) ?_
              refine lv_istore_n (lv' := [(2, .int ((-1) : Int32)), (0, .ref a_t), (1, .int x1), (3, .int x3), (4, .int x4), (5, .int x5), (6, .int x6), (7, .int x7)]) hx hb dX6_smoothAhead_145 rfl hl (by decide) rfl (fun ls hl => ?_)
              refine lv_iload hx hb dX6_smoothAhead_146 (lv_at hl 6 rfl) ?_
              refine lv_istore (lv' := [(4, .int x6), (2, .int ((-1) : Int32)), (0, .ref a_t), (1, .int x1), (3, .int x3), (5, .int x5), (6, .int x6), (7, .int x7)]) hx hb dX6_smoothAhead_148 hl (by decide) rfl (fun ls hl => ?_)
              refine lv_iinc (v := x5 + 1) (lv' := [(5, .int (x5 + 1)), (4, .int x6), (2, .int ((-1) : Int32)), (0, .ref a_t), (1, .int x1), (3, .int x3), (6, .int x6), (7, .int x7)]) hx hb dX6_smoothAhead_150 hl (k := 5) rfl rfl (by decide) rfl (fun ls hl => ?_)
              refine lv_goto (tgt := 20) hx hb dX6_smoothAhead_153 (by decide) ?_
              exact ih20 c_codes c_left c_smooth c_weights ((-1) : Int32) x3 x6 (x5 + 1) H locs ls hP hD hS (lv_sub hl [3, 4, 2, 5, 1, 0] rfl) hF
          · replace hF := (if_neg k48).symm.trans hF
            refine lv_iload_n hx hb dX6_smoothAhead_51 rfl (lv_at hl 2 rfl) ?_
            refine lv_aload_n hx hb dX6_smoothAhead_52 rfl (lv_at hl 0 rfl) ?_
            refine get_X6_28 hx hb hts hown hK hP 0 rfl rfl dX6_smoothAhead_53 ?_
            refine lv_iload hx hb dX6_smoothAhead_56 (lv_at hl 7 rfl) ?_
            obtain ⟨g58, hF⟩ := gdb hF
            refine va_iald hx hb hK hP 3 0 rfl rfl (vinb g58) dX6_smoothAhead_58 ?_
            obtain ⟨g59, hF⟩ := gdb hF
            refine lv_idiv hx hb dX6_smoothAhead_59 (nzb g59) ?_
            refine lv_aload_n hx hb dX6_smoothAhead_60 rfl (lv_at hl 0 rfl) ?_
            refine get_X6_19 hx hb hts hown hK hP 0 rfl rfl dX6_smoothAhead_61 ?_
            refine lv_iload hx hb dX6_smoothAhead_64 (lv_at hl 7 rfl) ?_
            obtain ⟨g66, hF⟩ := gdb hF
            refine va_iald hx hb hK hP 1 0 rfl rfl (vinb g66) dX6_smoothAhead_66 ?_
            refine lv_iconst (v := 1) hx hb dX6_smoothAhead_67 (by decide) ?_
            refine lv_iadd hx hb dX6_smoothAhead_68 ?_
            obtain ⟨g69, hF⟩ := gdb hF
            refine lv_irem hx hb dX6_smoothAhead_69 (nzb g69) ?_
            refine lv_if_le (tgt := 77) hx hb dX6_smoothAhead_70 (by decide) (fun k70 => ?_) (fun k70 => ?_)
            · (try simp only [if_pos k70] at hF)
              refine lv_iconst (v := 0) hx hb dX6_smoothAhead_77 (by decide) ?_
              exact K78 c_codes c_left c_smooth c_weights x2 x3 x4 x5 x6 x7 (0 : Int32) H locs ls hP hD hS (lv_sub hl [0, 1, 2, 3, 4, 5, 6, 7] rfl) hF
            · (try simp only [if_neg k70] at hF)
              refine lv_iconst (v := 1) hx hb dX6_smoothAhead_73 (by decide) ?_
              refine lv_goto (tgt := 78) hx hb dX6_smoothAhead_74 (by decide) ?_
              exact K78 c_codes c_left c_smooth c_weights x2 x3 x4 x5 x6 x7 (1 : Int32) H locs ls hP hD hS (lv_sub hl [0, 1, 2, 3, 4, 5, 6, 7] rfl) hF
      intro c_codes c_left c_smooth c_weights x2 x3 x4 x5 H locs ls hP hD hS hl hF
      rw [F_X6_smoothAhead_L20] at hF
      refine lv_iload hx hb dX6_smoothAhead_20 (lv_at hl 5 rfl) ?_
      refine lv_iload_n hx hb dX6_smoothAhead_22 rfl (lv_at hl 1 rfl) ?_
      refine lv_icmp_ge (tgt := 156) hx hb dX6_smoothAhead_23 (by decide) (fun k23 => ?_) (fun k23 => ?_)
      · replace hF := (if_pos k23).symm.trans hF
        refine lv_iload_n hx hb dX6_smoothAhead_156 rfl (lv_at hl 3 rfl) ?_
        have ho := Option.some.inj hF
        exact hret H locs ls 157 x3 _ hP hS (by rw [← ho]) (by rw [← ho]) dX6_smoothAhead_157
      · replace hF := (if_neg k23).symm.trans hF
        refine lv_iload_n hx hb dX6_smoothAhead_26 rfl (lv_at hl 2 rfl) ?_
        refine lv_if_lt (tgt := 156) hx hb dX6_smoothAhead_27 (by decide) (fun k27 => ?_) (fun k27 => ?_)
        · replace hF := (if_pos k27).symm.trans hF
          refine lv_iload_n hx hb dX6_smoothAhead_156 rfl (lv_at hl 3 rfl) ?_
          have ho := Option.some.inj hF
          exact hret H locs ls 157 x3 _ hP hS (by rw [← ho]) (by rw [← ho]) dX6_smoothAhead_157
        · replace hF := (if_neg k27).symm.trans hF
          refine lv_aload_n hx hb dX6_smoothAhead_30 rfl (lv_at hl 0 rfl) ?_
          refine get_X6_7 hx hb hts hown hK hP 0 rfl rfl dX6_smoothAhead_31 ?_
          refine lv_iconst (v := 2) hx hb dX6_smoothAhead_34 (by decide) ?_
          refine lv_iload hx hb dX6_smoothAhead_35 (lv_at hl 5 rfl) ?_
          refine lv_iadd hx hb dX6_smoothAhead_37 ?_
          obtain ⟨g38, hF⟩ := gdb hF
          refine va_iald hx hb hK hP 4 0 rfl rfl (vinb g38) dX6_smoothAhead_38 ?_
          refine lv_istore (lv' := [(6, .int (c_z ((2 : Int32) + x5).toNatClampNeg)), (0, .ref a_t), (1, .int x1), (2, .int x2), (3, .int x3), (4, .int x4), (5, .int x5)]) hx hb dX6_smoothAhead_39 hl (by decide) rfl (fun ls hl => ?_)
          refine lv_iconst (v := 0) hx hb dX6_smoothAhead_41 (by decide) ?_
          refine lv_istore (lv' := [(7, .int (0 : Int32)), (6, .int (c_z ((2 : Int32) + x5).toNatClampNeg)), (0, .ref a_t), (1, .int x1), (2, .int x2), (3, .int x3), (4, .int x4), (5, .int x5)]) hx hb dX6_smoothAhead_42 hl (by decide) rfl (fun ls hl => ?_)
          exact K44 FU c_codes c_left c_smooth c_weights x2 x3 x4 x5 (c_z ((2 : Int32) + x5).toNatClampNeg) (0 : Int32) H locs ls hP hD hS (lv_sub hl [2, 3, 4, 5, 6, 7, 1, 0] rfl) hF
  unfold F_X6_smoothAhead at hF
  have hP : va_P D vwCl (wd_X6_smoothAhead cI a_t a_z a_history a_text a_left a_other a_smooth a_weights a_signs a_worked c_states c_length c_thrown c_codes c_read c_isOpen c_hash c_left c_smooth c_weights c_z) s.heap := hP
  obtain ⟨H, hH⟩ : ∃ H, H = s.heap := ⟨_, rfl⟩
  rw [← hH]
  rw [← hH] at hP
  obtain ⟨locs, hlo⟩ : ∃ z : List Loc, z = [] := ⟨_, rfl⟩
  rw [← hlo]
  have hS : va_S A s.heap H locs := by rw [hH, hlo]; exact hS
  refine lv_aload_n hx hb dX6_smoothAhead_0 rfl (lv_at hl 0 rfl) ?_
  obtain ⟨r1, hr1, hF⟩ := opb hF
  refine kVV (As := []) (rest := []) (ws' := (wd_X6_smoothAhead cI a_t a_z a_history a_text a_left a_other a_smooth a_weights a_signs a_worked c_states c_length c_thrown r1.1 c_read c_isOpen c_hash r1.2.1 r1.2.2.1 r1.2.2.2 c_z)) ⟨hx, hb, hml, hown, hts⟩ (c_X6_laySmooth l D cI a_t a_z a_history a_text a_left a_other a_smooth a_weights a_signs a_worked H.size c_states c_length c_thrown c_codes c_read c_isOpen c_hash c_left c_smooth c_weights c_z  r1 hr1) (cwV 0 hts mw_X6_77 rfl rfl rfl hd_X6_laySmooth ⟨Nat.le_of_ble_eq_true rfl, Nat.le_of_ble_eq_true rfl⟩) hS hA hG hK hP hD [0, 1, 2, 3, 4] rfl rfl rfl rfl rfl ⟨Nat.zero_le _, Nat.zero_le _⟩ 6 0 rfl rfl rfl rfl hl.1 rfl (Nat.le_of_ble_eq_true rfl) dX6_smoothAhead_1 (fun H locs hP hD hS => ?_)
  refine lv_aload_n hx hb dX6_smoothAhead_4 rfl (lv_at hl 0 rfl) ?_
  refine get_X6_74 hx hb hts hown hK hP 0 rfl rfl dX6_smoothAhead_5 ?_
  refine lv_iconst (v := 1) hx hb dX6_smoothAhead_8 (by decide) ?_
  refine lv_isub hx hb dX6_smoothAhead_9 ?_
  refine lv_istore_n (lv' := [(2, .int (r1.1 - (1 : Int32))), (0, .ref a_t), (1, .int x1)]) hx hb dX6_smoothAhead_10 rfl hl (by decide) rfl (fun ls hl => ?_)
  refine lv_iconst (v := 0) hx hb dX6_smoothAhead_11 (by decide) ?_
  refine lv_istore_n (lv' := [(3, .int (0 : Int32)), (2, .int (r1.1 - (1 : Int32))), (0, .ref a_t), (1, .int x1)]) hx hb dX6_smoothAhead_12 rfl hl (by decide) rfl (fun ls hl => ?_)
  refine lv_bipush (v := 6) hx hb dX6_smoothAhead_13 (by decide) ?_
  refine lv_istore (lv' := [(4, .int (6 : Int32)), (3, .int (0 : Int32)), (2, .int (r1.1 - (1 : Int32))), (0, .ref a_t), (1, .int x1)]) hx hb dX6_smoothAhead_15 hl (by decide) rfl (fun ls hl => ?_)
  refine lv_iconst (v := 0) hx hb dX6_smoothAhead_17 (by decide) ?_
  refine lv_istore (lv' := [(5, .int (0 : Int32)), (4, .int (6 : Int32)), (3, .int (0 : Int32)), (2, .int (r1.1 - (1 : Int32))), (0, .ref a_t), (1, .int x1)]) hx hb dX6_smoothAhead_18 hl (by decide) rfl (fun ls hl => ?_)
  exact K20 FU r1.1 r1.2.1 r1.2.2.1 r1.2.2.2 (r1.1 - (1 : Int32)) (0 : Int32) (6 : Int32) (0 : Int32) H locs ls hP hD hS (lv_sub hl [4, 5, 3, 2, 1, 0] rfl) hF
abbrev wd_X6_smoothWith (cI : ClassId) (a_t a_z a_history a_text a_left a_other a_smooth a_weights a_signs a_worked : Nat) (c_states : Int32) (c_length : Int32) (c_thrown : Int32) (c_codes : Int32) (c_read : Int32) (c_isOpen : Int32) (c_hash : Int64) (c_left : Nat → Int32) (c_smooth : Nat → Int32) (c_weights : Nat → Int32) (c_z : Nat → Int32) : va_W := [(a_t, .inr (6, [.ref a_z, .int c_states, .ref a_history, .int c_length, .ref a_text, .int c_thrown, .ref a_left, .ref a_other, .ref a_smooth, .ref a_weights, .int c_codes, .ref a_signs, .int c_read, .int c_isOpen, .ref a_worked, .long c_hash])), (a_left, .inl (cI, 6, .inl c_left)), (a_smooth, .inl (cI, 4200, .inl c_smooth)), (a_weights, .inl (cI, 6, .inl c_weights)), (a_z, .inl (cI, 13, .inl c_z))]
def rm_X6_smoothWith : Room := { frames := 2, cells := 0, slots := 0, locals := 46 }
set_option maxHeartbeats 4000000 in
set_option maxRecDepth 100000 in
theorem c_X6_smoothWith (l : Launch) (D : va_G) (cI : ClassId) (a_t a_z a_history a_text a_left a_other a_smooth a_weights a_signs a_worked : Nat) (sz : Nat) (c_states : Int32) (c_length : Int32) (c_thrown : Int32) (c_codes : Int32) (c_read : Int32) (c_isOpen : Int32) (c_hash : Int64) (c_left : Nat → Int32) (c_smooth : Nat → Int32) (c_weights : Nat → Int32) (c_z : Nat → Int32) (x1 : Int32) (o : Int32 × Int32 × (Nat → Int32) × (Nat → Int32) × (Nat → Int32)) (hF : F_X6_smoothWith c_codes c_left c_smooth c_weights c_z x1 = some o) : Met l yX6_smoothWith (Cond.code yX6_smoothWith cX6_smoothWith 6 (some .int) :: WL) rm_X6_smoothWith (preM D [(cI, .int)] (wd_X6_smoothWith cI a_t a_z a_history a_text a_left a_other a_smooth a_weights a_signs a_worked c_states c_length c_thrown c_codes c_read c_isOpen c_hash c_left c_smooth c_weights c_z) sz [.ref a_t, .int x1]) (postI D o.1 (wd_X6_smoothWith cI a_t a_z a_history a_text a_left a_other a_smooth a_weights a_signs a_worked c_states c_length c_thrown o.2.1 c_read c_isOpen c_hash o.2.2.1 o.2.2.2.1 o.2.2.2.2 c_z) (wd_X6_smoothWith cI a_t a_z a_history a_text a_left a_other a_smooth a_weights a_signs a_worked c_states c_length c_thrown c_codes c_read c_isOpen c_hash c_left c_smooth c_weights c_z) sz) 0 0 (va_A (wd_X6_smoothWith cI a_t a_z a_history a_text a_left a_other a_smooth a_weights a_signs a_worked c_states c_length c_thrown c_codes c_read c_isOpen c_hash c_left c_smooth c_weights c_z) sz) := by
  refine mofI (by decide +kernel) (Nat.le_of_ble_eq_true rfl) ?_
  intro p e s m args below meth c Q A ls hx hb hml hown hts hK hP hD hS hA hG hl hret hsz0
  have hl : lv_has ls 6 [(0, .ref a_t), (1, .int x1)] := hl
  have K67 : ∀ (c_codes : Int32) (c_left : Nat → Int32) (c_smooth : Nat → Int32) (c_weights : Nat → Int32) (x2 : Int32) (x3 : Int32)  (H : Heap) (locs : List Loc) (ls : Array Slot), va_P D vwCl (wd_X6_smoothWith cI a_t a_z a_history a_text a_left a_other a_smooth a_weights a_signs a_worked c_states c_length c_thrown c_codes c_read c_isOpen c_hash c_left c_smooth c_weights c_z) H → va_D A (wd_X6_smoothWith cI a_t a_z a_history a_text a_left a_other a_smooth a_weights a_signs a_worked c_states c_length c_thrown c_codes c_read c_isOpen c_hash c_left c_smooth c_weights c_z) → va_S A s.heap H locs → lv_has ls 6 [(0, .ref a_t), (2, .int x2), (3, .int x3)] → F_X6_smoothWith_J67 c_z x1 c_codes c_left c_smooth c_weights x2 x3 = some o → W p l e rm_X6_smoothWith s m args below meth c H locs 0 0 Q (F0 m 67 ls []) := by
    intro c_codes c_left c_smooth c_weights x2 x3 H locs ls hP hD hS hl hF
    unfold F_X6_smoothWith_J67 at hF
    refine lv_iload_n hx hb dX6_smoothWith_67 rfl (lv_at hl 1 rfl) ?_
    refine lv_if_ge (tgt := 75) hx hb dX6_smoothWith_68 (by decide) (fun k68 => ?_) (fun k68 => ?_)
    · replace hF := (if_pos k68).symm.trans hF
      refine lv_aload_n hx hb dX6_smoothWith_75 rfl (lv_at hl 0 rfl) ?_
      refine get_X6_25 hx hb hts hown hK hP 0 rfl rfl dX6_smoothWith_76 ?_
      refine lv_bipush (v := 7) hx hb dX6_smoothWith_79 (by decide) ?_
      refine lv_iload_n hx hb dX6_smoothWith_81 rfl (lv_at hl 1 rfl) ?_
      refine lv_imul hx hb dX6_smoothWith_82 ?_
      refine lv_iload_n hx hb dX6_smoothWith_83 rfl (lv_at hl 2 rfl) ?_
      refine lv_iadd hx hb dX6_smoothWith_84 ?_
      obtain ⟨g85, hF⟩ := gdb hF
      refine va_iald hx hb hK hP 2 0 rfl rfl (vinb g85) dX6_smoothWith_85 ?_
      have ho := Option.some.inj hF
      exact hret H locs ls 86 (c_smooth (((7 : Int32) * x2) + x3).toNatClampNeg) _ hP hS (by rw [← ho]) (by rw [← ho]) dX6_smoothWith_86
    · replace hF := (if_neg k68).symm.trans hF
      refine lv_iconst (v := 0) hx hb dX6_smoothWith_71 (by decide) ?_
      refine lv_goto (tgt := 86) hx hb dX6_smoothWith_72 (by decide) ?_
      have ho := Option.some.inj hF
      exact hret H locs ls 86 (0 : Int32) _ hP hS (by rw [← ho]) (by rw [← ho]) dX6_smoothWith_86
  have K17 : ∀ (n17 : Nat) (c_codes : Int32) (c_left : Nat → Int32) (c_smooth : Nat → Int32) (c_weights : Nat → Int32) (x2 : Int32) (x3 : Int32) (x4 : Int32) (H : Heap) (locs : List Loc) (ls : Array Slot), va_P D vwCl (wd_X6_smoothWith cI a_t a_z a_history a_text a_left a_other a_smooth a_weights a_signs a_worked c_states c_length c_thrown c_codes c_read c_isOpen c_hash c_left c_smooth c_weights c_z) H → va_D A (wd_X6_smoothWith cI a_t a_z a_history a_text a_left a_other a_smooth a_weights a_signs a_worked c_states c_length c_thrown c_codes c_read c_isOpen c_hash c_left c_smooth c_weights c_z) → va_S A s.heap H locs → lv_has ls 6 [(0, .ref a_t), (1, .int x1), (2, .int x2), (3, .int x3), (4, .int x4)] → F_X6_smoothWith_L17 c_z x1 n17 c_codes c_left c_smooth c_weights x2 x3 x4 = some o → W p l e rm_X6_smoothWith s m args below meth c H locs 0 0 Q (F0 m 17 ls []) := by
    intro n17
    induction n17 with
    | zero => intro c_codes c_left c_smooth c_weights x2 x3 x4 H locs ls hP hD hS hl hF; exact nos hF
    | succ n17 ih17 =>
      intro c_codes c_left c_smooth c_weights x2 x3 x4 H locs ls hP hD hS hl hF
      rw [F_X6_smoothWith_L17] at hF
      refine lv_iload hx hb dX6_smoothWith_17 (lv_at hl 4 rfl) ?_
      refine lv_iload_n hx hb dX6_smoothWith_19 rfl (lv_at hl 1 rfl) ?_
      refine lv_icmp_ge (tgt := 67) hx hb dX6_smoothWith_20 (by decide) (fun k20 => ?_) (fun k20 => ?_)
      · replace hF := (if_pos k20).symm.trans hF
        exact K67 c_codes c_left c_smooth c_weights x2 x3 H locs ls hP hD hS (lv_sub hl [0, 2, 3] rfl) hF
      · replace hF := (if_neg k20).symm.trans hF
        refine lv_iload_n hx hb dX6_smoothWith_23 rfl (lv_at hl 2 rfl) ?_
        refine lv_if_lt (tgt := 67) hx hb dX6_smoothWith_24 (by decide) (fun k24 => ?_) (fun k24 => ?_)
        · replace hF := (if_pos k24).symm.trans hF
          exact K67 c_codes c_left c_smooth c_weights x2 x3 H locs ls hP hD hS (lv_sub hl [0, 2, 3] rfl) hF
        · replace hF := (if_neg k24).symm.trans hF
          refine lv_aload_n hx hb dX6_smoothWith_27 rfl (lv_at hl 0 rfl) ?_
          refine get_X6_7 hx hb hts hown hK hP 0 rfl rfl dX6_smoothWith_28 ?_
          refine lv_iconst (v := 2) hx hb dX6_smoothWith_31 (by decide) ?_
          refine lv_iload hx hb dX6_smoothWith_32 (lv_at hl 4 rfl) ?_
          refine lv_iadd hx hb dX6_smoothWith_34 ?_
          obtain ⟨g35, hF⟩ := gdb hF
          refine va_iald hx hb hK hP 4 0 rfl rfl (vinb g35) dX6_smoothWith_35 ?_
          refine lv_istore (lv' := [(5, .int (c_z ((2 : Int32) + x4).toNatClampNeg)), (0, .ref a_t), (1, .int x1), (2, .int x2), (3, .int x3), (4, .int x4)]) hx hb dX6_smoothWith_36 hl (by decide) rfl (fun ls hl => ?_)
          refine lv_iload hx hb dX6_smoothWith_38 (lv_at hl 0 rfl) ?_
          refine lv_iload_n hx hb dX6_smoothWith_40 rfl (lv_at hl 4 rfl) ?_
          refine lv_icmp_ne (tgt := 48) hx hb dX6_smoothWith_41 (by decide) (fun k41 => ?_) (fun k41 => ?_)
          · replace hF := (if_neg k41).symm.trans hF
            refine lv_iload_n hx hb dX6_smoothWith_48 rfl (lv_at hl 3 rfl) ?_
            refine lv_aload_n hx hb dX6_smoothWith_49 rfl (lv_at hl 1 rfl) ?_
            refine get_X6_28 hx hb hts hown hK hP 0 rfl rfl dX6_smoothWith_50 ?_
            refine lv_iload hx hb dX6_smoothWith_53 (lv_at hl 0 rfl) ?_
            obtain ⟨g55, hF⟩ := gdb hF
            refine va_iald hx hb hK hP 3 0 rfl rfl (vinb g55) dX6_smoothWith_55 ?_
            refine lv_isub hx hb dX6_smoothWith_56 ?_
            refine lv_istore_n (lv' := [(2, .int (x2 - (c_weights (c_z ((2 : Int32) + x4).toNatClampNeg).toNatClampNeg))), (5, .int (c_z ((2 : Int32) + x4).toNatClampNeg)), (0, .ref a_t), (1, .int x1), (3, .int x3), (4, .int x4)]) hx hb dX6_smoothWith_57 rfl hl (by decide) rfl (fun ls hl => ?_)
            refine lv_iload hx hb dX6_smoothWith_58 (lv_at hl 1 rfl) ?_
            refine lv_istore_n (lv' := [(3, .int (c_z ((2 : Int32) + x4).toNatClampNeg)), (2, .int (x2 - (c_weights (c_z ((2 : Int32) + x4).toNatClampNeg).toNatClampNeg))), (5, .int (c_z ((2 : Int32) + x4).toNatClampNeg)), (0, .ref a_t), (1, .int x1), (4, .int x4)]) hx hb dX6_smoothWith_60 rfl hl (by decide) rfl (fun ls hl => ?_)
            refine lv_iinc (v := x4 + 1) (lv' := [(4, .int (x4 + 1)), (3, .int (c_z ((2 : Int32) + x4).toNatClampNeg)), (2, .int (x2 - (c_weights (c_z ((2 : Int32) + x4).toNatClampNeg).toNatClampNeg))), (5, .int (c_z ((2 : Int32) + x4).toNatClampNeg)), (0, .ref a_t), (1, .int x1)]) hx hb dX6_smoothWith_61 hl (k := 5) rfl rfl (by decide) rfl (fun ls hl => ?_)
            refine lv_goto (tgt := 17) hx hb dX6_smoothWith_64 (by decide) ?_
            exact ih17 c_codes c_left c_smooth c_weights (x2 - (c_weights (c_z ((2 : Int32) + x4).toNatClampNeg).toNatClampNeg)) (c_z ((2 : Int32) + x4).toNatClampNeg) (x4 + 1) H locs ls hP hD hS (lv_sub hl [4, 5, 2, 1, 0] rfl) hF
          · replace hF := (if_pos k41).symm.trans hF
            refine lv_iconst (v := (-1)) hx hb dX6_smoothWith_44 (by decide) ?_
            refine lv_goto (tgt := 57) hx hb dX6_smoothWith_45 (by decide) ?_
            refine lv_istore_n (lv' := [(2, .int ((-1) : Int32)), (5, .int (c_z ((2 : Int32) + x4).toNatClampNeg)), (0, .ref a_t), (1, .int x1), (3, .int x3), (4, .int x4)]) hx hb dX6_smoothWith_57 rfl hl (by decide) rfl (fun ls hl => ?_)
            refine lv_iload hx hb dX6_smoothWith_58 (lv_at hl 1 rfl) ?_
            refine lv_istore_n (lv' := [(3, .int (c_z ((2 : Int32) + x4).toNatClampNeg)), (2, .int ((-1) : Int32)), (5, .int (c_z ((2 : Int32) + x4).toNatClampNeg)), (0, .ref a_t), (1, .int x1), (4, .int x4)]) hx hb dX6_smoothWith_60 rfl hl (by decide) rfl (fun ls hl => ?_)
            refine lv_iinc (v := x4 + 1) (lv' := [(4, .int (x4 + 1)), (3, .int (c_z ((2 : Int32) + x4).toNatClampNeg)), (2, .int ((-1) : Int32)), (5, .int (c_z ((2 : Int32) + x4).toNatClampNeg)), (0, .ref a_t), (1, .int x1)]) hx hb dX6_smoothWith_61 hl (k := 5) rfl rfl (by decide) rfl (fun ls hl => ?_)
            refine lv_goto (tgt := 17) hx hb dX6_smoothWith_64 (by decide) ?_
            exact ih17 c_codes c_left c_smooth c_weights ((-1) : Int32) (c_z ((2 : Int32) + x4).toNatClampNeg) (x4 + 1) H locs ls hP hD hS (lv_sub hl [4, 5, 2, 1, 0] rfl) hF
  unfold F_X6_smoothWith at hF
  have hP : va_P D vwCl (wd_X6_smoothWith cI a_t a_z a_history a_text a_left a_other a_smooth a_weights a_signs a_worked c_states c_length c_thrown c_codes c_read c_isOpen c_hash c_left c_smooth c_weights c_z) s.heap := hP
  obtain ⟨H, hH⟩ : ∃ H, H = s.heap := ⟨_, rfl⟩
  rw [← hH]
  rw [← hH] at hP
  obtain ⟨locs, hlo⟩ : ∃ z : List Loc, z = [] := ⟨_, rfl⟩
  rw [← hlo]
  have hS : va_S A s.heap H locs := by rw [hH, hlo]; exact hS
  refine lv_aload_n hx hb dX6_smoothWith_0 rfl (lv_at hl 0 rfl) ?_
  obtain ⟨r1, hr1, hF⟩ := opb hF
  refine kVV (As := []) (rest := []) (ws' := (wd_X6_smoothWith cI a_t a_z a_history a_text a_left a_other a_smooth a_weights a_signs a_worked c_states c_length c_thrown r1.1 c_read c_isOpen c_hash r1.2.1 r1.2.2.1 r1.2.2.2 c_z)) ⟨hx, hb, hml, hown, hts⟩ (c_X6_laySmooth l D cI a_t a_z a_history a_text a_left a_other a_smooth a_weights a_signs a_worked H.size c_states c_length c_thrown c_codes c_read c_isOpen c_hash c_left c_smooth c_weights c_z  r1 hr1) (cwV 0 hts mw_X6_77 rfl rfl rfl hd_X6_laySmooth ⟨Nat.le_of_ble_eq_true rfl, Nat.le_of_ble_eq_true rfl⟩) hS hA hG hK hP hD [0, 1, 2, 3, 4] rfl rfl rfl rfl rfl ⟨Nat.zero_le _, Nat.zero_le _⟩ 6 0 rfl rfl rfl rfl hl.1 rfl (Nat.le_of_ble_eq_true rfl) dX6_smoothWith_1 (fun H locs hP hD hS => ?_)
  refine lv_aload_n hx hb dX6_smoothWith_4 rfl (lv_at hl 0 rfl) ?_
  refine get_X6_74 hx hb hts hown hK hP 0 rfl rfl dX6_smoothWith_5 ?_
  refine lv_iconst (v := 1) hx hb dX6_smoothWith_8 (by decide) ?_
  refine lv_isub hx hb dX6_smoothWith_9 ?_
  refine lv_istore_n (lv' := [(2, .int (r1.1 - (1 : Int32))), (0, .ref a_t), (1, .int x1)]) hx hb dX6_smoothWith_10 rfl hl (by decide) rfl (fun ls hl => ?_)
  refine lv_bipush (v := 6) hx hb dX6_smoothWith_11 (by decide) ?_
  refine lv_istore_n (lv' := [(3, .int (6 : Int32)), (2, .int (r1.1 - (1 : Int32))), (0, .ref a_t), (1, .int x1)]) hx hb dX6_smoothWith_13 rfl hl (by decide) rfl (fun ls hl => ?_)
  refine lv_iconst (v := 0) hx hb dX6_smoothWith_14 (by decide) ?_
  refine lv_istore (lv' := [(4, .int (0 : Int32)), (3, .int (6 : Int32)), (2, .int (r1.1 - (1 : Int32))), (0, .ref a_t), (1, .int x1)]) hx hb dX6_smoothWith_15 hl (by decide) rfl (fun ls hl => ?_)
  exact K17 FU r1.1 r1.2.1 r1.2.2.1 r1.2.2.2 (r1.1 - (1 : Int32)) (6 : Int32) (0 : Int32) H locs ls hP hD hS (lv_sub hl [3, 4, 2, 1, 0] rfl) hF
abbrev wd_X6_smoothRank (cI : ClassId) (a_t a_z a_history a_text a_left a_other a_smooth a_weights a_signs a_worked : Nat) (c_states : Int32) (c_length : Int32) (c_thrown : Int32) (c_codes : Int32) (c_read : Int32) (c_isOpen : Int32) (c_hash : Int64) (c_left : Nat → Int32) (c_smooth : Nat → Int32) (c_weights : Nat → Int32) (c_z : Nat → Int32) : va_W := [(a_t, .inr (6, [.ref a_z, .int c_states, .ref a_history, .int c_length, .ref a_text, .int c_thrown, .ref a_left, .ref a_other, .ref a_smooth, .ref a_weights, .int c_codes, .ref a_signs, .int c_read, .int c_isOpen, .ref a_worked, .long c_hash])), (a_left, .inl (cI, 6, .inl c_left)), (a_smooth, .inl (cI, 4200, .inl c_smooth)), (a_weights, .inl (cI, 6, .inl c_weights)), (a_z, .inl (cI, 13, .inl c_z))]
def rm_X6_smoothRank : Room := { frames := 3, cells := 0, slots := 0, locals := 74 }
set_option maxHeartbeats 4000000 in
set_option maxRecDepth 100000 in
theorem c_X6_smoothRank (l : Launch) (D : va_G) (cI : ClassId) (a_t a_z a_history a_text a_left a_other a_smooth a_weights a_signs a_worked : Nat) (sz : Nat) (c_states : Int32) (c_length : Int32) (c_thrown : Int32) (c_codes : Int32) (c_read : Int32) (c_isOpen : Int32) (c_hash : Int64) (c_left : Nat → Int32) (c_smooth : Nat → Int32) (c_weights : Nat → Int32) (c_z : Nat → Int32) (o : Int32 × Int32 × (Nat → Int32) × (Nat → Int32) × (Nat → Int32)) (hF : F_X6_smoothRank c_codes c_left c_smooth c_weights c_z = some o) : Met l yX6_smoothRank (Cond.code yX6_smoothRank cX6_smoothRank 1 (some .int) :: WL) rm_X6_smoothRank (preM D [(cI, .int)] (wd_X6_smoothRank cI a_t a_z a_history a_text a_left a_other a_smooth a_weights a_signs a_worked c_states c_length c_thrown c_codes c_read c_isOpen c_hash c_left c_smooth c_weights c_z) sz [.ref a_t]) (postI D o.1 (wd_X6_smoothRank cI a_t a_z a_history a_text a_left a_other a_smooth a_weights a_signs a_worked c_states c_length c_thrown o.2.1 c_read c_isOpen c_hash o.2.2.1 o.2.2.2.1 o.2.2.2.2 c_z) (wd_X6_smoothRank cI a_t a_z a_history a_text a_left a_other a_smooth a_weights a_signs a_worked c_states c_length c_thrown c_codes c_read c_isOpen c_hash c_left c_smooth c_weights c_z) sz) 0 0 (va_A (wd_X6_smoothRank cI a_t a_z a_history a_text a_left a_other a_smooth a_weights a_signs a_worked c_states c_length c_thrown c_codes c_read c_isOpen c_hash c_left c_smooth c_weights c_z) sz) := by
  refine mofI (by decide +kernel) (Nat.le_of_ble_eq_true rfl) ?_
  intro p e s m args below meth c Q A ls hx hb hml hown hts hK hP hD hS hA hG hl hret hsz0
  have hl : lv_has ls 1 [(0, .ref a_t)] := hl
  unfold F_X6_smoothRank at hF
  have hP : va_P D vwCl (wd_X6_smoothRank cI a_t a_z a_history a_text a_left a_other a_smooth a_weights a_signs a_worked c_states c_length c_thrown c_codes c_read c_isOpen c_hash c_left c_smooth c_weights c_z) s.heap := hP
  obtain ⟨H, hH⟩ : ∃ H, H = s.heap := ⟨_, rfl⟩
  rw [← hH]
  rw [← hH] at hP
  obtain ⟨locs, hlo⟩ : ∃ z : List Loc, z = [] := ⟨_, rfl⟩
  rw [← hlo]
  have hS : va_S A s.heap H locs := by rw [hH, hlo]; exact hS
  refine lv_aload_n hx hb dX6_smoothRank_0 rfl (lv_at hl 0 rfl) ?_
  refine lv_aload_n hx hb dX6_smoothRank_1 rfl (lv_at hl 0 rfl) ?_
  refine get_X6_7 hx hb hts hown hK hP 0 rfl rfl dX6_smoothRank_2 ?_
  refine lv_iconst (v := 0) hx hb dX6_smoothRank_5 (by decide) ?_
  obtain ⟨g6, hF⟩ := gdb hF
  refine va_iald hx hb hK hP 4 0 rfl rfl (vinb g6) dX6_smoothRank_6 ?_
  obtain ⟨r7, hr7, hF⟩ := opb hF
  refine kVI (As := [.int (c_z ((0 : Int32)).toNatClampNeg)]) (rest := []) (ws' := (wd_X6_smoothRank cI a_t a_z a_history a_text a_left a_other a_smooth a_weights a_signs a_worked c_states c_length c_thrown r7.2.1 c_read c_isOpen c_hash r7.2.2.1 r7.2.2.2.1 r7.2.2.2.2 c_z)) ⟨hx, hb, hml, hown, hts⟩ (c_X6_smoothAhead l D cI a_t a_z a_history a_text a_left a_other a_smooth a_weights a_signs a_worked H.size c_states c_length c_thrown c_codes c_read c_isOpen c_hash c_left c_smooth c_weights c_z (c_z ((0 : Int32)).toNatClampNeg) r7 hr7) (cwV 1 hts mw_X6_80 rfl rfl rfl hd_X6_smoothAhead ⟨Nat.le_of_ble_eq_true rfl, Nat.le_of_ble_eq_true rfl⟩) hS hA hG hK hP hD [0, 1, 2, 3, 4] rfl rfl rfl rfl rfl ⟨Nat.zero_le _, Nat.zero_le _⟩ 6 0 rfl rfl rfl rfl hl.1 rfl (Nat.le_of_ble_eq_true rfl) dX6_smoothRank_7 (fun H locs hP hD hS => ?_)
  have ho := Option.some.inj hF
  exact hret H locs ls 10 r7.1 _ hP hS (by rw [← ho]) (by rw [← ho]) dX6_smoothRank_10
abbrev wd_X6_isSmooth (cI : ClassId) (a_t a_z a_history a_text a_left a_other a_smooth a_weights a_signs a_worked : Nat) (c_states : Int32) (c_length : Int32) (c_thrown : Int32) (c_codes : Int32) (c_read : Int32) (c_isOpen : Int32) (c_hash : Int64) (c_left : Nat → Int32) (c_smooth : Nat → Int32) (c_weights : Nat → Int32) (c_z : Nat → Int32) : va_W := [(a_t, .inr (6, [.ref a_z, .int c_states, .ref a_history, .int c_length, .ref a_text, .int c_thrown, .ref a_left, .ref a_other, .ref a_smooth, .ref a_weights, .int c_codes, .ref a_signs, .int c_read, .int c_isOpen, .ref a_worked, .long c_hash])), (a_left, .inl (cI, 6, .inl c_left)), (a_smooth, .inl (cI, 4200, .inl c_smooth)), (a_weights, .inl (cI, 6, .inl c_weights)), (a_z, .inl (cI, 13, .inl c_z))]
def rm_X6_isSmooth : Room := { frames := 3, cells := 0, slots := 0, locals := 71 }
set_option maxHeartbeats 4000000 in
set_option maxRecDepth 100000 in
theorem c_X6_isSmooth (l : Launch) (D : va_G) (cI : ClassId) (a_t a_z a_history a_text a_left a_other a_smooth a_weights a_signs a_worked : Nat) (sz : Nat) (c_states : Int32) (c_length : Int32) (c_thrown : Int32) (c_codes : Int32) (c_read : Int32) (c_isOpen : Int32) (c_hash : Int64) (c_left : Nat → Int32) (c_smooth : Nat → Int32) (c_weights : Nat → Int32) (c_z : Nat → Int32) (o : Int32 × Int32 × (Nat → Int32) × (Nat → Int32) × (Nat → Int32)) (hF : F_X6_isSmooth c_codes c_left c_smooth c_weights c_z = some o) : Met l yX6_isSmooth (Cond.code yX6_isSmooth cX6_isSmooth 1 (some .boolean) :: WL) rm_X6_isSmooth (preM D [(cI, .int)] (wd_X6_isSmooth cI a_t a_z a_history a_text a_left a_other a_smooth a_weights a_signs a_worked c_states c_length c_thrown c_codes c_read c_isOpen c_hash c_left c_smooth c_weights c_z) sz [.ref a_t]) (postI D o.1 (wd_X6_isSmooth cI a_t a_z a_history a_text a_left a_other a_smooth a_weights a_signs a_worked c_states c_length c_thrown o.2.1 c_read c_isOpen c_hash o.2.2.1 o.2.2.2.1 o.2.2.2.2 c_z) (wd_X6_isSmooth cI a_t a_z a_history a_text a_left a_other a_smooth a_weights a_signs a_worked c_states c_length c_thrown c_codes c_read c_isOpen c_hash c_left c_smooth c_weights c_z) sz) 0 0 (va_A (wd_X6_isSmooth cI a_t a_z a_history a_text a_left a_other a_smooth a_weights a_signs a_worked c_states c_length c_thrown c_codes c_read c_isOpen c_hash c_left c_smooth c_weights c_z) sz) := by
  refine mofZ (by decide +kernel) (Nat.le_of_ble_eq_true rfl) ?_
  intro p e s m args below meth c Q A ls hx hb hml hown hts hK hP hD hS hA hG hl hret hsz0
  have hl : lv_has ls 1 [(0, .ref a_t)] := hl
  unfold F_X6_isSmooth at hF
  have hP : va_P D vwCl (wd_X6_isSmooth cI a_t a_z a_history a_text a_left a_other a_smooth a_weights a_signs a_worked c_states c_length c_thrown c_codes c_read c_isOpen c_hash c_left c_smooth c_weights c_z) s.heap := hP
  obtain ⟨H, hH⟩ : ∃ H, H = s.heap := ⟨_, rfl⟩
  rw [← hH]
  rw [← hH] at hP
  obtain ⟨locs, hlo⟩ : ∃ z : List Loc, z = [] := ⟨_, rfl⟩
  rw [← hlo]
  have hS : va_S A s.heap H locs := by rw [hH, hlo]; exact hS
  refine lv_aload_n hx hb dX6_isSmooth_0 rfl (lv_at hl 0 rfl) ?_
  refine lv_aload_n hx hb dX6_isSmooth_1 rfl (lv_at hl 0 rfl) ?_
  refine get_X6_7 hx hb hts hown hK hP 0 rfl rfl dX6_isSmooth_2 ?_
  refine lv_iconst (v := 0) hx hb dX6_isSmooth_5 (by decide) ?_
  obtain ⟨g6, hF⟩ := gdb hF
  refine va_iald hx hb hK hP 4 0 rfl rfl (vinb g6) dX6_isSmooth_6 ?_
  obtain ⟨r7, hr7, hF⟩ := opb hF
  refine kVI (As := [.int (c_z ((0 : Int32)).toNatClampNeg)]) (rest := []) (ws' := (wd_X6_isSmooth cI a_t a_z a_history a_text a_left a_other a_smooth a_weights a_signs a_worked c_states c_length c_thrown r7.2.1 c_read c_isOpen c_hash r7.2.2.1 r7.2.2.2.1 r7.2.2.2.2 c_z)) ⟨hx, hb, hml, hown, hts⟩ (c_X6_smoothWith l D cI a_t a_z a_history a_text a_left a_other a_smooth a_weights a_signs a_worked H.size c_states c_length c_thrown c_codes c_read c_isOpen c_hash c_left c_smooth c_weights c_z (c_z ((0 : Int32)).toNatClampNeg) r7 hr7) (cwV 1 hts mw_X6_83 rfl rfl rfl hd_X6_smoothWith ⟨Nat.le_of_ble_eq_true rfl, Nat.le_of_ble_eq_true rfl⟩) hS hA hG hK hP hD [0, 1, 2, 3, 4] rfl rfl rfl rfl rfl ⟨Nat.zero_le _, Nat.zero_le _⟩ 6 0 rfl rfl rfl rfl hl.1 rfl (Nat.le_of_ble_eq_true rfl) dX6_isSmooth_7 (fun H locs hP hD hS => ?_)
  refine lv_iconst (v := 1) hx hb dX6_isSmooth_10 (by decide) ?_
  refine lv_icmp_ne (tgt := 18) hx hb dX6_isSmooth_11 (by decide) (fun k11 => ?_) (fun k11 => ?_)
  · (try simp only [if_neg k11] at hF)
    refine lv_iconst (v := 0) hx hb dX6_isSmooth_18 (by decide) ?_
    have ho := Option.some.inj hF
    exact hret H locs ls 19 (0 : Int32) _ hP hS (by rw [← ho]) (by rw [← ho]) (by decide) dX6_isSmooth_19
  · (try simp only [if_pos k11] at hF)
    refine lv_iconst (v := 1) hx hb dX6_isSmooth_14 (by decide) ?_
    refine lv_goto (tgt := 19) hx hb dX6_isSmooth_15 (by decide) ?_
    have ho := Option.some.inj hF
    exact hret H locs ls 19 (1 : Int32) _ hP hS (by rw [← ho]) (by rw [← ho]) (by decide) dX6_isSmooth_19
abbrev wd_X6_smoothBehind (cI : ClassId) (a_t a_z a_history a_text a_left a_other a_smooth a_weights a_signs a_worked : Nat) (c_states : Int32) (c_length : Int32) (c_thrown : Int32) (c_codes : Int32) (c_read : Int32) (c_isOpen : Int32) (c_hash : Int64) (c_left : Nat → Int32) (c_smooth : Nat → Int32) (c_weights : Nat → Int32) : va_W := [(a_t, .inr (6, [.ref a_z, .int c_states, .ref a_history, .int c_length, .ref a_text, .int c_thrown, .ref a_left, .ref a_other, .ref a_smooth, .ref a_weights, .int c_codes, .ref a_signs, .int c_read, .int c_isOpen, .ref a_worked, .long c_hash])), (a_left, .inl (cI, 6, .inl c_left)), (a_smooth, .inl (cI, 4200, .inl c_smooth)), (a_weights, .inl (cI, 6, .inl c_weights))]
def rm_X6_smoothBehind : Room := { frames := 0, cells := 0, slots := 0, locals := 0 }
set_option maxHeartbeats 4000000 in
set_option maxRecDepth 100000 in
theorem c_X6_smoothBehind (l : Launch) (D : va_G) (cI : ClassId) (a_t a_z a_history a_text a_left a_other a_smooth a_weights a_signs a_worked : Nat) (sz : Nat) (c_states : Int32) (c_length : Int32) (c_thrown : Int32) (c_codes : Int32) (c_read : Int32) (c_isOpen : Int32) (c_hash : Int64) (c_left : Nat → Int32) (c_smooth : Nat → Int32) (c_weights : Nat → Int32) (x1 : Int32) (x2 : Int32) (x3 : Int32) (o : Int32) (hF : F_X6_smoothBehind c_left c_smooth c_weights x1 x2 x3 = some o) : Met l yX6_smoothBehind (Cond.code yX6_smoothBehind cX6_smoothBehind 5 (some .int) :: WL) rm_X6_smoothBehind (preM D [(cI, .int)] (wd_X6_smoothBehind cI a_t a_z a_history a_text a_left a_other a_smooth a_weights a_signs a_worked c_states c_length c_thrown c_codes c_read c_isOpen c_hash c_left c_smooth c_weights) sz [.ref a_t, .int x1, .int x2, .int x3]) (postI D o (wd_X6_smoothBehind cI a_t a_z a_history a_text a_left a_other a_smooth a_weights a_signs a_worked c_states c_length c_thrown c_codes c_read c_isOpen c_hash c_left c_smooth c_weights) (wd_X6_smoothBehind cI a_t a_z a_history a_text a_left a_other a_smooth a_weights a_signs a_worked c_states c_length c_thrown c_codes c_read c_isOpen c_hash c_left c_smooth c_weights) sz) 0 0 (va_A (wd_X6_smoothBehind cI a_t a_z a_history a_text a_left a_other a_smooth a_weights a_signs a_worked c_states c_length c_thrown c_codes c_read c_isOpen c_hash c_left c_smooth c_weights) sz) := by
  refine mofI (by decide +kernel) (Nat.le_of_ble_eq_true rfl) ?_
  intro p e s m args below meth c Q A ls hx hb hml hown hts hK hP hD hS hA hG hl hret hsz0
  have hl : lv_has ls 5 [(0, .ref a_t), (1, .int x1), (2, .int x2), (3, .int x3)] := hl
  have K25 : ∀ (v0 : Int32)  (H : Heap) (locs : List Loc) (ls : Array Slot), va_P D vwCl (wd_X6_smoothBehind cI a_t a_z a_history a_text a_left a_other a_smooth a_weights a_signs a_worked c_states c_length c_thrown c_codes c_read c_isOpen c_hash c_left c_smooth c_weights) H → va_D A (wd_X6_smoothBehind cI a_t a_z a_history a_text a_left a_other a_smooth a_weights a_signs a_worked c_states c_length c_thrown c_codes c_read c_isOpen c_hash c_left c_smooth c_weights) → va_S A s.heap H locs → lv_has ls 5 [(0, .ref a_t), (1, .int x1), (2, .int x2), (3, .int x3)] → F_X6_smoothBehind_J25 c_left c_smooth c_weights x1 x2 x3 v0 = some o → W p l e rm_X6_smoothBehind s m args below meth c H locs 0 0 Q (F0 m 25 ls [.int v0]) := by
    intro v0 H locs ls hP hD hS hl hF
    unfold F_X6_smoothBehind_J25 at hF
    refine lv_istore (lv' := [(4, .int v0), (0, .ref a_t), (1, .int x1), (2, .int x2), (3, .int x3)]) hx hb dX6_smoothBehind_25 hl (by decide) rfl (fun ls hl => ?_)
    refine lv_iload hx hb dX6_smoothBehind_27 (lv_at hl 0 rfl) ?_
    refine lv_if_eq (tgt := 58) hx hb dX6_smoothBehind_29 (by decide) (fun k29 => ?_) (fun k29 => ?_)
    · replace hF := (if_pos k29).symm.trans hF
      refine lv_iconst (v := 0) hx hb dX6_smoothBehind_58 (by decide) ?_
      have ho := Option.some.inj hF
      exact hret H locs ls 59 (0 : Int32) _ hP hS rfl ho dX6_smoothBehind_59
    · replace hF := (if_neg k29).symm.trans hF
      refine lv_iload_n hx hb dX6_smoothBehind_32 rfl (lv_at hl 3 rfl) ?_
      refine lv_iload_n hx hb dX6_smoothBehind_33 rfl (lv_at hl 4 rfl) ?_
      refine lv_icmp_eq (tgt := 58) hx hb dX6_smoothBehind_34 (by decide) (fun k34 => ?_) (fun k34 => ?_)
      · replace hF := (if_pos k34).symm.trans hF
        refine lv_iconst (v := 0) hx hb dX6_smoothBehind_58 (by decide) ?_
        have ho := Option.some.inj hF
        exact hret H locs ls 59 (0 : Int32) _ hP hS rfl ho dX6_smoothBehind_59
      · replace hF := (if_neg k34).symm.trans hF
        refine lv_aload_n hx hb dX6_smoothBehind_37 rfl (lv_at hl 1 rfl) ?_
        refine get_X6_25 hx hb hts hown hK hP 0 rfl rfl dX6_smoothBehind_38 ?_
        refine lv_bipush (v := 7) hx hb dX6_smoothBehind_41 (by decide) ?_
        refine lv_iload_n hx hb dX6_smoothBehind_43 rfl (lv_at hl 2 rfl) ?_
        refine lv_aload_n hx hb dX6_smoothBehind_44 rfl (lv_at hl 1 rfl) ?_
        refine get_X6_28 hx hb hts hown hK hP 0 rfl rfl dX6_smoothBehind_45 ?_
        refine lv_iload_n hx hb dX6_smoothBehind_48 rfl (lv_at hl 3 rfl) ?_
        obtain ⟨g49, hF⟩ := gdb hF
        refine va_iald hx hb hK hP 3 0 rfl rfl (vinb g49) dX6_smoothBehind_49 ?_
        refine lv_isub hx hb dX6_smoothBehind_50 ?_
        refine lv_imul hx hb dX6_smoothBehind_51 ?_
        refine lv_iload_n hx hb dX6_smoothBehind_52 rfl (lv_at hl 3 rfl) ?_
        refine lv_iadd hx hb dX6_smoothBehind_53 ?_
        obtain ⟨g54, hF⟩ := gdb hF
        refine va_iald hx hb hK hP 2 0 rfl rfl (vinb g54) dX6_smoothBehind_54 ?_
        refine lv_goto (tgt := 59) hx hb dX6_smoothBehind_55 (by decide) ?_
        have ho := Option.some.inj hF
        exact hret H locs ls 59 (c_smooth (((7 : Int32) * (x1 - (c_weights (x2).toNatClampNeg))) + x2).toNatClampNeg) _ hP hS rfl ho dX6_smoothBehind_59
  unfold F_X6_smoothBehind at hF
  have hP : va_P D vwCl (wd_X6_smoothBehind cI a_t a_z a_history a_text a_left a_other a_smooth a_weights a_signs a_worked c_states c_length c_thrown c_codes c_read c_isOpen c_hash c_left c_smooth c_weights) s.heap := hP
  obtain ⟨H, hH⟩ : ∃ H, H = s.heap := ⟨_, rfl⟩
  rw [← hH]
  rw [← hH] at hP
  obtain ⟨locs, hlo⟩ : ∃ z : List Loc, z = [] := ⟨_, rfl⟩
  rw [← hlo]
  have hS : va_S A s.heap H locs := by rw [hH, hlo]; exact hS
  refine lv_iload_n hx hb dX6_smoothBehind_0 rfl (lv_at hl 1 rfl) ?_
  refine lv_aload_n hx hb dX6_smoothBehind_1 rfl (lv_at hl 0 rfl) ?_
  refine get_X6_28 hx hb hts hown hK hP 0 rfl rfl dX6_smoothBehind_2 ?_
  refine lv_iload_n hx hb dX6_smoothBehind_5 rfl (lv_at hl 2 rfl) ?_
  obtain ⟨g6, hF⟩ := gdb hF
  refine va_iald hx hb hK hP 3 0 rfl rfl (vinb g6) dX6_smoothBehind_6 ?_
  obtain ⟨g7, hF⟩ := gdb hF
  refine lv_idiv hx hb dX6_smoothBehind_7 (nzb g7) ?_
  refine lv_aload_n hx hb dX6_smoothBehind_8 rfl (lv_at hl 0 rfl) ?_
  refine get_X6_19 hx hb hts hown hK hP 0 rfl rfl dX6_smoothBehind_9 ?_
  refine lv_iload_n hx hb dX6_smoothBehind_12 rfl (lv_at hl 2 rfl) ?_
  obtain ⟨g13, hF⟩ := gdb hF
  refine va_iald hx hb hK hP 1 0 rfl rfl (vinb g13) dX6_smoothBehind_13 ?_
  refine lv_iconst (v := 1) hx hb dX6_smoothBehind_14 (by decide) ?_
  refine lv_iadd hx hb dX6_smoothBehind_15 ?_
  obtain ⟨g16, hF⟩ := gdb hF
  refine lv_irem hx hb dX6_smoothBehind_16 (nzb g16) ?_
  refine lv_if_le (tgt := 24) hx hb dX6_smoothBehind_17 (by decide) (fun k17 => ?_) (fun k17 => ?_)
  · (try simp only [if_pos k17] at hF)
    refine lv_iconst (v := 0) hx hb dX6_smoothBehind_24 (by decide) ?_
    exact K25 (0 : Int32) H locs ls hP hD hS (lv_sub hl [0, 1, 2, 3] rfl) hF
  · (try simp only [if_neg k17] at hF)
    refine lv_iconst (v := 1) hx hb dX6_smoothBehind_20 (by decide) ?_
    refine lv_goto (tgt := 25) hx hb dX6_smoothBehind_21 (by decide) ?_
    exact K25 (1 : Int32) H locs ls hP hD hS (lv_sub hl [0, 1, 2, 3] rfl) hF
abbrev wd_X6_laySmoothRank (cI : ClassId) (a_t a_z a_history a_text a_left a_other a_smooth a_weights a_signs a_worked : Nat) (c_states : Int32) (c_length : Int32) (c_thrown : Int32) (c_codes : Int32) (c_read : Int32) (c_isOpen : Int32) (c_hash : Int64) (c_left : Nat → Int32) (c_other : Nat → Int32) (c_smooth : Nat → Int32) (c_weights : Nat → Int32) (c_z : Nat → Int32) : va_W := [(a_t, .inr (6, [.ref a_z, .int c_states, .ref a_history, .int c_length, .ref a_text, .int c_thrown, .ref a_left, .ref a_other, .ref a_smooth, .ref a_weights, .int c_codes, .ref a_signs, .int c_read, .int c_isOpen, .ref a_worked, .long c_hash])), (a_left, .inl (cI, 6, .inl c_left)), (a_other, .inl (cI, 11, .inl c_other)), (a_smooth, .inl (cI, 4200, .inl c_smooth)), (a_weights, .inl (cI, 6, .inl c_weights)), (a_z, .inl (cI, 13, .inl c_z))]
def rm_X6_laySmoothRank : Room := { frames := 2, cells := 0, slots := 0, locals := 46 }
set_option maxHeartbeats 4000000 in
set_option maxRecDepth 100000 in
theorem c_X6_laySmoothRank (l : Launch) (D : va_G) (cI : ClassId) (a_t a_z a_history a_text a_left a_other a_smooth a_weights a_signs a_worked : Nat) (sz : Nat) (c_states : Int32) (c_length : Int32) (c_thrown : Int32) (c_codes : Int32) (c_read : Int32) (c_isOpen : Int32) (c_hash : Int64) (c_left : Nat → Int32) (c_other : Nat → Int32) (c_smooth : Nat → Int32) (c_weights : Nat → Int32) (c_z : Nat → Int32) (x1 : Int32) (o : Int32 × (Nat → Int32) × (Nat → Int32) × (Nat → Int32) × (Nat → Int32)) (hF : F_X6_laySmoothRank c_codes c_left c_other c_smooth c_weights c_z x1 = some o) : Met l yX6_laySmoothRank (Cond.code yX6_laySmoothRank cX6_laySmoothRank 8 none :: WL) rm_X6_laySmoothRank (preM D [(cI, .int)] (wd_X6_laySmoothRank cI a_t a_z a_history a_text a_left a_other a_smooth a_weights a_signs a_worked c_states c_length c_thrown c_codes c_read c_isOpen c_hash c_left c_other c_smooth c_weights c_z) sz [.ref a_t, .int x1]) (postV D (wd_X6_laySmoothRank cI a_t a_z a_history a_text a_left a_other a_smooth a_weights a_signs a_worked c_states c_length c_thrown o.1 c_read c_isOpen c_hash o.2.1 o.2.2.1 o.2.2.2.1 o.2.2.2.2 c_z) (wd_X6_laySmoothRank cI a_t a_z a_history a_text a_left a_other a_smooth a_weights a_signs a_worked c_states c_length c_thrown c_codes c_read c_isOpen c_hash c_left c_other c_smooth c_weights c_z) sz) 0 0 (va_A (wd_X6_laySmoothRank cI a_t a_z a_history a_text a_left a_other a_smooth a_weights a_signs a_worked c_states c_length c_thrown c_codes c_read c_isOpen c_hash c_left c_other c_smooth c_weights c_z) sz) := by
  refine mofV (by decide +kernel) (Nat.le_of_ble_eq_true rfl) ?_
  intro p e s m args below meth c Q A ls hx hb hml hown hts hK hP hD hS hA hG hl hret hsz0
  have hl : lv_has ls 8 [(0, .ref a_t), (1, .int x1)] := hl
  have K20 : ∀ (n20 : Nat) (c_codes : Int32) (c_left : Nat → Int32) (c_other : Nat → Int32) (c_smooth : Nat → Int32) (c_weights : Nat → Int32) (x2 : Int32) (x3 : Int32) (x4 : Int32) (x5 : Int32) (H : Heap) (locs : List Loc) (ls : Array Slot), va_P D vwCl (wd_X6_laySmoothRank cI a_t a_z a_history a_text a_left a_other a_smooth a_weights a_signs a_worked c_states c_length c_thrown c_codes c_read c_isOpen c_hash c_left c_other c_smooth c_weights c_z) H → va_D A (wd_X6_laySmoothRank cI a_t a_z a_history a_text a_left a_other a_smooth a_weights a_signs a_worked c_states c_length c_thrown c_codes c_read c_isOpen c_hash c_left c_other c_smooth c_weights c_z) → va_S A s.heap H locs → lv_has ls 8 [(0, .ref a_t), (2, .int x2), (3, .int x3), (4, .int x4), (5, .int x5)] → F_X6_laySmoothRank_L20 c_z x1 n20 c_codes c_left c_other c_smooth c_weights x2 x3 x4 x5 = some o → W p l e rm_X6_laySmoothRank s m args below meth c H locs 0 0 Q (F0 m 20 ls []) := by
    intro n20
    induction n20 with
    | zero => intro c_codes c_left c_other c_smooth c_weights x2 x3 x4 x5 H locs ls hP hD hS hl hF; exact nos hF
    | succ n20 ih20 =>
      have K44 : ∀ (n44 : Nat) (c_codes : Int32) (c_left : Nat → Int32) (c_other : Nat → Int32) (c_smooth : Nat → Int32) (c_weights : Nat → Int32) (x2 : Int32) (x3 : Int32) (x4 : Int32) (x5 : Int32) (x6 : Int32) (x7 : Int32) (H : Heap) (locs : List Loc) (ls : Array Slot), va_P D vwCl (wd_X6_laySmoothRank cI a_t a_z a_history a_text a_left a_other a_smooth a_weights a_signs a_worked c_states c_length c_thrown c_codes c_read c_isOpen c_hash c_left c_other c_smooth c_weights c_z) H → va_D A (wd_X6_laySmoothRank cI a_t a_z a_history a_text a_left a_other a_smooth a_weights a_signs a_worked c_states c_length c_thrown c_codes c_read c_isOpen c_hash c_left c_other c_smooth c_weights c_z) → va_S A s.heap H locs → lv_has ls 8 [(0, .ref a_t), (2, .int x2), (3, .int x3), (4, .int x4), (5, .int x5), (6, .int x6), (7, .int x7)] → F_X6_laySmoothRank_L44 (F_X6_laySmoothRank_L20 c_z x1 n20) c_z x1 n44 c_codes c_left c_other c_smooth c_weights x2 x3 x4 x5 x6 x7 = some o → W p l e rm_X6_laySmoothRank s m args below meth c H locs 0 0 Q (F0 m 44 ls []) := by
        intro n44
        induction n44 with
        | zero => intro c_codes c_left c_other c_smooth c_weights x2 x3 x4 x5 x6 x7 H locs ls hP hD hS hl hF; exact nos hF
        | succ n44 ih44 =>
          intro c_codes c_left c_other c_smooth c_weights x2 x3 x4 x5 x6 x7 H locs ls hP hD hS hl hF
          rw [F_X6_laySmoothRank_L44] at hF
          refine lv_iload hx hb dX6_laySmoothRank_44 (lv_at hl 3 rfl) ?_
          refine lv_iload hx hb dX6_laySmoothRank_46 (lv_at hl 6 rfl) ?_
          refine lv_icmp_lt (tgt := 74) hx hb dX6_laySmoothRank_48 (by decide) (fun k48 => ?_) (fun k48 => ?_)
          · replace hF := (if_pos k48).symm.trans hF
            refine lv_aload_n hx hb dX6_laySmoothRank_74 rfl (lv_at hl 0 rfl) ?_
            refine get_X6_22 hx hb hts hown hK hP 0 rfl rfl dX6_laySmoothRank_75 ?_
            refine lv_iload hx hb dX6_laySmoothRank_78 (lv_at hl 4 rfl) ?_
            refine lv_iload hx hb dX6_laySmoothRank_80 (lv_at hl 5 rfl) ?_
            obtain ⟨g82, hF⟩ := gdb hF
            refine va_iast hx hb hK hP hD hS 2 0 rfl rfl (vinb g82) dX6_laySmoothRank_82 (fun H locs hP hD hS => ?_)
            have hP : va_P D vwCl (wd_X6_laySmoothRank cI a_t a_z a_history a_text a_left a_other a_smooth a_weights a_signs a_worked c_states c_length c_thrown c_codes c_read c_isOpen c_hash c_left (upd c_other (x5).toNatClampNeg x6) c_smooth c_weights c_z) H := hP
            have hD : va_D A (wd_X6_laySmoothRank cI a_t a_z a_history a_text a_left a_other a_smooth a_weights a_signs a_worked c_states c_length c_thrown c_codes c_read c_isOpen c_hash c_left (upd c_other (x5).toNatClampNeg x6) c_smooth c_weights c_z) := hD
            refine lv_iload_n hx hb dX6_laySmoothRank_83 rfl (lv_at hl 1 rfl) ?_
            refine lv_aload_n hx hb dX6_laySmoothRank_84 rfl (lv_at hl 0 rfl) ?_
            refine get_X6_28 hx hb hts hown hK hP 0 rfl rfl dX6_laySmoothRank_85 ?_
            refine lv_iload hx hb dX6_laySmoothRank_88 (lv_at hl 5 rfl) ?_
            obtain ⟨g90, hF⟩ := gdb hF
            refine va_iald hx hb hK hP 4 0 rfl rfl (vinb g90) dX6_laySmoothRank_90 ?_
            refine lv_isub hx hb dX6_laySmoothRank_91 ?_
            refine lv_istore_n (lv' := [(2, .int (x2 - (c_weights (x6).toNatClampNeg))), (0, .ref a_t), (3, .int x3), (4, .int x4), (5, .int x5), (6, .int x6), (7, .int x7)]) hx hb dX6_laySmoothRank_92 rfl hl (by decide) rfl (fun ls hl => ?_)
            refine lv_iload hx hb dX6_laySmoothRank_93 (lv_at hl 5 rfl) ?_
            refine lv_istore_n (lv' := [(3, .int x6), (2, .int (x2 - (c_weights (x6).toNatClampNeg))), (0, .ref a_t), (4, .int x4), (5, .int x5), (6, .int x6), (7, .int x7)]) hx hb dX6_laySmoothRank_95 rfl hl (by decide) rfl (fun ls hl => ?_)
            refine lv_iinc (v := x5 + 1) (lv' := [(5, .int (x5 + 1)), (3, .int x6), (2, .int (x2 - (c_weights (x6).toNatClampNeg))), (0, .ref a_t), (4, .int x4), (6, .int x6), (7, .int x7)]) hx hb dX6_laySmoothRank_96 hl (k := 4) rfl rfl (by decide) rfl (fun ls hl => ?_)
            refine lv_goto (tgt := 20) hx hb dX6_laySmoothRank_99 (by decide) ?_
            exact ih20 c_codes c_left (upd c_other (x5).toNatClampNeg x6) c_smooth c_weights (x2 - (c_weights (x6).toNatClampNeg)) x6 x4 (x5 + 1) H locs ls hP hD hS (lv_sub hl [3, 2, 1, 4, 0] rfl) hF
          · replace hF := (if_neg k48).symm.trans hF
            refine lv_iload hx hb dX6_laySmoothRank_51 (lv_at hl 3 rfl) ?_
            refine lv_iload hx hb dX6_laySmoothRank_53 (lv_at hl 6 rfl) ?_
            refine lv_isub hx hb dX6_laySmoothRank_55 ?_
            refine lv_istore (lv' := [(4, .int (x4 - x7)), (0, .ref a_t), (2, .int x2), (3, .int x3), (5, .int x5), (6, .int x6), (7, .int x7)]) hx hb dX6_laySmoothRank_56 hl (by decide) rfl (fun ls hl => ?_)
            refine lv_iinc (v := x6 + 1) (lv' := [(6, .int (x6 + 1)), (4, .int (x4 - x7)), (0, .ref a_t), (2, .int x2), (3, .int x3), (5, .int x5), (7, .int x7)]) hx hb dX6_laySmoothRank_58 hl (k := 5) rfl rfl (by decide) rfl (fun ls hl => ?_)
            refine lv_aload_n hx hb dX6_laySmoothRank_61 rfl (lv_at hl 2 rfl) ?_
            refine lv_iload_n hx hb dX6_laySmoothRank_62 rfl (lv_at hl 3 rfl) ?_
            refine lv_iload hx hb dX6_laySmoothRank_63 (lv_at hl 0 rfl) ?_
            refine lv_iload_n hx hb dX6_laySmoothRank_65 rfl (lv_at hl 4 rfl) ?_
            obtain ⟨r66, hr66, hF⟩ := opb hF
            refine kVI (As := [.int x2, .int (x6 + 1), .int x3]) (rest := []) (ws' := (wd_X6_laySmoothRank cI a_t a_z a_history a_text a_left a_other a_smooth a_weights a_signs a_worked c_states c_length c_thrown c_codes c_read c_isOpen c_hash c_left c_other c_smooth c_weights c_z)) ⟨hx, hb, hml, hown, hts⟩ (c_X6_smoothBehind l D cI a_t a_z a_history a_text a_left a_other a_smooth a_weights a_signs a_worked H.size c_states c_length c_thrown c_codes c_read c_isOpen c_hash c_left c_smooth c_weights x2 (x6 + 1) x3 r66 hr66) (cwV 3 hts mw_X6_86 rfl rfl rfl hd_X6_smoothBehind ⟨Nat.le_of_ble_eq_true rfl, Nat.le_of_ble_eq_true rfl⟩) hS hA hG hK hP hD [0, 1, 3, 4] rfl rfl rfl rfl rfl ⟨Nat.zero_le _, Nat.zero_le _⟩ 6 0 rfl rfl rfl rfl hl.1 rfl (Nat.le_of_ble_eq_true rfl) dX6_laySmoothRank_66 (fun H locs hP hD hS => ?_)
            refine lv_istore (lv' := [(7, .int r66), (6, .int (x6 + 1)), (4, .int (x4 - x7)), (0, .ref a_t), (2, .int x2), (3, .int x3), (5, .int x5)]) hx hb dX6_laySmoothRank_69 hl (by decide) rfl (fun ls hl => ?_)
            refine lv_goto (tgt := 44) hx hb dX6_laySmoothRank_71 (by decide) ?_
            exact ih44 c_codes c_left c_other c_smooth c_weights x2 x3 (x4 - x7) x5 (x6 + 1) r66 H locs ls hP hD hS (lv_sub hl [3, 4, 5, 2, 6, 1, 0] rfl) hF
      intro c_codes c_left c_other c_smooth c_weights x2 x3 x4 x5 H locs ls hP hD hS hl hF
      rw [F_X6_laySmoothRank_L20] at hF
      refine lv_iload hx hb dX6_laySmoothRank_20 (lv_at hl 4 rfl) ?_
      refine lv_aload_n hx hb dX6_laySmoothRank_22 rfl (lv_at hl 0 rfl) ?_
      refine get_X6_7 hx hb hts hown hK hP 0 rfl rfl dX6_laySmoothRank_23 ?_
      refine lv_iconst (v := 0) hx hb dX6_laySmoothRank_26 (by decide) ?_
      obtain ⟨g27, hF⟩ := gdb hF
      refine va_iald hx hb hK hP 5 0 rfl rfl (vinb g27) dX6_laySmoothRank_27 ?_
      refine lv_icmp_ge (tgt := 102) hx hb dX6_laySmoothRank_28 (by decide) (fun k28 => ?_) (fun k28 => ?_)
      · replace hF := (if_pos k28).symm.trans hF
        have ho := Option.some.inj hF
        exact hret H locs ls 102 _ hP hS (by rw [← ho]) dX6_laySmoothRank_102
      · replace hF := (if_neg k28).symm.trans hF
        refine lv_iconst (v := 0) hx hb dX6_laySmoothRank_31 (by decide) ?_
        refine lv_istore (lv' := [(6, .int (0 : Int32)), (0, .ref a_t), (2, .int x2), (3, .int x3), (4, .int x4), (5, .int x5)]) hx hb dX6_laySmoothRank_32 hl (by decide) rfl (fun ls hl => ?_)
        refine lv_aload_n hx hb dX6_laySmoothRank_34 rfl (lv_at hl 1 rfl) ?_
        refine lv_iload_n hx hb dX6_laySmoothRank_35 rfl (lv_at hl 2 rfl) ?_
        refine lv_iload hx hb dX6_laySmoothRank_36 (lv_at hl 0 rfl) ?_
        refine lv_iload_n hx hb dX6_laySmoothRank_38 rfl (lv_at hl 3 rfl) ?_
        obtain ⟨r39, hr39, hF⟩ := opb hF
        refine kVI (As := [.int x2, .int (0 : Int32), .int x3]) (rest := []) (ws' := (wd_X6_laySmoothRank cI a_t a_z a_history a_text a_left a_other a_smooth a_weights a_signs a_worked c_states c_length c_thrown c_codes c_read c_isOpen c_hash c_left c_other c_smooth c_weights c_z)) ⟨hx, hb, hml, hown, hts⟩ (c_X6_smoothBehind l D cI a_t a_z a_history a_text a_left a_other a_smooth a_weights a_signs a_worked H.size c_states c_length c_thrown c_codes c_read c_isOpen c_hash c_left c_smooth c_weights x2 (0 : Int32) x3 r39 hr39) (cwV 3 hts mw_X6_86 rfl rfl rfl hd_X6_smoothBehind ⟨Nat.le_of_ble_eq_true rfl, Nat.le_of_ble_eq_true rfl⟩) hS hA hG hK hP hD [0, 1, 3, 4] rfl rfl rfl rfl rfl ⟨Nat.zero_le _, Nat.zero_le _⟩ 6 0 rfl rfl rfl rfl hl.1 rfl (Nat.le_of_ble_eq_true rfl) dX6_laySmoothRank_39 (fun H locs hP hD hS => ?_)
        refine lv_istore (lv' := [(7, .int r39), (6, .int (0 : Int32)), (0, .ref a_t), (2, .int x2), (3, .int x3), (4, .int x4), (5, .int x5)]) hx hb dX6_laySmoothRank_42 hl (by decide) rfl (fun ls hl => ?_)
        exact K44 FU c_codes c_left c_other c_smooth c_weights x2 x3 x4 x5 (0 : Int32) r39 H locs ls hP hD hS (lv_sub hl [2, 3, 4, 5, 6, 1, 0] rfl) hF
  unfold F_X6_laySmoothRank at hF
  have hP : va_P D vwCl (wd_X6_laySmoothRank cI a_t a_z a_history a_text a_left a_other a_smooth a_weights a_signs a_worked c_states c_length c_thrown c_codes c_read c_isOpen c_hash c_left c_other c_smooth c_weights c_z) s.heap := hP
  obtain ⟨H, hH⟩ : ∃ H, H = s.heap := ⟨_, rfl⟩
  rw [← hH]
  rw [← hH] at hP
  obtain ⟨locs, hlo⟩ : ∃ z : List Loc, z = [] := ⟨_, rfl⟩
  rw [← hlo]
  have hS : va_S A s.heap H locs := by rw [hH, hlo]; exact hS
  refine lv_aload_n hx hb dX6_laySmoothRank_0 rfl (lv_at hl 0 rfl) ?_
  obtain ⟨r1, hr1, hF⟩ := opb hF
  refine kVV (As := []) (rest := []) (ws' := (wd_X6_laySmoothRank cI a_t a_z a_history a_text a_left a_other a_smooth a_weights a_signs a_worked c_states c_length c_thrown r1.1 c_read c_isOpen c_hash r1.2.1 c_other r1.2.2.1 r1.2.2.2 c_z)) ⟨hx, hb, hml, hown, hts⟩ (c_X6_laySmooth l D cI a_t a_z a_history a_text a_left a_other a_smooth a_weights a_signs a_worked H.size c_states c_length c_thrown c_codes c_read c_isOpen c_hash c_left c_smooth c_weights c_z  r1 hr1) (cwV 0 hts mw_X6_77 rfl rfl rfl hd_X6_laySmooth ⟨Nat.le_of_ble_eq_true rfl, Nat.le_of_ble_eq_true rfl⟩) hS hA hG hK hP hD [0, 1, 3, 4, 5] rfl rfl rfl rfl rfl ⟨Nat.zero_le _, Nat.zero_le _⟩ 6 0 rfl rfl rfl rfl hl.1 rfl (Nat.le_of_ble_eq_true rfl) dX6_laySmoothRank_1 (fun H locs hP hD hS => ?_)
  refine lv_aload_n hx hb dX6_laySmoothRank_4 rfl (lv_at hl 0 rfl) ?_
  refine get_X6_74 hx hb hts hown hK hP 0 rfl rfl dX6_laySmoothRank_5 ?_
  refine lv_iconst (v := 1) hx hb dX6_laySmoothRank_8 (by decide) ?_
  refine lv_isub hx hb dX6_laySmoothRank_9 ?_
  refine lv_istore_n (lv' := [(2, .int (r1.1 - (1 : Int32))), (0, .ref a_t), (1, .int x1)]) hx hb dX6_laySmoothRank_10 rfl hl (by decide) rfl (fun ls hl => ?_)
  refine lv_bipush (v := 6) hx hb dX6_laySmoothRank_11 (by decide) ?_
  refine lv_istore_n (lv' := [(3, .int (6 : Int32)), (2, .int (r1.1 - (1 : Int32))), (0, .ref a_t), (1, .int x1)]) hx hb dX6_laySmoothRank_13 rfl hl (by decide) rfl (fun ls hl => ?_)
  refine lv_iload_n hx hb dX6_laySmoothRank_14 rfl (lv_at hl 3 rfl) ?_
  refine lv_istore (lv' := [(4, .int x1), (3, .int (6 : Int32)), (2, .int (r1.1 - (1 : Int32))), (0, .ref a_t), (1, .int x1)]) hx hb dX6_laySmoothRank_15 hl (by decide) rfl (fun ls hl => ?_)
  refine lv_iconst (v := 0) hx hb dX6_laySmoothRank_17 (by decide) ?_
  refine lv_istore (lv' := [(5, .int (0 : Int32)), (4, .int x1), (3, .int (6 : Int32)), (2, .int (r1.1 - (1 : Int32))), (0, .ref a_t), (1, .int x1)]) hx hb dX6_laySmoothRank_18 hl (by decide) rfl (fun ls hl => ?_)
  exact K20 FU r1.1 r1.2.1 c_other r1.2.2.1 r1.2.2.2 (r1.1 - (1 : Int32)) (6 : Int32) x1 (0 : Int32) H locs ls hP hD hS (lv_sub hl [4, 3, 2, 1, 0] rfl) hF
abbrev wd_X6_goes (cI : ClassId) (a_t a_z a_history a_text a_left a_other a_smooth a_weights a_signs a_worked : Nat) (c_states : Int32) (c_length : Int32) (c_thrown : Int32) (c_codes : Int32) (c_read : Int32) (c_isOpen : Int32) (c_hash : Int64) (c_other : Nat → Int32) (c_z : Nat → Int32) : va_W := [(a_t, .inr (6, [.ref a_z, .int c_states, .ref a_history, .int c_length, .ref a_text, .int c_thrown, .ref a_left, .ref a_other, .ref a_smooth, .ref a_weights, .int c_codes, .ref a_signs, .int c_read, .int c_isOpen, .ref a_worked, .long c_hash])), (a_other, .inl (cI, 11, .inl c_other)), (a_z, .inl (cI, 13, .inl c_z))]
def rm_X6_goes : Room := { frames := 1, cells := 0, slots := 0, locals := 22 }
set_option maxHeartbeats 4000000 in
set_option maxRecDepth 100000 in
theorem c_X6_goes (l : Launch) (D : va_G) (cI : ClassId) (a_t a_z a_history a_text a_left a_other a_smooth a_weights a_signs a_worked : Nat) (sz : Nat) (c_states : Int32) (c_length : Int32) (c_thrown : Int32) (c_codes : Int32) (c_read : Int32) (c_isOpen : Int32) (c_hash : Int64) (c_other : Nat → Int32) (c_z : Nat → Int32) (o : Int32 × (Nat → Int32)) (hF : F_X6_goes c_other c_z = some o) : Met l yX6_goes (Cond.code yX6_goes cX6_goes 1 (some .int) :: WL) rm_X6_goes (preM D [(cI, .int)] (wd_X6_goes cI a_t a_z a_history a_text a_left a_other a_smooth a_weights a_signs a_worked c_states c_length c_thrown c_codes c_read c_isOpen c_hash c_other c_z) sz [.ref a_t]) (postI D o.1 (wd_X6_goes cI a_t a_z a_history a_text a_left a_other a_smooth a_weights a_signs a_worked c_states c_length c_thrown c_codes c_read c_isOpen c_hash c_other o.2) (wd_X6_goes cI a_t a_z a_history a_text a_left a_other a_smooth a_weights a_signs a_worked c_states c_length c_thrown c_codes c_read c_isOpen c_hash c_other c_z) sz) 0 0 (va_A (wd_X6_goes cI a_t a_z a_history a_text a_left a_other a_smooth a_weights a_signs a_worked c_states c_length c_thrown c_codes c_read c_isOpen c_hash c_other c_z) sz) := by
  refine mofI (by decide +kernel) (Nat.le_of_ble_eq_true rfl) ?_
  intro p e s m args below meth c Q A ls hx hb hml hown hts hK hP hD hS hA hG hl hret hsz0
  have hl : lv_has ls 1 [(0, .ref a_t)] := hl
  unfold F_X6_goes at hF
  have hP : va_P D vwCl (wd_X6_goes cI a_t a_z a_history a_text a_left a_other a_smooth a_weights a_signs a_worked c_states c_length c_thrown c_codes c_read c_isOpen c_hash c_other c_z) s.heap := hP
  obtain ⟨H, hH⟩ : ∃ H, H = s.heap := ⟨_, rfl⟩
  rw [← hH]
  rw [← hH] at hP
  obtain ⟨locs, hlo⟩ : ∃ z : List Loc, z = [] := ⟨_, rfl⟩
  rw [← hlo]
  have hS : va_S A s.heap H locs := by rw [hH, hlo]; exact hS
  refine lv_aload_n hx hb dX6_goes_0 rfl (lv_at hl 0 rfl) ?_
  refine get_X6_7 hx hb hts hown hK hP 0 rfl rfl dX6_goes_1 ?_
  refine lv_iconst (v := 1) hx hb dX6_goes_4 (by decide) ?_
  refine lv_dup2_11 hx hb dX6_goes_5 rfl rfl ?_
  obtain ⟨g6, hF⟩ := gdb hF
  refine va_iald hx hb hK hP 2 0 rfl rfl (vinb g6) dX6_goes_6 ?_
  refine lv_iconst (v := 1) hx hb dX6_goes_7 (by decide) ?_
  refine lv_iadd hx hb dX6_goes_8 ?_
  obtain ⟨g9, hF⟩ := gdb hF
  refine va_iast hx hb hK hP hD hS 2 0 rfl rfl (vinb g9) dX6_goes_9 (fun H locs hP hD hS => ?_)
  have hP : va_P D vwCl (wd_X6_goes cI a_t a_z a_history a_text a_left a_other a_smooth a_weights a_signs a_worked c_states c_length c_thrown c_codes c_read c_isOpen c_hash c_other (upd c_z ((1 : Int32)).toNatClampNeg ((c_z ((1 : Int32)).toNatClampNeg) + (1 : Int32)))) H := hP
  have hD : va_D A (wd_X6_goes cI a_t a_z a_history a_text a_left a_other a_smooth a_weights a_signs a_worked c_states c_length c_thrown c_codes c_read c_isOpen c_hash c_other (upd c_z ((1 : Int32)).toNatClampNeg ((c_z ((1 : Int32)).toNatClampNeg) + (1 : Int32)))) := hD
  refine lv_aload_n hx hb dX6_goes_10 rfl (lv_at hl 0 rfl) ?_
  obtain ⟨r11, hr11, hF⟩ := opb hF
  refine kVI (As := []) (rest := []) (ws' := (wd_X6_goes cI a_t a_z a_history a_text a_left a_other a_smooth a_weights a_signs a_worked c_states c_length c_thrown c_codes c_read c_isOpen c_hash c_other r11.2)) ⟨hx, hb, hml, hown, hts⟩ (c_X6_takeOther l D cI a_t a_z a_history a_text a_left a_other a_smooth a_weights a_signs a_worked H.size c_states c_length c_thrown c_codes c_read c_isOpen c_hash c_other (upd c_z ((1 : Int32)).toNatClampNeg ((c_z ((1 : Int32)).toNatClampNeg) + (1 : Int32)))  r11 hr11) (cwV 0 hts mw_X6_90 rfl rfl rfl hd_X6_takeOther ⟨Nat.le_of_ble_eq_true rfl, Nat.le_of_ble_eq_true rfl⟩) hS hA hG hK hP hD [0, 1, 2] rfl rfl rfl rfl rfl ⟨Nat.zero_le _, Nat.zero_le _⟩ 6 0 rfl rfl rfl rfl hl.1 rfl (Nat.le_of_ble_eq_true rfl) dX6_goes_11 (fun H locs hP hD hS => ?_)
  have ho := Option.some.inj hF
  exact hret H locs ls 14 r11.1 _ hP hS (by rw [← ho]) (by rw [← ho]) dX6_goes_14
abbrev wd_X6_goTo (cI : ClassId) (a_t a_z a_history a_text a_left a_other a_smooth a_weights a_signs a_worked : Nat) (c_states : Int32) (c_length : Int32) (c_thrown : Int32) (c_codes : Int32) (c_read : Int32) (c_isOpen : Int32) (c_hash : Int64) (c_history : Nat → Int32) (c_left : Nat → Int32) (c_other : Nat → Int32) (c_z : Nat → Int32) : va_W := [(a_t, .inr (6, [.ref a_z, .int c_states, .ref a_history, .int c_length, .ref a_text, .int c_thrown, .ref a_left, .ref a_other, .ref a_smooth, .ref a_weights, .int c_codes, .ref a_signs, .int c_read, .int c_isOpen, .ref a_worked, .long c_hash])), (a_history, .inl (cI, 78, .inl c_history)), (a_left, .inl (cI, 6, .inl c_left)), (a_other, .inl (cI, 11, .inl c_other)), (a_z, .inl (cI, 13, .inl c_z))]
def rm_X6_goTo : Room := { frames := 6, cells := 0, slots := 0, locals := 131 }
set_option maxHeartbeats 4000000 in
set_option maxRecDepth 100000 in
theorem c_X6_goTo (l : Launch) (D : va_G) (cI : ClassId) (a_t a_z a_history a_text a_left a_other a_smooth a_weights a_signs a_worked : Nat) (sz : Nat) (c_states : Int32) (c_length : Int32) (c_thrown : Int32) (c_codes : Int32) (c_read : Int32) (c_isOpen : Int32) (c_hash : Int64) (c_history : Nat → Int32) (c_left : Nat → Int32) (c_other : Nat → Int32) (c_z : Nat → Int32) (x1 : Int32) (o : Int32 × Int32 × Int32 × (Nat → Int32) × (Nat → Int32) × (Nat → Int32) × (Nat → Int32)) (hF : F_X6_goTo c_states c_thrown c_history c_left c_other c_z x1 = some o) : Met l yX6_goTo (Cond.code yX6_goTo cX6_goTo 4 (some .int) :: WL) rm_X6_goTo (preM D [(cI, .int)] (wd_X6_goTo cI a_t a_z a_history a_text a_left a_other a_smooth a_weights a_signs a_worked c_states c_length c_thrown c_codes c_read c_isOpen c_hash c_history c_left c_other c_z) sz [.ref a_t, .int x1]) (postI D o.1 (wd_X6_goTo cI a_t a_z a_history a_text a_left a_other a_smooth a_weights a_signs a_worked o.2.1 c_length o.2.2.1 c_codes c_read c_isOpen c_hash o.2.2.2.1 o.2.2.2.2.1 o.2.2.2.2.2.1 o.2.2.2.2.2.2) (wd_X6_goTo cI a_t a_z a_history a_text a_left a_other a_smooth a_weights a_signs a_worked c_states c_length c_thrown c_codes c_read c_isOpen c_hash c_history c_left c_other c_z) sz) 0 0 (va_A (wd_X6_goTo cI a_t a_z a_history a_text a_left a_other a_smooth a_weights a_signs a_worked c_states c_length c_thrown c_codes c_read c_isOpen c_hash c_history c_left c_other c_z) sz) := by
  refine mofI (by decide +kernel) (Nat.le_of_ble_eq_true rfl) ?_
  intro p e s m args below meth c Q A ls hx hb hml hown hts hK hP hD hS hA hG hl hret hsz0
  have hl : lv_has ls 4 [(0, .ref a_t), (1, .int x1)] := hl
  have K14 : ∀ (c_states : Int32) (c_thrown : Int32) (c_history : Nat → Int32) (c_left : Nat → Int32) (c_other : Nat → Int32) (c_z : Nat → Int32) (v1 : Int32)  (H : Heap) (locs : List Loc) (ls : Array Slot), va_P D vwCl (wd_X6_goTo cI a_t a_z a_history a_text a_left a_other a_smooth a_weights a_signs a_worked c_states c_length c_thrown c_codes c_read c_isOpen c_hash c_history c_left c_other c_z) H → va_D A (wd_X6_goTo cI a_t a_z a_history a_text a_left a_other a_smooth a_weights a_signs a_worked c_states c_length c_thrown c_codes c_read c_isOpen c_hash c_history c_left c_other c_z) → va_S A s.heap H locs → lv_has ls 4 [(0, .ref a_t), (1, .int x1)] → F_X6_goTo_J14 x1 c_states c_thrown c_history c_left c_other c_z v1 = some o → W p l e rm_X6_goTo s m args below meth c H locs 0 0 Q (F0 m 14 ls [.int v1, .ref a_t]) := by
    intro c_states c_thrown c_history c_left c_other c_z v1 H locs ls hP hD hS hl hF
    unfold F_X6_goTo_J14 at hF
    refine put_X6_37 hx hb hts hown hK hP hD hS 0 rfl rfl rfl (Nat.le_of_ble_eq_true rfl) dX6_goTo_14 (fun H locs hP hD hS => ?_)
    have hP : va_P D vwCl (wd_X6_goTo cI a_t a_z a_history a_text a_left a_other a_smooth a_weights a_signs a_worked c_states c_length v1 c_codes c_read c_isOpen c_hash c_history c_left c_other c_z) H := hP
    have hD : va_D A (wd_X6_goTo cI a_t a_z a_history a_text a_left a_other a_smooth a_weights a_signs a_worked c_states c_length v1 c_codes c_read c_isOpen c_hash c_history c_left c_other c_z) := hD
    refine lv_aload_n hx hb dX6_goTo_17 rfl (lv_at hl 0 rfl) ?_
    refine get_X6_37 hx hb hts hown hK hP 0 rfl rfl dX6_goTo_18 ?_
    refine lv_if_le (tgt := 26) hx hb dX6_goTo_21 (by decide) (fun k21 => ?_) (fun k21 => ?_)
    · replace hF := (if_pos k21).symm.trans hF
      refine lv_aload_n hx hb dX6_goTo_26 rfl (lv_at hl 0 rfl) ?_
      obtain ⟨r27, hr27, hF⟩ := opb hF
      refine kVI (As := []) (rest := []) (ws' := (wd_X6_goTo cI a_t a_z a_history a_text a_left a_other a_smooth a_weights a_signs a_worked c_states c_length v1 c_codes c_read c_isOpen c_hash c_history r27.2.1 r27.2.2 c_z)) ⟨hx, hb, hml, hown, hts⟩ (c_X6_rankNow l D cI a_t a_z a_history a_text a_left a_other a_smooth a_weights a_signs a_worked H.size c_states c_length v1 c_codes c_read c_isOpen c_hash c_left c_other c_z  r27 hr27) (cwV 0 hts mw_X6_97 rfl rfl rfl hd_X6_rankNow ⟨Nat.le_of_ble_eq_true rfl, Nat.le_of_ble_eq_true rfl⟩) hS hA hG hK hP hD [0, 2, 3, 4] rfl rfl rfl rfl rfl ⟨Nat.zero_le _, Nat.zero_le _⟩ 6 0 rfl rfl rfl rfl hl.1 rfl (Nat.le_of_ble_eq_true rfl) dX6_goTo_27 (fun H locs hP hD hS => ?_)
      refine lv_istore_n (lv' := [(2, .int r27.1), (0, .ref a_t), (1, .int x1)]) hx hb dX6_goTo_30 rfl hl (by decide) rfl (fun ls hl => ?_)
      refine lv_aload_n hx hb dX6_goTo_31 rfl (lv_at hl 1 rfl) ?_
      obtain ⟨r32, hr32, hF⟩ := opb hF
      refine kVV (As := []) (rest := []) (ws' := (wd_X6_goTo cI a_t a_z a_history a_text a_left a_other a_smooth a_weights a_signs a_worked r32.1 c_length v1 c_codes c_read c_isOpen c_hash r32.2 r27.2.1 r27.2.2 c_z)) ⟨hx, hb, hml, hown, hts⟩ (c_X6_save l D cI a_t a_z a_history a_text a_left a_other a_smooth a_weights a_signs a_worked H.size c_states c_length v1 c_codes c_read c_isOpen c_hash c_history c_z  r32 hr32) (cwV 0 hts mw_X6_100 rfl rfl rfl hd_X6_save ⟨Nat.le_of_ble_eq_true rfl, Nat.le_of_ble_eq_true rfl⟩) hS hA hG hK hP hD [0, 1, 4] rfl rfl rfl rfl rfl ⟨Nat.zero_le _, Nat.zero_le _⟩ 6 0 rfl rfl rfl rfl hl.1 rfl (Nat.le_of_ble_eq_true rfl) dX6_goTo_32 (fun H locs hP hD hS => ?_)
      refine lv_aload_n hx hb dX6_goTo_35 rfl (lv_at hl 1 rfl) ?_
      refine lv_iload_n hx hb dX6_goTo_36 rfl (lv_at hl 2 rfl) ?_
      obtain ⟨r37, hr37, hF⟩ := opb hF
      refine kVV (As := [.int x1]) (rest := []) (ws' := (wd_X6_goTo cI a_t a_z a_history a_text a_left a_other a_smooth a_weights a_signs a_worked r32.1 c_length v1 c_codes c_read c_isOpen c_hash r32.2 r37.1 r37.2 c_z)) ⟨hx, hb, hml, hown, hts⟩ (c_X6_layRank l D cI a_t a_z a_history a_text a_left a_other a_smooth a_weights a_signs a_worked H.size r32.1 c_length v1 c_codes c_read c_isOpen c_hash r27.2.1 r27.2.2 c_z x1 r37 hr37) (cwV 1 hts mw_X6_103 rfl rfl rfl hd_X6_layRank ⟨Nat.le_of_ble_eq_true rfl, Nat.le_of_ble_eq_true rfl⟩) hS hA hG hK hP hD [0, 2, 3, 4] rfl rfl rfl rfl rfl ⟨Nat.zero_le _, Nat.zero_le _⟩ 6 0 rfl rfl rfl rfl hl.1 rfl (Nat.le_of_ble_eq_true rfl) dX6_goTo_37 (fun H locs hP hD hS => ?_)
      refine lv_aload_n hx hb dX6_goTo_40 rfl (lv_at hl 1 rfl) ?_
      obtain ⟨r41, hr41, hF⟩ := opb hF
      refine kVI (As := []) (rest := []) (ws' := (wd_X6_goTo cI a_t a_z a_history a_text a_left a_other a_smooth a_weights a_signs a_worked r32.1 c_length v1 c_codes c_read c_isOpen c_hash r32.2 r37.1 r37.2 r41.2)) ⟨hx, hb, hml, hown, hts⟩ (c_X6_goes l D cI a_t a_z a_history a_text a_left a_other a_smooth a_weights a_signs a_worked H.size r32.1 c_length v1 c_codes c_read c_isOpen c_hash r37.2 c_z  r41 hr41) (cwV 0 hts mw_X6_107 rfl rfl rfl hd_X6_goes ⟨Nat.le_of_ble_eq_true rfl, Nat.le_of_ble_eq_true rfl⟩) hS hA hG hK hP hD [0, 3, 4] rfl rfl rfl rfl rfl ⟨Nat.zero_le _, Nat.zero_le _⟩ 6 0 rfl rfl rfl rfl hl.1 rfl (Nat.le_of_ble_eq_true rfl) dX6_goTo_41 (fun H locs hP hD hS => ?_)
      refine lv_istore_n (lv' := [(3, .int r41.1), (2, .int r27.1), (0, .ref a_t), (1, .int x1)]) hx hb dX6_goTo_44 rfl hl (by decide) rfl (fun ls hl => ?_)
      refine lv_iload_n hx hb dX6_goTo_45 rfl (lv_at hl 1 rfl) ?_
      have ho := Option.some.inj hF
      exact hret H locs ls 46 r27.1 _ hP hS (by rw [← ho]) (by rw [← ho]) dX6_goTo_46
    · replace hF := (if_neg k21).symm.trans hF
      refine lv_iconst (v := 0) hx hb dX6_goTo_24 (by decide) ?_
      have ho := Option.some.inj hF
      exact hret H locs ls 25 (0 : Int32) _ hP hS (by rw [← ho]) (by rw [← ho]) dX6_goTo_25
  unfold F_X6_goTo at hF
  have hP : va_P D vwCl (wd_X6_goTo cI a_t a_z a_history a_text a_left a_other a_smooth a_weights a_signs a_worked c_states c_length c_thrown c_codes c_read c_isOpen c_hash c_history c_left c_other c_z) s.heap := hP
  obtain ⟨H, hH⟩ : ∃ H, H = s.heap := ⟨_, rfl⟩
  rw [← hH]
  rw [← hH] at hP
  obtain ⟨locs, hlo⟩ : ∃ z : List Loc, z = [] := ⟨_, rfl⟩
  rw [← hlo]
  have hS : va_S A s.heap H locs := by rw [hH, hlo]; exact hS
  refine lv_aload_n hx hb dX6_goTo_0 rfl (lv_at hl 0 rfl) ?_
  refine lv_aload_n hx hb dX6_goTo_1 rfl (lv_at hl 0 rfl) ?_
  refine lv_iload_n hx hb dX6_goTo_2 rfl (lv_at hl 1 rfl) ?_
  obtain ⟨r3, hr3, hF⟩ := opb hF
  refine kVI (As := [.int x1]) (rest := [.ref a_t]) (ws' := (wd_X6_goTo cI a_t a_z a_history a_text a_left a_other a_smooth a_weights a_signs a_worked c_states c_length c_thrown c_codes c_read c_isOpen c_hash c_history r3.2 c_other c_z)) ⟨hx, hb, hml, hown, hts⟩ (c_X6_isRank l D cI a_t a_z a_history a_text a_left a_other a_smooth a_weights a_signs a_worked H.size c_states c_length c_thrown c_codes c_read c_isOpen c_hash c_left c_z x1 r3 hr3) (cwV 1 hts mw_X6_93 rfl rfl rfl hd_X6_isRank ⟨Nat.le_of_ble_eq_true rfl, Nat.le_of_ble_eq_true rfl⟩) hS hA hG hK hP hD [0, 2, 4] rfl rfl rfl rfl rfl ⟨Nat.zero_le _, Nat.zero_le _⟩ 6 0 rfl rfl rfl rfl hl.1 rfl (Nat.le_of_ble_eq_true rfl) dX6_goTo_3 (fun H locs hP hD hS => ?_)
  refine lv_if_eq (tgt := 13) hx hb dX6_goTo_6 (by decide) (fun k6 => ?_) (fun k6 => ?_)
  · (try simp only [if_pos k6] at hF)
    refine lv_iconst (v := 1) hx hb dX6_goTo_13 (by decide) ?_
    exact K14 c_states c_thrown c_history r3.2 c_other c_z (1 : Int32) H locs ls hP hD hS (lv_sub hl [0, 1] rfl) hF
  · (try simp only [if_neg k6] at hF)
    refine lv_iconst (v := 0) hx hb dX6_goTo_9 (by decide) ?_
    refine lv_goto (tgt := 14) hx hb dX6_goTo_10 (by decide) ?_
    exact K14 c_states c_thrown c_history r3.2 c_other c_z (0 : Int32) H locs ls hP hD hS (lv_sub hl [0, 1] rfl) hF
abbrev wd_X6_jump (cI : ClassId) (a_t a_z a_history a_text a_left a_other a_smooth a_weights a_signs a_worked : Nat) (c_states : Int32) (c_length : Int32) (c_thrown : Int32) (c_codes : Int32) (c_read : Int32) (c_isOpen : Int32) (c_hash : Int64) (c_history : Nat → Int32) (c_left : Nat → Int32) (c_other : Nat → Int32) (c_z : Nat → Int32) : va_W := [(a_t, .inr (6, [.ref a_z, .int c_states, .ref a_history, .int c_length, .ref a_text, .int c_thrown, .ref a_left, .ref a_other, .ref a_smooth, .ref a_weights, .int c_codes, .ref a_signs, .int c_read, .int c_isOpen, .ref a_worked, .long c_hash])), (a_history, .inl (cI, 78, .inl c_history)), (a_left, .inl (cI, 6, .inl c_left)), (a_other, .inl (cI, 11, .inl c_other)), (a_z, .inl (cI, 13, .inl c_z))]
def rm_X6_jump : Room := { frames := 6, cells := 0, slots := 0, locals := 131 }
set_option maxHeartbeats 4000000 in
set_option maxRecDepth 100000 in
theorem c_X6_jump (l : Launch) (D : va_G) (cI : ClassId) (a_t a_z a_history a_text a_left a_other a_smooth a_weights a_signs a_worked : Nat) (sz : Nat) (c_states : Int32) (c_length : Int32) (c_thrown : Int32) (c_codes : Int32) (c_read : Int32) (c_isOpen : Int32) (c_hash : Int64) (c_history : Nat → Int32) (c_left : Nat → Int32) (c_other : Nat → Int32) (c_z : Nat → Int32) (x1 : Int32) (o : Int32 × Int32 × Int32 × (Nat → Int32) × (Nat → Int32) × (Nat → Int32) × (Nat → Int32)) (hF : F_X6_jump c_states c_thrown c_history c_left c_other c_z x1 = some o) : Met l yX6_jump (Cond.code yX6_jump cX6_jump 5 (some .int) :: WL) rm_X6_jump (preM D [(cI, .int)] (wd_X6_jump cI a_t a_z a_history a_text a_left a_other a_smooth a_weights a_signs a_worked c_states c_length c_thrown c_codes c_read c_isOpen c_hash c_history c_left c_other c_z) sz [.ref a_t, .int x1]) (postI D o.1 (wd_X6_jump cI a_t a_z a_history a_text a_left a_other a_smooth a_weights a_signs a_worked o.2.1 c_length o.2.2.1 c_codes c_read c_isOpen c_hash o.2.2.2.1 o.2.2.2.2.1 o.2.2.2.2.2.1 o.2.2.2.2.2.2) (wd_X6_jump cI a_t a_z a_history a_text a_left a_other a_smooth a_weights a_signs a_worked c_states c_length c_thrown c_codes c_read c_isOpen c_hash c_history c_left c_other c_z) sz) 0 0 (va_A (wd_X6_jump cI a_t a_z a_history a_text a_left a_other a_smooth a_weights a_signs a_worked c_states c_length c_thrown c_codes c_read c_isOpen c_hash c_history c_left c_other c_z) sz) := by
  refine mofI (by decide +kernel) (Nat.le_of_ble_eq_true rfl) ?_
  intro p e s m args below meth c Q A ls hx hb hml hown hts hK hP hD hS hA hG hl hret hsz0
  have hl : lv_has ls 5 [(0, .ref a_t), (1, .int x1)] := hl
  have K31 : ∀ (c_states : Int32) (c_thrown : Int32) (c_history : Nat → Int32) (c_left : Nat → Int32) (c_other : Nat → Int32) (c_z : Nat → Int32) (x2 : Int64) (v1 : Int32)  (H : Heap) (locs : List Loc) (ls : Array Slot), va_P D vwCl (wd_X6_jump cI a_t a_z a_history a_text a_left a_other a_smooth a_weights a_signs a_worked c_states c_length c_thrown c_codes c_read c_isOpen c_hash c_history c_left c_other c_z) H → va_D A (wd_X6_jump cI a_t a_z a_history a_text a_left a_other a_smooth a_weights a_signs a_worked c_states c_length c_thrown c_codes c_read c_isOpen c_hash c_history c_left c_other c_z) → va_S A s.heap H locs → lv_has ls 5 [(0, .ref a_t), (2, .long x2)] → F_X6_jump_J31 x1 c_states c_thrown c_history c_left c_other c_z x2 v1 = some o → W p l e rm_X6_jump s m args below meth c H locs 0 0 Q (F0 m 31 ls [.int v1, .ref a_t]) := by
    intro c_states c_thrown c_history c_left c_other c_z x2 v1 H locs ls hP hD hS hl hF
    unfold F_X6_jump_J31 at hF
    refine put_X6_37 hx hb hts hown hK hP hD hS 0 rfl rfl rfl (Nat.le_of_ble_eq_true rfl) dX6_jump_31 (fun H locs hP hD hS => ?_)
    have hP : va_P D vwCl (wd_X6_jump cI a_t a_z a_history a_text a_left a_other a_smooth a_weights a_signs a_worked c_states c_length v1 c_codes c_read c_isOpen c_hash c_history c_left c_other c_z) H := hP
    have hD : va_D A (wd_X6_jump cI a_t a_z a_history a_text a_left a_other a_smooth a_weights a_signs a_worked c_states c_length v1 c_codes c_read c_isOpen c_hash c_history c_left c_other c_z) := hD
    refine lv_aload_n hx hb dX6_jump_34 rfl (lv_at hl 0 rfl) ?_
    refine get_X6_37 hx hb hts hown hK hP 0 rfl rfl dX6_jump_35 ?_
    refine lv_if_le (tgt := 43) hx hb dX6_jump_38 (by decide) (fun k38 => ?_) (fun k38 => ?_)
    · replace hF := (if_pos k38).symm.trans hF
      refine lv_aload_n hx hb dX6_jump_43 rfl (lv_at hl 0 rfl) ?_
      obtain ⟨r44, hr44, hF⟩ := opb hF
      refine kVV (As := []) (rest := []) (ws' := (wd_X6_jump cI a_t a_z a_history a_text a_left a_other a_smooth a_weights a_signs a_worked r44.1 c_length v1 c_codes c_read c_isOpen c_hash r44.2 c_left c_other c_z)) ⟨hx, hb, hml, hown, hts⟩ (c_X6_save l D cI a_t a_z a_history a_text a_left a_other a_smooth a_weights a_signs a_worked H.size c_states c_length v1 c_codes c_read c_isOpen c_hash c_history c_z  r44 hr44) (cwV 0 hts mw_X6_100 rfl rfl rfl hd_X6_save ⟨Nat.le_of_ble_eq_true rfl, Nat.le_of_ble_eq_true rfl⟩) hS hA hG hK hP hD [0, 1, 4] rfl rfl rfl rfl rfl ⟨Nat.zero_le _, Nat.zero_le _⟩ 6 0 rfl rfl rfl rfl hl.1 rfl (Nat.le_of_ble_eq_true rfl) dX6_jump_44 (fun H locs hP hD hS => ?_)
      refine lv_aload_n hx hb dX6_jump_47 rfl (lv_at hl 0 rfl) ?_
      refine lv_lload_n hx hb dX6_jump_48 rfl (lv_at hl 1 rfl) ?_
      refine lv_l2i hx hb dX6_jump_49 rfl ?_
      obtain ⟨r50, hr50, hF⟩ := opb hF
      refine kVV (As := [.int ((x2).toInt32)]) (rest := []) (ws' := (wd_X6_jump cI a_t a_z a_history a_text a_left a_other a_smooth a_weights a_signs a_worked r44.1 c_length v1 c_codes c_read c_isOpen c_hash r44.2 r50.1 r50.2 c_z)) ⟨hx, hb, hml, hown, hts⟩ (c_X6_layRank l D cI a_t a_z a_history a_text a_left a_other a_smooth a_weights a_signs a_worked H.size r44.1 c_length v1 c_codes c_read c_isOpen c_hash c_left c_other c_z ((x2).toInt32) r50 hr50) (cwV 1 hts mw_X6_103 rfl rfl rfl hd_X6_layRank ⟨Nat.le_of_ble_eq_true rfl, Nat.le_of_ble_eq_true rfl⟩) hS hA hG hK hP hD [0, 2, 3, 4] rfl rfl rfl rfl rfl ⟨Nat.zero_le _, Nat.zero_le _⟩ 6 0 rfl rfl rfl rfl hl.1 rfl (Nat.le_of_ble_eq_true rfl) dX6_jump_50 (fun H locs hP hD hS => ?_)
      refine lv_aload_n hx hb dX6_jump_53 rfl (lv_at hl 0 rfl) ?_
      obtain ⟨r54, hr54, hF⟩ := opb hF
      refine kVI (As := []) (rest := []) (ws' := (wd_X6_jump cI a_t a_z a_history a_text a_left a_other a_smooth a_weights a_signs a_worked r44.1 c_length v1 c_codes c_read c_isOpen c_hash r44.2 r50.1 r50.2 r54.2)) ⟨hx, hb, hml, hown, hts⟩ (c_X6_goes l D cI a_t a_z a_history a_text a_left a_other a_smooth a_weights a_signs a_worked H.size r44.1 c_length v1 c_codes c_read c_isOpen c_hash r50.2 c_z  r54 hr54) (cwV 0 hts mw_X6_107 rfl rfl rfl hd_X6_goes ⟨Nat.le_of_ble_eq_true rfl, Nat.le_of_ble_eq_true rfl⟩) hS hA hG hK hP hD [0, 3, 4] rfl rfl rfl rfl rfl ⟨Nat.zero_le _, Nat.zero_le _⟩ 6 0 rfl rfl rfl rfl hl.1 rfl (Nat.le_of_ble_eq_true rfl) dX6_jump_54 (fun H locs hP hD hS => ?_)
      refine lv_istore (lv' := [(4, .int r54.1), (0, .ref a_t), (2, .long x2)]) hx hb dX6_jump_57 hl (by decide) rfl (fun ls hl => ?_)
      refine lv_lload_n hx hb dX6_jump_59 rfl (lv_at hl 2 rfl) ?_
      refine lv_l2i hx hb dX6_jump_60 rfl ?_
      have ho := Option.some.inj hF
      exact hret H locs ls 61 ((x2).toInt32) _ hP hS (by rw [← ho]) (by rw [← ho]) dX6_jump_61
    · replace hF := (if_neg k38).symm.trans hF
      refine lv_iconst (v := 0) hx hb dX6_jump_41 (by decide) ?_
      have ho := Option.some.inj hF
      exact hret H locs ls 42 (0 : Int32) _ hP hS (by rw [← ho]) (by rw [← ho]) dX6_jump_42
  unfold F_X6_jump at hF
  have hP : va_P D vwCl (wd_X6_jump cI a_t a_z a_history a_text a_left a_other a_smooth a_weights a_signs a_worked c_states c_length c_thrown c_codes c_read c_isOpen c_hash c_history c_left c_other c_z) s.heap := hP
  obtain ⟨H, hH⟩ : ∃ H, H = s.heap := ⟨_, rfl⟩
  rw [← hH]
  rw [← hH] at hP
  obtain ⟨locs, hlo⟩ : ∃ z : List Loc, z = [] := ⟨_, rfl⟩
  rw [← hlo]
  have hS : va_S A s.heap H locs := by rw [hH, hlo]; exact hS
  refine lv_aload_n hx hb dX6_jump_0 rfl (lv_at hl 0 rfl) ?_
  obtain ⟨r1, hr1, hF⟩ := opb hF
  refine kVI (As := []) (rest := []) (ws' := (wd_X6_jump cI a_t a_z a_history a_text a_left a_other a_smooth a_weights a_signs a_worked c_states c_length c_thrown c_codes c_read c_isOpen c_hash c_history r1.2.1 r1.2.2 c_z)) ⟨hx, hb, hml, hown, hts⟩ (c_X6_rankNow l D cI a_t a_z a_history a_text a_left a_other a_smooth a_weights a_signs a_worked H.size c_states c_length c_thrown c_codes c_read c_isOpen c_hash c_left c_other c_z  r1 hr1) (cwV 0 hts mw_X6_97 rfl rfl rfl hd_X6_rankNow ⟨Nat.le_of_ble_eq_true rfl, Nat.le_of_ble_eq_true rfl⟩) hS hA hG hK hP hD [0, 2, 3, 4] rfl rfl rfl rfl rfl ⟨Nat.zero_le _, Nat.zero_le _⟩ 6 0 rfl rfl rfl rfl hl.1 rfl (Nat.le_of_ble_eq_true rfl) dX6_jump_1 (fun H locs hP hD hS => ?_)
  refine lv_i2l hx hb dX6_jump_4 rfl ?_
  refine lv_iload_n hx hb dX6_jump_5 rfl (lv_at hl 1 rfl) ?_
  refine lv_i2l hx hb dX6_jump_6 rfl ?_
  refine lv_ladd hx hb dX6_jump_7 ?_
  refine lv_lstore_n (lv' := [(2, .long (((r1.1).toInt64) + ((x1).toInt64))), (0, .ref a_t), (1, .int x1)]) hx hb dX6_jump_8 rfl hl (by decide) rfl (fun ls hl => ?_)
  refine lv_aload_n hx hb dX6_jump_9 rfl (lv_at hl 1 rfl) ?_
  refine lv_lload_n hx hb dX6_jump_10 rfl (lv_at hl 0 rfl) ?_
  refine lv_lconst (v := 0) hx hb dX6_jump_11 (by decide) ?_
  refine W.lcmp hx hb dX6_jump_12 ?_
  refine lv_if_lt (tgt := 30) hx hb dX6_jump_13 (by decide) (fun k13 => ?_) (fun k13 => ?_)
  · replace hF := (if_pos k13).symm.trans hF
    refine lv_iconst (v := 1) hx hb dX6_jump_30 (by decide) ?_
    exact K31 c_states c_thrown c_history r1.2.1 r1.2.2 c_z (((r1.1).toInt64) + ((x1).toInt64)) (1 : Int32) H locs ls hP hD hS (lv_sub hl [1, 0] rfl) hF
  · replace hF := (if_neg k13).symm.trans hF
    refine lv_lload_n hx hb dX6_jump_16 rfl (lv_at hl 0 rfl) ?_
    refine lv_aload_n hx hb dX6_jump_17 rfl (lv_at hl 1 rfl) ?_
    obtain ⟨r18, hr18, hF⟩ := opb hF
    refine kVI (As := []) (rest := [.long (((r1.1).toInt64) + ((x1).toInt64)), .ref a_t]) (ws' := (wd_X6_jump cI a_t a_z a_history a_text a_left a_other a_smooth a_weights a_signs a_worked c_states c_length c_thrown c_codes c_read c_isOpen c_hash c_history r18.2 r1.2.2 c_z)) ⟨hx, hb, hml, hown, hts⟩ (c_X6_allRows l D cI a_t a_z a_history a_text a_left a_other a_smooth a_weights a_signs a_worked H.size c_states c_length c_thrown c_codes c_read c_isOpen c_hash r1.2.1 c_z  r18 hr18) (cwV 0 hts mw_X6_71 rfl rfl rfl hd_X6_allRows ⟨Nat.le_of_ble_eq_true rfl, Nat.le_of_ble_eq_true rfl⟩) hS hA hG hK hP hD [0, 2, 4] rfl rfl rfl rfl rfl ⟨Nat.zero_le _, Nat.zero_le _⟩ 6 0 rfl rfl rfl rfl hl.1 rfl (Nat.le_of_ble_eq_true rfl) dX6_jump_18 (fun H locs hP hD hS => ?_)
    refine lv_i2l hx hb dX6_jump_21 rfl ?_
    refine W.lcmp hx hb dX6_jump_22 ?_
    refine lv_if_ge (tgt := 30) hx hb dX6_jump_23 (by decide) (fun k23 => ?_) (fun k23 => ?_)
    · (try simp only [if_pos k23] at hF)
      refine lv_iconst (v := 1) hx hb dX6_jump_30 (by decide) ?_
      exact K31 c_states c_thrown c_history r18.2 r1.2.2 c_z (((r1.1).toInt64) + ((x1).toInt64)) (1 : Int32) H locs ls hP hD hS (lv_sub hl [1, 0] rfl) hF
    · (try simp only [if_neg k23] at hF)
      refine lv_iconst (v := 0) hx hb dX6_jump_26 (by decide) ?_
      refine lv_goto (tgt := 31) hx hb dX6_jump_27 (by decide) ?_
      exact K31 c_states c_thrown c_history r18.2 r1.2.2 c_z (((r1.1).toInt64) + ((x1).toInt64)) (0 : Int32) H locs ls hP hD hS (lv_sub hl [1, 0] rfl) hF
abbrev wd_X6_goesBy (cI : ClassId) (a_t a_z a_history a_text a_left a_other a_smooth a_weights a_signs a_worked : Nat) (c_states : Int32) (c_length : Int32) (c_thrown : Int32) (c_codes : Int32) (c_read : Int32) (c_isOpen : Int32) (c_hash : Int64) (c_history : Nat → Int32) (c_left : Nat → Int32) (c_other : Nat → Int32) (c_z : Nat → Int32) : va_W := [(a_t, .inr (6, [.ref a_z, .int c_states, .ref a_history, .int c_length, .ref a_text, .int c_thrown, .ref a_left, .ref a_other, .ref a_smooth, .ref a_weights, .int c_codes, .ref a_signs, .int c_read, .int c_isOpen, .ref a_worked, .long c_hash])), (a_history, .inl (cI, 78, .inl c_history)), (a_left, .inl (cI, 6, .inl c_left)), (a_other, .inl (cI, 11, .inl c_other)), (a_z, .inl (cI, 13, .inl c_z))]
def rm_X6_goesBy : Room := { frames := 6, cells := 0, slots := 0, locals := 131 }
set_option maxHeartbeats 4000000 in
set_option maxRecDepth 100000 in
theorem c_X6_goesBy (l : Launch) (D : va_G) (cI : ClassId) (a_t a_z a_history a_text a_left a_other a_smooth a_weights a_signs a_worked : Nat) (sz : Nat) (c_states : Int32) (c_length : Int32) (c_thrown : Int32) (c_codes : Int32) (c_read : Int32) (c_isOpen : Int32) (c_hash : Int64) (c_history : Nat → Int32) (c_left : Nat → Int32) (c_other : Nat → Int32) (c_z : Nat → Int32) (x1 : Int32) (o : Int32 × Int32 × Int32 × (Nat → Int32) × (Nat → Int32) × (Nat → Int32) × (Nat → Int32)) (hF : F_X6_goesBy c_states c_thrown c_history c_left c_other c_z x1 = some o) : Met l yX6_goesBy (Cond.code yX6_goesBy cX6_goesBy 4 (some .int) :: WL) rm_X6_goesBy (preM D [(cI, .int)] (wd_X6_goesBy cI a_t a_z a_history a_text a_left a_other a_smooth a_weights a_signs a_worked c_states c_length c_thrown c_codes c_read c_isOpen c_hash c_history c_left c_other c_z) sz [.ref a_t, .int x1]) (postI D o.1 (wd_X6_goesBy cI a_t a_z a_history a_text a_left a_other a_smooth a_weights a_signs a_worked o.2.1 c_length o.2.2.1 c_codes c_read c_isOpen c_hash o.2.2.2.1 o.2.2.2.2.1 o.2.2.2.2.2.1 o.2.2.2.2.2.2) (wd_X6_goesBy cI a_t a_z a_history a_text a_left a_other a_smooth a_weights a_signs a_worked c_states c_length c_thrown c_codes c_read c_isOpen c_hash c_history c_left c_other c_z) sz) 0 0 (va_A (wd_X6_goesBy cI a_t a_z a_history a_text a_left a_other a_smooth a_weights a_signs a_worked c_states c_length c_thrown c_codes c_read c_isOpen c_hash c_history c_left c_other c_z) sz) := by
  refine mofI (by decide +kernel) (Nat.le_of_ble_eq_true rfl) ?_
  intro p e s m args below meth c Q A ls hx hb hml hown hts hK hP hD hS hA hG hl hret hsz0
  have hl : lv_has ls 4 [(0, .ref a_t), (1, .int x1)] := hl
  unfold F_X6_goesBy at hF
  have hP : va_P D vwCl (wd_X6_goesBy cI a_t a_z a_history a_text a_left a_other a_smooth a_weights a_signs a_worked c_states c_length c_thrown c_codes c_read c_isOpen c_hash c_history c_left c_other c_z) s.heap := hP
  obtain ⟨H, hH⟩ : ∃ H, H = s.heap := ⟨_, rfl⟩
  rw [← hH]
  rw [← hH] at hP
  obtain ⟨locs, hlo⟩ : ∃ z : List Loc, z = [] := ⟨_, rfl⟩
  rw [← hlo]
  have hS : va_S A s.heap H locs := by rw [hH, hlo]; exact hS
  refine lv_aload_n hx hb dX6_goesBy_0 rfl (lv_at hl 0 rfl) ?_
  refine lv_iconst (v := 0) hx hb dX6_goesBy_1 (by decide) ?_
  refine put_X6_37 hx hb hts hown hK hP hD hS 0 rfl rfl rfl (Nat.le_of_ble_eq_true rfl) dX6_goesBy_2 (fun H locs hP hD hS => ?_)
  have hP : va_P D vwCl (wd_X6_goesBy cI a_t a_z a_history a_text a_left a_other a_smooth a_weights a_signs a_worked c_states c_length (0 : Int32) c_codes c_read c_isOpen c_hash c_history c_left c_other c_z) H := hP
  have hD : va_D A (wd_X6_goesBy cI a_t a_z a_history a_text a_left a_other a_smooth a_weights a_signs a_worked c_states c_length (0 : Int32) c_codes c_read c_isOpen c_hash c_history c_left c_other c_z) := hD
  refine lv_aload_n hx hb dX6_goesBy_5 rfl (lv_at hl 0 rfl) ?_
  obtain ⟨r6, hr6, hF⟩ := opb hF
  refine kVV (As := []) (rest := []) (ws' := (wd_X6_goesBy cI a_t a_z a_history a_text a_left a_other a_smooth a_weights a_signs a_worked r6.1 c_length (0 : Int32) c_codes c_read c_isOpen c_hash r6.2 c_left c_other c_z)) ⟨hx, hb, hml, hown, hts⟩ (c_X6_save l D cI a_t a_z a_history a_text a_left a_other a_smooth a_weights a_signs a_worked H.size c_states c_length (0 : Int32) c_codes c_read c_isOpen c_hash c_history c_z  r6 hr6) (cwV 0 hts mw_X6_100 rfl rfl rfl hd_X6_save ⟨Nat.le_of_ble_eq_true rfl, Nat.le_of_ble_eq_true rfl⟩) hS hA hG hK hP hD [0, 1, 4] rfl rfl rfl rfl rfl ⟨Nat.zero_le _, Nat.zero_le _⟩ 6 0 rfl rfl rfl rfl hl.1 rfl (Nat.le_of_ble_eq_true rfl) dX6_goesBy_6 (fun H locs hP hD hS => ?_)
  refine lv_aload_n hx hb dX6_goesBy_9 rfl (lv_at hl 0 rfl) ?_
  obtain ⟨r10, hr10, hF⟩ := opb hF
  refine kVI (As := []) (rest := []) (ws' := (wd_X6_goesBy cI a_t a_z a_history a_text a_left a_other a_smooth a_weights a_signs a_worked r6.1 c_length (0 : Int32) c_codes c_read c_isOpen c_hash r6.2 r10.2 c_other c_z)) ⟨hx, hb, hml, hown, hts⟩ (c_X6_allRows l D cI a_t a_z a_history a_text a_left a_other a_smooth a_weights a_signs a_worked H.size r6.1 c_length (0 : Int32) c_codes c_read c_isOpen c_hash c_left c_z  r10 hr10) (cwV 0 hts mw_X6_71 rfl rfl rfl hd_X6_allRows ⟨Nat.le_of_ble_eq_true rfl, Nat.le_of_ble_eq_true rfl⟩) hS hA hG hK hP hD [0, 2, 4] rfl rfl rfl rfl rfl ⟨Nat.zero_le _, Nat.zero_le _⟩ 6 0 rfl rfl rfl rfl hl.1 rfl (Nat.le_of_ble_eq_true rfl) dX6_goesBy_10 (fun H locs hP hD hS => ?_)
  refine lv_istore_n (lv' := [(2, .int r10.1), (0, .ref a_t), (1, .int x1)]) hx hb dX6_goesBy_13 rfl hl (by decide) rfl (fun ls hl => ?_)
  refine lv_aload_n hx hb dX6_goesBy_14 rfl (lv_at hl 1 rfl) ?_
  obtain ⟨r15, hr15, hF⟩ := opb hF
  refine kVI (As := []) (rest := []) (ws' := (wd_X6_goesBy cI a_t a_z a_history a_text a_left a_other a_smooth a_weights a_signs a_worked r6.1 c_length (0 : Int32) c_codes c_read c_isOpen c_hash r6.2 r15.2.1 r15.2.2 c_z)) ⟨hx, hb, hml, hown, hts⟩ (c_X6_rankNow l D cI a_t a_z a_history a_text a_left a_other a_smooth a_weights a_signs a_worked H.size r6.1 c_length (0 : Int32) c_codes c_read c_isOpen c_hash r10.2 c_other c_z  r15 hr15) (cwV 0 hts mw_X6_97 rfl rfl rfl hd_X6_rankNow ⟨Nat.le_of_ble_eq_true rfl, Nat.le_of_ble_eq_true rfl⟩) hS hA hG hK hP hD [0, 2, 3, 4] rfl rfl rfl rfl rfl ⟨Nat.zero_le _, Nat.zero_le _⟩ 6 0 rfl rfl rfl rfl hl.1 rfl (Nat.le_of_ble_eq_true rfl) dX6_goesBy_15 (fun H locs hP hD hS => ?_)
  refine lv_iload_n hx hb dX6_goesBy_18 rfl (lv_at hl 2 rfl) ?_
  refine lv_iadd hx hb dX6_goesBy_19 ?_
  refine lv_iload_n hx hb dX6_goesBy_20 rfl (lv_at hl 0 rfl) ?_
  refine lv_iadd hx hb dX6_goesBy_21 ?_
  refine lv_iload_n hx hb dX6_goesBy_22 rfl (lv_at hl 0 rfl) ?_
  obtain ⟨g23, hF⟩ := gdb hF
  refine lv_irem hx hb dX6_goesBy_23 (nzb g23) ?_
  refine lv_istore_n (lv' := [(3, .int (((r15.1 + x1) + r10.1) - ((r15.1 + x1) + r10.1) / r10.1 * r10.1)), (2, .int r10.1), (0, .ref a_t), (1, .int x1)]) hx hb dX6_goesBy_24 rfl hl (by decide) rfl (fun ls hl => ?_)
  refine lv_aload_n hx hb dX6_goesBy_25 rfl (lv_at hl 2 rfl) ?_
  refine lv_iload_n hx hb dX6_goesBy_26 rfl (lv_at hl 0 rfl) ?_
  obtain ⟨r27, hr27, hF⟩ := opb hF
  refine kVV (As := [.int (((r15.1 + x1) + r10.1) - ((r15.1 + x1) + r10.1) / r10.1 * r10.1)]) (rest := []) (ws' := (wd_X6_goesBy cI a_t a_z a_history a_text a_left a_other a_smooth a_weights a_signs a_worked r6.1 c_length (0 : Int32) c_codes c_read c_isOpen c_hash r6.2 r27.1 r27.2 c_z)) ⟨hx, hb, hml, hown, hts⟩ (c_X6_layRank l D cI a_t a_z a_history a_text a_left a_other a_smooth a_weights a_signs a_worked H.size r6.1 c_length (0 : Int32) c_codes c_read c_isOpen c_hash r15.2.1 r15.2.2 c_z (((r15.1 + x1) + r10.1) - ((r15.1 + x1) + r10.1) / r10.1 * r10.1) r27 hr27) (cwV 1 hts mw_X6_103 rfl rfl rfl hd_X6_layRank ⟨Nat.le_of_ble_eq_true rfl, Nat.le_of_ble_eq_true rfl⟩) hS hA hG hK hP hD [0, 2, 3, 4] rfl rfl rfl rfl rfl ⟨Nat.zero_le _, Nat.zero_le _⟩ 6 0 rfl rfl rfl rfl hl.1 rfl (Nat.le_of_ble_eq_true rfl) dX6_goesBy_27 (fun H locs hP hD hS => ?_)
  refine lv_aload_n hx hb dX6_goesBy_30 rfl (lv_at hl 2 rfl) ?_
  obtain ⟨r31, hr31, hF⟩ := opb hF
  refine kVI (As := []) (rest := []) (ws' := (wd_X6_goesBy cI a_t a_z a_history a_text a_left a_other a_smooth a_weights a_signs a_worked r6.1 c_length (0 : Int32) c_codes c_read c_isOpen c_hash r6.2 r27.1 r27.2 r31.2)) ⟨hx, hb, hml, hown, hts⟩ (c_X6_goes l D cI a_t a_z a_history a_text a_left a_other a_smooth a_weights a_signs a_worked H.size r6.1 c_length (0 : Int32) c_codes c_read c_isOpen c_hash r27.2 c_z  r31 hr31) (cwV 0 hts mw_X6_107 rfl rfl rfl hd_X6_goes ⟨Nat.le_of_ble_eq_true rfl, Nat.le_of_ble_eq_true rfl⟩) hS hA hG hK hP hD [0, 3, 4] rfl rfl rfl rfl rfl ⟨Nat.zero_le _, Nat.zero_le _⟩ 6 0 rfl rfl rfl rfl hl.1 rfl (Nat.le_of_ble_eq_true rfl) dX6_goesBy_31 (fun H locs hP hD hS => ?_)
  have ho := Option.some.inj hF
  exact hret H locs ls 34 r31.1 _ hP hS (by rw [← ho]) (by rw [← ho]) dX6_goesBy_34
abbrev wd_X6_next (cI : ClassId) (a_t a_z a_history a_text a_left a_other a_smooth a_weights a_signs a_worked : Nat) (c_states : Int32) (c_length : Int32) (c_thrown : Int32) (c_codes : Int32) (c_read : Int32) (c_isOpen : Int32) (c_hash : Int64) (c_history : Nat → Int32) (c_left : Nat → Int32) (c_other : Nat → Int32) (c_z : Nat → Int32) : va_W := [(a_t, .inr (6, [.ref a_z, .int c_states, .ref a_history, .int c_length, .ref a_text, .int c_thrown, .ref a_left, .ref a_other, .ref a_smooth, .ref a_weights, .int c_codes, .ref a_signs, .int c_read, .int c_isOpen, .ref a_worked, .long c_hash])), (a_history, .inl (cI, 78, .inl c_history)), (a_left, .inl (cI, 6, .inl c_left)), (a_other, .inl (cI, 11, .inl c_other)), (a_z, .inl (cI, 13, .inl c_z))]
def rm_X6_next : Room := { frames := 7, cells := 0, slots := 0, locals := 154 }
set_option maxHeartbeats 4000000 in
set_option maxRecDepth 100000 in
theorem c_X6_next (l : Launch) (D : va_G) (cI : ClassId) (a_t a_z a_history a_text a_left a_other a_smooth a_weights a_signs a_worked : Nat) (sz : Nat) (c_states : Int32) (c_length : Int32) (c_thrown : Int32) (c_codes : Int32) (c_read : Int32) (c_isOpen : Int32) (c_hash : Int64) (c_history : Nat → Int32) (c_left : Nat → Int32) (c_other : Nat → Int32) (c_z : Nat → Int32) (o : Int32 × Int32 × Int32 × (Nat → Int32) × (Nat → Int32) × (Nat → Int32) × (Nat → Int32)) (hF : F_X6_next c_states c_thrown c_history c_left c_other c_z = some o) : Met l yX6_next (Cond.code yX6_next cX6_next 1 (some .int) :: WL) rm_X6_next (preM D [(cI, .int)] (wd_X6_next cI a_t a_z a_history a_text a_left a_other a_smooth a_weights a_signs a_worked c_states c_length c_thrown c_codes c_read c_isOpen c_hash c_history c_left c_other c_z) sz [.ref a_t]) (postI D o.1 (wd_X6_next cI a_t a_z a_history a_text a_left a_other a_smooth a_weights a_signs a_worked o.2.1 c_length o.2.2.1 c_codes c_read c_isOpen c_hash o.2.2.2.1 o.2.2.2.2.1 o.2.2.2.2.2.1 o.2.2.2.2.2.2) (wd_X6_next cI a_t a_z a_history a_text a_left a_other a_smooth a_weights a_signs a_worked c_states c_length c_thrown c_codes c_read c_isOpen c_hash c_history c_left c_other c_z) sz) 0 0 (va_A (wd_X6_next cI a_t a_z a_history a_text a_left a_other a_smooth a_weights a_signs a_worked c_states c_length c_thrown c_codes c_read c_isOpen c_hash c_history c_left c_other c_z) sz) := by
  refine mofI (by decide +kernel) (Nat.le_of_ble_eq_true rfl) ?_
  intro p e s m args below meth c Q A ls hx hb hml hown hts hK hP hD hS hA hG hl hret hsz0
  have hl : lv_has ls 1 [(0, .ref a_t)] := hl
  unfold F_X6_next at hF
  have hP : va_P D vwCl (wd_X6_next cI a_t a_z a_history a_text a_left a_other a_smooth a_weights a_signs a_worked c_states c_length c_thrown c_codes c_read c_isOpen c_hash c_history c_left c_other c_z) s.heap := hP
  obtain ⟨H, hH⟩ : ∃ H, H = s.heap := ⟨_, rfl⟩
  rw [← hH]
  rw [← hH] at hP
  obtain ⟨locs, hlo⟩ : ∃ z : List Loc, z = [] := ⟨_, rfl⟩
  rw [← hlo]
  have hS : va_S A s.heap H locs := by rw [hH, hlo]; exact hS
  refine lv_aload_n hx hb dX6_next_0 rfl (lv_at hl 0 rfl) ?_
  refine lv_iconst (v := 1) hx hb dX6_next_1 (by decide) ?_
  obtain ⟨r2, hr2, hF⟩ := opb hF
  refine kVI (As := [.int (1 : Int32)]) (rest := []) (ws' := (wd_X6_next cI a_t a_z a_history a_text a_left a_other a_smooth a_weights a_signs a_worked r2.2.1 c_length r2.2.2.1 c_codes c_read c_isOpen c_hash r2.2.2.2.1 r2.2.2.2.2.1 r2.2.2.2.2.2.1 r2.2.2.2.2.2.2)) ⟨hx, hb, hml, hown, hts⟩ (c_X6_goesBy l D cI a_t a_z a_history a_text a_left a_other a_smooth a_weights a_signs a_worked H.size c_states c_length c_thrown c_codes c_read c_isOpen c_hash c_history c_left c_other c_z (1 : Int32) r2 hr2) (cwV 1 hts mw_X6_110 rfl rfl rfl hd_X6_goesBy ⟨Nat.le_of_ble_eq_true rfl, Nat.le_of_ble_eq_true rfl⟩) hS hA hG hK hP hD [0, 1, 2, 3, 4] rfl rfl rfl rfl rfl ⟨Nat.zero_le _, Nat.zero_le _⟩ 6 0 rfl rfl rfl rfl hl.1 rfl (Nat.le_of_ble_eq_true rfl) dX6_next_2 (fun H locs hP hD hS => ?_)
  have ho := Option.some.inj hF
  exact hret H locs ls 5 r2.1 _ hP hS (by rw [← ho]) (by rw [← ho]) dX6_next_5
abbrev wd_X6_previous (cI : ClassId) (a_t a_z a_history a_text a_left a_other a_smooth a_weights a_signs a_worked : Nat) (c_states : Int32) (c_length : Int32) (c_thrown : Int32) (c_codes : Int32) (c_read : Int32) (c_isOpen : Int32) (c_hash : Int64) (c_history : Nat → Int32) (c_left : Nat → Int32) (c_other : Nat → Int32) (c_z : Nat → Int32) : va_W := [(a_t, .inr (6, [.ref a_z, .int c_states, .ref a_history, .int c_length, .ref a_text, .int c_thrown, .ref a_left, .ref a_other, .ref a_smooth, .ref a_weights, .int c_codes, .ref a_signs, .int c_read, .int c_isOpen, .ref a_worked, .long c_hash])), (a_history, .inl (cI, 78, .inl c_history)), (a_left, .inl (cI, 6, .inl c_left)), (a_other, .inl (cI, 11, .inl c_other)), (a_z, .inl (cI, 13, .inl c_z))]
def rm_X6_previous : Room := { frames := 7, cells := 0, slots := 0, locals := 154 }
set_option maxHeartbeats 4000000 in
set_option maxRecDepth 100000 in
theorem c_X6_previous (l : Launch) (D : va_G) (cI : ClassId) (a_t a_z a_history a_text a_left a_other a_smooth a_weights a_signs a_worked : Nat) (sz : Nat) (c_states : Int32) (c_length : Int32) (c_thrown : Int32) (c_codes : Int32) (c_read : Int32) (c_isOpen : Int32) (c_hash : Int64) (c_history : Nat → Int32) (c_left : Nat → Int32) (c_other : Nat → Int32) (c_z : Nat → Int32) (o : Int32 × Int32 × Int32 × (Nat → Int32) × (Nat → Int32) × (Nat → Int32) × (Nat → Int32)) (hF : F_X6_previous c_states c_thrown c_history c_left c_other c_z = some o) : Met l yX6_previous (Cond.code yX6_previous cX6_previous 1 (some .int) :: WL) rm_X6_previous (preM D [(cI, .int)] (wd_X6_previous cI a_t a_z a_history a_text a_left a_other a_smooth a_weights a_signs a_worked c_states c_length c_thrown c_codes c_read c_isOpen c_hash c_history c_left c_other c_z) sz [.ref a_t]) (postI D o.1 (wd_X6_previous cI a_t a_z a_history a_text a_left a_other a_smooth a_weights a_signs a_worked o.2.1 c_length o.2.2.1 c_codes c_read c_isOpen c_hash o.2.2.2.1 o.2.2.2.2.1 o.2.2.2.2.2.1 o.2.2.2.2.2.2) (wd_X6_previous cI a_t a_z a_history a_text a_left a_other a_smooth a_weights a_signs a_worked c_states c_length c_thrown c_codes c_read c_isOpen c_hash c_history c_left c_other c_z) sz) 0 0 (va_A (wd_X6_previous cI a_t a_z a_history a_text a_left a_other a_smooth a_weights a_signs a_worked c_states c_length c_thrown c_codes c_read c_isOpen c_hash c_history c_left c_other c_z) sz) := by
  refine mofI (by decide +kernel) (Nat.le_of_ble_eq_true rfl) ?_
  intro p e s m args below meth c Q A ls hx hb hml hown hts hK hP hD hS hA hG hl hret hsz0
  have hl : lv_has ls 1 [(0, .ref a_t)] := hl
  unfold F_X6_previous at hF
  have hP : va_P D vwCl (wd_X6_previous cI a_t a_z a_history a_text a_left a_other a_smooth a_weights a_signs a_worked c_states c_length c_thrown c_codes c_read c_isOpen c_hash c_history c_left c_other c_z) s.heap := hP
  obtain ⟨H, hH⟩ : ∃ H, H = s.heap := ⟨_, rfl⟩
  rw [← hH]
  rw [← hH] at hP
  obtain ⟨locs, hlo⟩ : ∃ z : List Loc, z = [] := ⟨_, rfl⟩
  rw [← hlo]
  have hS : va_S A s.heap H locs := by rw [hH, hlo]; exact hS
  refine lv_aload_n hx hb dX6_previous_0 rfl (lv_at hl 0 rfl) ?_
  refine lv_iconst (v := (-1)) hx hb dX6_previous_1 (by decide) ?_
  obtain ⟨r2, hr2, hF⟩ := opb hF
  refine kVI (As := [.int ((-1) : Int32)]) (rest := []) (ws' := (wd_X6_previous cI a_t a_z a_history a_text a_left a_other a_smooth a_weights a_signs a_worked r2.2.1 c_length r2.2.2.1 c_codes c_read c_isOpen c_hash r2.2.2.2.1 r2.2.2.2.2.1 r2.2.2.2.2.2.1 r2.2.2.2.2.2.2)) ⟨hx, hb, hml, hown, hts⟩ (c_X6_goesBy l D cI a_t a_z a_history a_text a_left a_other a_smooth a_weights a_signs a_worked H.size c_states c_length c_thrown c_codes c_read c_isOpen c_hash c_history c_left c_other c_z ((-1) : Int32) r2 hr2) (cwV 1 hts mw_X6_110 rfl rfl rfl hd_X6_goesBy ⟨Nat.le_of_ble_eq_true rfl, Nat.le_of_ble_eq_true rfl⟩) hS hA hG hK hP hD [0, 1, 2, 3, 4] rfl rfl rfl rfl rfl ⟨Nat.zero_le _, Nat.zero_le _⟩ 6 0 rfl rfl rfl rfl hl.1 rfl (Nat.le_of_ble_eq_true rfl) dX6_previous_2 (fun H locs hP hD hS => ?_)
  have ho := Option.some.inj hF
  exact hret H locs ls 5 r2.1 _ hP hS (by rw [← ho]) (by rw [← ho]) dX6_previous_5
abbrev wd_X6_nextSmooth (cI : ClassId) (a_t a_z a_history a_text a_left a_other a_smooth a_weights a_signs a_worked : Nat) (c_states : Int32) (c_length : Int32) (c_thrown : Int32) (c_codes : Int32) (c_read : Int32) (c_isOpen : Int32) (c_hash : Int64) (c_history : Nat → Int32) (c_left : Nat → Int32) (c_other : Nat → Int32) (c_smooth : Nat → Int32) (c_weights : Nat → Int32) (c_z : Nat → Int32) : va_W := [(a_t, .inr (6, [.ref a_z, .int c_states, .ref a_history, .int c_length, .ref a_text, .int c_thrown, .ref a_left, .ref a_other, .ref a_smooth, .ref a_weights, .int c_codes, .ref a_signs, .int c_read, .int c_isOpen, .ref a_worked, .long c_hash])), (a_history, .inl (cI, 78, .inl c_history)), (a_left, .inl (cI, 6, .inl c_left)), (a_other, .inl (cI, 11, .inl c_other)), (a_smooth, .inl (cI, 4200, .inl c_smooth)), (a_weights, .inl (cI, 6, .inl c_weights)), (a_z, .inl (cI, 13, .inl c_z))]
def rm_X6_nextSmooth : Room := { frames := 6, cells := 0, slots := 0, locals := 131 }
set_option maxHeartbeats 4000000 in
set_option maxRecDepth 100000 in
theorem c_X6_nextSmooth (l : Launch) (D : va_G) (cI : ClassId) (a_t a_z a_history a_text a_left a_other a_smooth a_weights a_signs a_worked : Nat) (sz : Nat) (c_states : Int32) (c_length : Int32) (c_thrown : Int32) (c_codes : Int32) (c_read : Int32) (c_isOpen : Int32) (c_hash : Int64) (c_history : Nat → Int32) (c_left : Nat → Int32) (c_other : Nat → Int32) (c_smooth : Nat → Int32) (c_weights : Nat → Int32) (c_z : Nat → Int32) (o : Int32 × Int32 × Int32 × Int32 × (Nat → Int32) × (Nat → Int32) × (Nat → Int32) × (Nat → Int32) × (Nat → Int32) × (Nat → Int32)) (hF : F_X6_nextSmooth c_states c_thrown c_codes c_history c_left c_other c_smooth c_weights c_z = some o) : Met l yX6_nextSmooth (Cond.code yX6_nextSmooth cX6_nextSmooth 3 (some .int) :: WL) rm_X6_nextSmooth (preM D [(cI, .int)] (wd_X6_nextSmooth cI a_t a_z a_history a_text a_left a_other a_smooth a_weights a_signs a_worked c_states c_length c_thrown c_codes c_read c_isOpen c_hash c_history c_left c_other c_smooth c_weights c_z) sz [.ref a_t]) (postI D o.1 (wd_X6_nextSmooth cI a_t a_z a_history a_text a_left a_other a_smooth a_weights a_signs a_worked o.2.1 c_length o.2.2.1 o.2.2.2.1 c_read c_isOpen c_hash o.2.2.2.2.1 o.2.2.2.2.2.1 o.2.2.2.2.2.2.1 o.2.2.2.2.2.2.2.1 o.2.2.2.2.2.2.2.2.1 o.2.2.2.2.2.2.2.2.2) (wd_X6_nextSmooth cI a_t a_z a_history a_text a_left a_other a_smooth a_weights a_signs a_worked c_states c_length c_thrown c_codes c_read c_isOpen c_hash c_history c_left c_other c_smooth c_weights c_z) sz) 0 0 (va_A (wd_X6_nextSmooth cI a_t a_z a_history a_text a_left a_other a_smooth a_weights a_signs a_worked c_states c_length c_thrown c_codes c_read c_isOpen c_hash c_history c_left c_other c_smooth c_weights c_z) sz) := by
  refine mofI (by decide +kernel) (Nat.le_of_ble_eq_true rfl) ?_
  intro p e s m args below meth c Q A ls hx hb hml hown hts hK hP hD hS hA hG hl hret hsz0
  have hl : lv_has ls 3 [(0, .ref a_t)] := hl
  have K32 : ∀ (c_states : Int32) (c_thrown : Int32) (c_codes : Int32) (c_history : Nat → Int32) (c_left : Nat → Int32) (c_other : Nat → Int32) (c_smooth : Nat → Int32) (c_weights : Nat → Int32) (c_z : Nat → Int32) (x1 : Int32) (v1 : Int32)  (H : Heap) (locs : List Loc) (ls : Array Slot), va_P D vwCl (wd_X6_nextSmooth cI a_t a_z a_history a_text a_left a_other a_smooth a_weights a_signs a_worked c_states c_length c_thrown c_codes c_read c_isOpen c_hash c_history c_left c_other c_smooth c_weights c_z) H → va_D A (wd_X6_nextSmooth cI a_t a_z a_history a_text a_left a_other a_smooth a_weights a_signs a_worked c_states c_length c_thrown c_codes c_read c_isOpen c_hash c_history c_left c_other c_smooth c_weights c_z) → va_S A s.heap H locs → lv_has ls 3 [(0, .ref a_t), (1, .int x1)] → F_X6_nextSmooth_J32 c_states c_thrown c_codes c_history c_left c_other c_smooth c_weights c_z x1 v1 = some o → W p l e rm_X6_nextSmooth s m args below meth c H locs 0 0 Q (F0 m 32 ls [.int v1, .ref a_t]) := by
    intro c_states c_thrown c_codes c_history c_left c_other c_smooth c_weights c_z x1 v1 H locs ls hP hD hS hl hF
    unfold F_X6_nextSmooth_J32 at hF
    refine put_X6_37 hx hb hts hown hK hP hD hS 0 rfl rfl rfl (Nat.le_of_ble_eq_true rfl) dX6_nextSmooth_32 (fun H locs hP hD hS => ?_)
    have hP : va_P D vwCl (wd_X6_nextSmooth cI a_t a_z a_history a_text a_left a_other a_smooth a_weights a_signs a_worked c_states c_length v1 c_codes c_read c_isOpen c_hash c_history c_left c_other c_smooth c_weights c_z) H := hP
    have hD : va_D A (wd_X6_nextSmooth cI a_t a_z a_history a_text a_left a_other a_smooth a_weights a_signs a_worked c_states c_length v1 c_codes c_read c_isOpen c_hash c_history c_left c_other c_smooth c_weights c_z) := hD
    refine lv_aload_n hx hb dX6_nextSmooth_35 rfl (lv_at hl 0 rfl) ?_
    refine get_X6_37 hx hb hts hown hK hP 0 rfl rfl dX6_nextSmooth_36 ?_
    refine lv_if_le (tgt := 44) hx hb dX6_nextSmooth_39 (by decide) (fun k39 => ?_) (fun k39 => ?_)
    · replace hF := (if_pos k39).symm.trans hF
      refine lv_aload_n hx hb dX6_nextSmooth_44 rfl (lv_at hl 0 rfl) ?_
      obtain ⟨r45, hr45, hF⟩ := opb hF
      refine kVV (As := []) (rest := []) (ws' := (wd_X6_nextSmooth cI a_t a_z a_history a_text a_left a_other a_smooth a_weights a_signs a_worked r45.1 c_length v1 c_codes c_read c_isOpen c_hash r45.2 c_left c_other c_smooth c_weights c_z)) ⟨hx, hb, hml, hown, hts⟩ (c_X6_save l D cI a_t a_z a_history a_text a_left a_other a_smooth a_weights a_signs a_worked H.size c_states c_length v1 c_codes c_read c_isOpen c_hash c_history c_z  r45 hr45) (cwV 0 hts mw_X6_100 rfl rfl rfl hd_X6_save ⟨Nat.le_of_ble_eq_true rfl, Nat.le_of_ble_eq_true rfl⟩) hS hA hG hK hP hD [0, 1, 6] rfl rfl rfl rfl rfl ⟨Nat.zero_le _, Nat.zero_le _⟩ 6 0 rfl rfl rfl rfl hl.1 rfl (Nat.le_of_ble_eq_true rfl) dX6_nextSmooth_45 (fun H locs hP hD hS => ?_)
      refine lv_aload_n hx hb dX6_nextSmooth_48 rfl (lv_at hl 0 rfl) ?_
      refine lv_iload_n hx hb dX6_nextSmooth_49 rfl (lv_at hl 1 rfl) ?_
      obtain ⟨r50, hr50, hF⟩ := opb hF
      refine kVV (As := [.int x1]) (rest := []) (ws' := (wd_X6_nextSmooth cI a_t a_z a_history a_text a_left a_other a_smooth a_weights a_signs a_worked r45.1 c_length v1 r50.1 c_read c_isOpen c_hash r45.2 r50.2.1 r50.2.2.1 r50.2.2.2.1 r50.2.2.2.2 c_z)) ⟨hx, hb, hml, hown, hts⟩ (c_X6_laySmoothRank l D cI a_t a_z a_history a_text a_left a_other a_smooth a_weights a_signs a_worked H.size r45.1 c_length v1 c_codes c_read c_isOpen c_hash c_left c_other c_smooth c_weights c_z x1 r50 hr50) (cwV 1 hts mw_X6_123 rfl rfl rfl hd_X6_laySmoothRank ⟨Nat.le_of_ble_eq_true rfl, Nat.le_of_ble_eq_true rfl⟩) hS hA hG hK hP hD [0, 2, 3, 4, 5, 6] rfl rfl rfl rfl rfl ⟨Nat.zero_le _, Nat.zero_le _⟩ 6 0 rfl rfl rfl rfl hl.1 rfl (Nat.le_of_ble_eq_true rfl) dX6_nextSmooth_50 (fun H locs hP hD hS => ?_)
      refine lv_aload_n hx hb dX6_nextSmooth_53 rfl (lv_at hl 0 rfl) ?_
      obtain ⟨r54, hr54, hF⟩ := opb hF
      refine kVI (As := []) (rest := []) (ws' := (wd_X6_nextSmooth cI a_t a_z a_history a_text a_left a_other a_smooth a_weights a_signs a_worked r45.1 c_length v1 r50.1 c_read c_isOpen c_hash r45.2 r50.2.1 r50.2.2.1 r50.2.2.2.1 r50.2.2.2.2 r54.2)) ⟨hx, hb, hml, hown, hts⟩ (c_X6_goes l D cI a_t a_z a_history a_text a_left a_other a_smooth a_weights a_signs a_worked H.size r45.1 c_length v1 r50.1 c_read c_isOpen c_hash r50.2.2.1 c_z  r54 hr54) (cwV 0 hts mw_X6_107 rfl rfl rfl hd_X6_goes ⟨Nat.le_of_ble_eq_true rfl, Nat.le_of_ble_eq_true rfl⟩) hS hA hG hK hP hD [0, 3, 6] rfl rfl rfl rfl rfl ⟨Nat.zero_le _, Nat.zero_le _⟩ 6 0 rfl rfl rfl rfl hl.1 rfl (Nat.le_of_ble_eq_true rfl) dX6_nextSmooth_54 (fun H locs hP hD hS => ?_)
      refine lv_istore_n (lv' := [(2, .int r54.1), (0, .ref a_t), (1, .int x1)]) hx hb dX6_nextSmooth_57 rfl hl (by decide) rfl (fun ls hl => ?_)
      refine lv_aload_n hx hb dX6_nextSmooth_58 rfl (lv_at hl 1 rfl) ?_
      obtain ⟨r59, hr59, hF⟩ := opb hF
      refine kVI (As := []) (rest := []) (ws' := (wd_X6_nextSmooth cI a_t a_z a_history a_text a_left a_other a_smooth a_weights a_signs a_worked r45.1 c_length v1 r50.1 c_read c_isOpen c_hash r45.2 r59.2.1 r59.2.2 r50.2.2.2.1 r50.2.2.2.2 r54.2)) ⟨hx, hb, hml, hown, hts⟩ (c_X6_rankNow l D cI a_t a_z a_history a_text a_left a_other a_smooth a_weights a_signs a_worked H.size r45.1 c_length v1 r50.1 c_read c_isOpen c_hash r50.2.1 r50.2.2.1 r54.2  r59 hr59) (cwV 0 hts mw_X6_97 rfl rfl rfl hd_X6_rankNow ⟨Nat.le_of_ble_eq_true rfl, Nat.le_of_ble_eq_true rfl⟩) hS hA hG hK hP hD [0, 2, 3, 6] rfl rfl rfl rfl rfl ⟨Nat.zero_le _, Nat.zero_le _⟩ 6 0 rfl rfl rfl rfl hl.1 rfl (Nat.le_of_ble_eq_true rfl) dX6_nextSmooth_59 (fun H locs hP hD hS => ?_)
      have ho := Option.some.inj hF
      exact hret H locs ls 62 r59.1 _ hP hS (by rw [← ho]) (by rw [← ho]) dX6_nextSmooth_62
    · replace hF := (if_neg k39).symm.trans hF
      refine lv_iconst (v := 0) hx hb dX6_nextSmooth_42 (by decide) ?_
      have ho := Option.some.inj hF
      exact hret H locs ls 43 (0 : Int32) _ hP hS (by rw [← ho]) (by rw [← ho]) dX6_nextSmooth_43
  have K16 : ∀ (c_states : Int32) (c_thrown : Int32) (c_codes : Int32) (c_history : Nat → Int32) (c_left : Nat → Int32) (c_other : Nat → Int32) (c_smooth : Nat → Int32) (c_weights : Nat → Int32) (c_z : Nat → Int32) (v0 : Int32) (v1 : Int32)  (H : Heap) (locs : List Loc) (ls : Array Slot), va_P D vwCl (wd_X6_nextSmooth cI a_t a_z a_history a_text a_left a_other a_smooth a_weights a_signs a_worked c_states c_length c_thrown c_codes c_read c_isOpen c_hash c_history c_left c_other c_smooth c_weights c_z) H → va_D A (wd_X6_nextSmooth cI a_t a_z a_history a_text a_left a_other a_smooth a_weights a_signs a_worked c_states c_length c_thrown c_codes c_read c_isOpen c_hash c_history c_left c_other c_smooth c_weights c_z) → va_S A s.heap H locs → lv_has ls 3 [(0, .ref a_t)] → F_X6_nextSmooth_J16 c_states c_thrown c_codes c_history c_left c_other c_smooth c_weights c_z v0 v1 = some o → W p l e rm_X6_nextSmooth s m args below meth c H locs 0 0 Q (F0 m 16 ls [.int v1, .int v0]) := by
    intro c_states c_thrown c_codes c_history c_left c_other c_smooth c_weights c_z v0 v1 H locs ls hP hD hS hl hF
    unfold F_X6_nextSmooth_J16 at hF
    refine lv_iadd hx hb dX6_nextSmooth_16 ?_
    refine lv_istore_n (lv' := [(1, .int (v0 + v1)), (0, .ref a_t)]) hx hb dX6_nextSmooth_17 rfl hl (by decide) rfl (fun ls hl => ?_)
    refine lv_aload_n hx hb dX6_nextSmooth_18 rfl (lv_at hl 1 rfl) ?_
    refine lv_iload_n hx hb dX6_nextSmooth_19 rfl (lv_at hl 0 rfl) ?_
    refine lv_aload_n hx hb dX6_nextSmooth_20 rfl (lv_at hl 1 rfl) ?_
    obtain ⟨r21, hr21, hF⟩ := opb hF
    refine kVI (As := []) (rest := [.int (v0 + v1), .ref a_t]) (ws' := (wd_X6_nextSmooth cI a_t a_z a_history a_text a_left a_other a_smooth a_weights a_signs a_worked c_states c_length c_thrown r21.2.1 c_read c_isOpen c_hash c_history r21.2.2.1 c_other r21.2.2.2.1 r21.2.2.2.2 c_z)) ⟨hx, hb, hml, hown, hts⟩ (c_X6_allSmooth l D cI a_t a_z a_history a_text a_left a_other a_smooth a_weights a_signs a_worked H.size c_states c_length c_thrown c_codes c_read c_isOpen c_hash c_left c_smooth c_weights c_z  r21 hr21) (cwV 0 hts mw_X6_120 rfl rfl rfl hd_X6_allSmooth ⟨Nat.le_of_ble_eq_true rfl, Nat.le_of_ble_eq_true rfl⟩) hS hA hG hK hP hD [0, 2, 4, 5, 6] rfl rfl rfl rfl rfl ⟨Nat.zero_le _, Nat.zero_le _⟩ 6 0 rfl rfl rfl rfl hl.1 rfl (Nat.le_of_ble_eq_true rfl) dX6_nextSmooth_21 (fun H locs hP hD hS => ?_)
    refine lv_icmp_ge (tgt := 31) hx hb dX6_nextSmooth_24 (by decide) (fun k24 => ?_) (fun k24 => ?_)
    · (try simp only [if_pos k24] at hF)
      refine lv_iconst (v := 1) hx hb dX6_nextSmooth_31 (by decide) ?_
      exact K32 c_states c_thrown r21.2.1 c_history r21.2.2.1 c_other r21.2.2.2.1 r21.2.2.2.2 c_z (v0 + v1) (1 : Int32) H locs ls hP hD hS (lv_sub hl [1, 0] rfl) hF
    · (try simp only [if_neg k24] at hF)
      refine lv_iconst (v := 0) hx hb dX6_nextSmooth_27 (by decide) ?_
      refine lv_goto (tgt := 32) hx hb dX6_nextSmooth_28 (by decide) ?_
      exact K32 c_states c_thrown r21.2.1 c_history r21.2.2.1 c_other r21.2.2.2.1 r21.2.2.2.2 c_z (v0 + v1) (0 : Int32) H locs ls hP hD hS (lv_sub hl [1, 0] rfl) hF
  unfold F_X6_nextSmooth at hF
  have hP : va_P D vwCl (wd_X6_nextSmooth cI a_t a_z a_history a_text a_left a_other a_smooth a_weights a_signs a_worked c_states c_length c_thrown c_codes c_read c_isOpen c_hash c_history c_left c_other c_smooth c_weights c_z) s.heap := hP
  obtain ⟨H, hH⟩ : ∃ H, H = s.heap := ⟨_, rfl⟩
  rw [← hH]
  rw [← hH] at hP
  obtain ⟨locs, hlo⟩ : ∃ z : List Loc, z = [] := ⟨_, rfl⟩
  rw [← hlo]
  have hS : va_S A s.heap H locs := by rw [hH, hlo]; exact hS
  refine lv_aload_n hx hb dX6_nextSmooth_0 rfl (lv_at hl 0 rfl) ?_
  obtain ⟨r1, hr1, hF⟩ := opb hF
  refine kVI (As := []) (rest := []) (ws' := (wd_X6_nextSmooth cI a_t a_z a_history a_text a_left a_other a_smooth a_weights a_signs a_worked c_states c_length c_thrown r1.2.1 c_read c_isOpen c_hash c_history r1.2.2.1 c_other r1.2.2.2.1 r1.2.2.2.2 c_z)) ⟨hx, hb, hml, hown, hts⟩ (c_X6_smoothRank l D cI a_t a_z a_history a_text a_left a_other a_smooth a_weights a_signs a_worked H.size c_states c_length c_thrown c_codes c_read c_isOpen c_hash c_left c_smooth c_weights c_z  r1 hr1) (cwV 0 hts mw_X6_113 rfl rfl rfl hd_X6_smoothRank ⟨Nat.le_of_ble_eq_true rfl, Nat.le_of_ble_eq_true rfl⟩) hS hA hG hK hP hD [0, 2, 4, 5, 6] rfl rfl rfl rfl rfl ⟨Nat.zero_le _, Nat.zero_le _⟩ 6 0 rfl rfl rfl rfl hl.1 rfl (Nat.le_of_ble_eq_true rfl) dX6_nextSmooth_1 (fun H locs hP hD hS => ?_)
  refine lv_aload_n hx hb dX6_nextSmooth_4 rfl (lv_at hl 0 rfl) ?_
  obtain ⟨r5, hr5, hF⟩ := opb hF
  refine kVI (As := []) (rest := [.int r1.1]) (ws' := (wd_X6_nextSmooth cI a_t a_z a_history a_text a_left a_other a_smooth a_weights a_signs a_worked c_states c_length c_thrown r5.2.1 c_read c_isOpen c_hash c_history r5.2.2.1 c_other r5.2.2.2.1 r5.2.2.2.2 c_z)) ⟨hx, hb, hml, hown, hts⟩ (c_X6_isSmooth l D cI a_t a_z a_history a_text a_left a_other a_smooth a_weights a_signs a_worked H.size c_states c_length c_thrown r1.2.1 c_read c_isOpen c_hash r1.2.2.1 r1.2.2.2.1 r1.2.2.2.2 c_z  r5 hr5) (cwV 0 hts mw_X6_116 rfl rfl rfl hd_X6_isSmooth ⟨Nat.le_of_ble_eq_true rfl, Nat.le_of_ble_eq_true rfl⟩) hS hA hG hK hP hD [0, 2, 4, 5, 6] rfl rfl rfl rfl rfl ⟨Nat.zero_le _, Nat.zero_le _⟩ 6 0 rfl rfl rfl rfl hl.1 rfl (Nat.le_of_ble_eq_true rfl) dX6_nextSmooth_5 (fun H locs hP hD hS => ?_)
  refine lv_if_eq (tgt := 15) hx hb dX6_nextSmooth_8 (by decide) (fun k8 => ?_) (fun k8 => ?_)
  · (try simp only [if_pos k8] at hF)
    refine lv_iconst (v := 0) hx hb dX6_nextSmooth_15 (by decide) ?_
    exact K16 c_states c_thrown r5.2.1 c_history r5.2.2.1 c_other r5.2.2.2.1 r5.2.2.2.2 c_z r1.1 (0 : Int32) H locs ls hP hD hS (lv_sub hl [0] rfl) hF
  · (try simp only [if_neg k8] at hF)
    refine lv_iconst (v := 1) hx hb dX6_nextSmooth_11 (by decide) ?_
    refine lv_goto (tgt := 16) hx hb dX6_nextSmooth_12 (by decide) ?_
    exact K16 c_states c_thrown r5.2.1 c_history r5.2.2.1 c_other r5.2.2.2.1 r5.2.2.2.2 c_z r1.1 (1 : Int32) H locs ls hP hD hS (lv_sub hl [0] rfl) hF
abbrev wd_X6_goToSmooth (cI : ClassId) (a_t a_z a_history a_text a_left a_other a_smooth a_weights a_signs a_worked : Nat) (c_states : Int32) (c_length : Int32) (c_thrown : Int32) (c_codes : Int32) (c_read : Int32) (c_isOpen : Int32) (c_hash : Int64) (c_history : Nat → Int32) (c_left : Nat → Int32) (c_other : Nat → Int32) (c_smooth : Nat → Int32) (c_weights : Nat → Int32) (c_z : Nat → Int32) : va_W := [(a_t, .inr (6, [.ref a_z, .int c_states, .ref a_history, .int c_length, .ref a_text, .int c_thrown, .ref a_left, .ref a_other, .ref a_smooth, .ref a_weights, .int c_codes, .ref a_signs, .int c_read, .int c_isOpen, .ref a_worked, .long c_hash])), (a_history, .inl (cI, 78, .inl c_history)), (a_left, .inl (cI, 6, .inl c_left)), (a_other, .inl (cI, 11, .inl c_other)), (a_smooth, .inl (cI, 4200, .inl c_smooth)), (a_weights, .inl (cI, 6, .inl c_weights)), (a_z, .inl (cI, 13, .inl c_z))]
def rm_X6_goToSmooth : Room := { frames := 6, cells := 0, slots := 0, locals := 131 }
set_option maxHeartbeats 4000000 in
set_option maxRecDepth 100000 in
theorem c_X6_goToSmooth (l : Launch) (D : va_G) (cI : ClassId) (a_t a_z a_history a_text a_left a_other a_smooth a_weights a_signs a_worked : Nat) (sz : Nat) (c_states : Int32) (c_length : Int32) (c_thrown : Int32) (c_codes : Int32) (c_read : Int32) (c_isOpen : Int32) (c_hash : Int64) (c_history : Nat → Int32) (c_left : Nat → Int32) (c_other : Nat → Int32) (c_smooth : Nat → Int32) (c_weights : Nat → Int32) (c_z : Nat → Int32) (x1 : Int32) (o : Int32 × Int32 × Int32 × Int32 × (Nat → Int32) × (Nat → Int32) × (Nat → Int32) × (Nat → Int32) × (Nat → Int32) × (Nat → Int32)) (hF : F_X6_goToSmooth c_states c_thrown c_codes c_history c_left c_other c_smooth c_weights c_z x1 = some o) : Met l yX6_goToSmooth (Cond.code yX6_goToSmooth cX6_goToSmooth 3 (some .int) :: WL) rm_X6_goToSmooth (preM D [(cI, .int)] (wd_X6_goToSmooth cI a_t a_z a_history a_text a_left a_other a_smooth a_weights a_signs a_worked c_states c_length c_thrown c_codes c_read c_isOpen c_hash c_history c_left c_other c_smooth c_weights c_z) sz [.ref a_t, .int x1]) (postI D o.1 (wd_X6_goToSmooth cI a_t a_z a_history a_text a_left a_other a_smooth a_weights a_signs a_worked o.2.1 c_length o.2.2.1 o.2.2.2.1 c_read c_isOpen c_hash o.2.2.2.2.1 o.2.2.2.2.2.1 o.2.2.2.2.2.2.1 o.2.2.2.2.2.2.2.1 o.2.2.2.2.2.2.2.2.1 o.2.2.2.2.2.2.2.2.2) (wd_X6_goToSmooth cI a_t a_z a_history a_text a_left a_other a_smooth a_weights a_signs a_worked c_states c_length c_thrown c_codes c_read c_isOpen c_hash c_history c_left c_other c_smooth c_weights c_z) sz) 0 0 (va_A (wd_X6_goToSmooth cI a_t a_z a_history a_text a_left a_other a_smooth a_weights a_signs a_worked c_states c_length c_thrown c_codes c_read c_isOpen c_hash c_history c_left c_other c_smooth c_weights c_z) sz) := by
  refine mofI (by decide +kernel) (Nat.le_of_ble_eq_true rfl) ?_
  intro p e s m args below meth c Q A ls hx hb hml hown hts hK hP hD hS hA hG hl hret hsz0
  have hl : lv_has ls 3 [(0, .ref a_t), (1, .int x1)] := hl
  have K18 : ∀ (c_states : Int32) (c_thrown : Int32) (c_codes : Int32) (c_history : Nat → Int32) (c_left : Nat → Int32) (c_other : Nat → Int32) (c_smooth : Nat → Int32) (c_weights : Nat → Int32) (c_z : Nat → Int32) (v1 : Int32)  (H : Heap) (locs : List Loc) (ls : Array Slot), va_P D vwCl (wd_X6_goToSmooth cI a_t a_z a_history a_text a_left a_other a_smooth a_weights a_signs a_worked c_states c_length c_thrown c_codes c_read c_isOpen c_hash c_history c_left c_other c_smooth c_weights c_z) H → va_D A (wd_X6_goToSmooth cI a_t a_z a_history a_text a_left a_other a_smooth a_weights a_signs a_worked c_states c_length c_thrown c_codes c_read c_isOpen c_hash c_history c_left c_other c_smooth c_weights c_z) → va_S A s.heap H locs → lv_has ls 3 [(0, .ref a_t), (1, .int x1)] → F_X6_goToSmooth_J18 x1 c_states c_thrown c_codes c_history c_left c_other c_smooth c_weights c_z v1 = some o → W p l e rm_X6_goToSmooth s m args below meth c H locs 0 0 Q (F0 m 18 ls [.int v1, .ref a_t]) := by
    intro c_states c_thrown c_codes c_history c_left c_other c_smooth c_weights c_z v1 H locs ls hP hD hS hl hF
    unfold F_X6_goToSmooth_J18 at hF
    refine put_X6_37 hx hb hts hown hK hP hD hS 0 rfl rfl rfl (Nat.le_of_ble_eq_true rfl) dX6_goToSmooth_18 (fun H locs hP hD hS => ?_)
    have hP : va_P D vwCl (wd_X6_goToSmooth cI a_t a_z a_history a_text a_left a_other a_smooth a_weights a_signs a_worked c_states c_length v1 c_codes c_read c_isOpen c_hash c_history c_left c_other c_smooth c_weights c_z) H := hP
    have hD : va_D A (wd_X6_goToSmooth cI a_t a_z a_history a_text a_left a_other a_smooth a_weights a_signs a_worked c_states c_length v1 c_codes c_read c_isOpen c_hash c_history c_left c_other c_smooth c_weights c_z) := hD
    refine lv_aload_n hx hb dX6_goToSmooth_21 rfl (lv_at hl 0 rfl) ?_
    refine get_X6_37 hx hb hts hown hK hP 0 rfl rfl dX6_goToSmooth_22 ?_
    refine lv_if_le (tgt := 30) hx hb dX6_goToSmooth_25 (by decide) (fun k25 => ?_) (fun k25 => ?_)
    · replace hF := (if_pos k25).symm.trans hF
      refine lv_aload_n hx hb dX6_goToSmooth_30 rfl (lv_at hl 0 rfl) ?_
      obtain ⟨r31, hr31, hF⟩ := opb hF
      refine kVV (As := []) (rest := []) (ws' := (wd_X6_goToSmooth cI a_t a_z a_history a_text a_left a_other a_smooth a_weights a_signs a_worked r31.1 c_length v1 c_codes c_read c_isOpen c_hash r31.2 c_left c_other c_smooth c_weights c_z)) ⟨hx, hb, hml, hown, hts⟩ (c_X6_save l D cI a_t a_z a_history a_text a_left a_other a_smooth a_weights a_signs a_worked H.size c_states c_length v1 c_codes c_read c_isOpen c_hash c_history c_z  r31 hr31) (cwV 0 hts mw_X6_100 rfl rfl rfl hd_X6_save ⟨Nat.le_of_ble_eq_true rfl, Nat.le_of_ble_eq_true rfl⟩) hS hA hG hK hP hD [0, 1, 6] rfl rfl rfl rfl rfl ⟨Nat.zero_le _, Nat.zero_le _⟩ 6 0 rfl rfl rfl rfl hl.1 rfl (Nat.le_of_ble_eq_true rfl) dX6_goToSmooth_31 (fun H locs hP hD hS => ?_)
      refine lv_aload_n hx hb dX6_goToSmooth_34 rfl (lv_at hl 0 rfl) ?_
      refine lv_iload_n hx hb dX6_goToSmooth_35 rfl (lv_at hl 1 rfl) ?_
      obtain ⟨r36, hr36, hF⟩ := opb hF
      refine kVV (As := [.int x1]) (rest := []) (ws' := (wd_X6_goToSmooth cI a_t a_z a_history a_text a_left a_other a_smooth a_weights a_signs a_worked r31.1 c_length v1 r36.1 c_read c_isOpen c_hash r31.2 r36.2.1 r36.2.2.1 r36.2.2.2.1 r36.2.2.2.2 c_z)) ⟨hx, hb, hml, hown, hts⟩ (c_X6_laySmoothRank l D cI a_t a_z a_history a_text a_left a_other a_smooth a_weights a_signs a_worked H.size r31.1 c_length v1 c_codes c_read c_isOpen c_hash c_left c_other c_smooth c_weights c_z x1 r36 hr36) (cwV 1 hts mw_X6_123 rfl rfl rfl hd_X6_laySmoothRank ⟨Nat.le_of_ble_eq_true rfl, Nat.le_of_ble_eq_true rfl⟩) hS hA hG hK hP hD [0, 2, 3, 4, 5, 6] rfl rfl rfl rfl rfl ⟨Nat.zero_le _, Nat.zero_le _⟩ 6 0 rfl rfl rfl rfl hl.1 rfl (Nat.le_of_ble_eq_true rfl) dX6_goToSmooth_36 (fun H locs hP hD hS => ?_)
      refine lv_aload_n hx hb dX6_goToSmooth_39 rfl (lv_at hl 0 rfl) ?_
      obtain ⟨r40, hr40, hF⟩ := opb hF
      refine kVI (As := []) (rest := []) (ws' := (wd_X6_goToSmooth cI a_t a_z a_history a_text a_left a_other a_smooth a_weights a_signs a_worked r31.1 c_length v1 r36.1 c_read c_isOpen c_hash r31.2 r36.2.1 r36.2.2.1 r36.2.2.2.1 r36.2.2.2.2 r40.2)) ⟨hx, hb, hml, hown, hts⟩ (c_X6_goes l D cI a_t a_z a_history a_text a_left a_other a_smooth a_weights a_signs a_worked H.size r31.1 c_length v1 r36.1 c_read c_isOpen c_hash r36.2.2.1 c_z  r40 hr40) (cwV 0 hts mw_X6_107 rfl rfl rfl hd_X6_goes ⟨Nat.le_of_ble_eq_true rfl, Nat.le_of_ble_eq_true rfl⟩) hS hA hG hK hP hD [0, 3, 6] rfl rfl rfl rfl rfl ⟨Nat.zero_le _, Nat.zero_le _⟩ 6 0 rfl rfl rfl rfl hl.1 rfl (Nat.le_of_ble_eq_true rfl) dX6_goToSmooth_40 (fun H locs hP hD hS => ?_)
      refine lv_istore_n (lv' := [(2, .int r40.1), (0, .ref a_t), (1, .int x1)]) hx hb dX6_goToSmooth_43 rfl hl (by decide) rfl (fun ls hl => ?_)
      refine lv_aload_n hx hb dX6_goToSmooth_44 rfl (lv_at hl 1 rfl) ?_
      obtain ⟨r45, hr45, hF⟩ := opb hF
      refine kVI (As := []) (rest := []) (ws' := (wd_X6_goToSmooth cI a_t a_z a_history a_text a_left a_other a_smooth a_weights a_signs a_worked r31.1 c_length v1 r36.1 c_read c_isOpen c_hash r31.2 r45.2.1 r45.2.2 r36.2.2.2.1 r36.2.2.2.2 r40.2)) ⟨hx, hb, hml, hown, hts⟩ (c_X6_rankNow l D cI a_t a_z a_history a_text a_left a_other a_smooth a_weights a_signs a_worked H.size r31.1 c_length v1 r36.1 c_read c_isOpen c_hash r36.2.1 r36.2.2.1 r40.2  r45 hr45) (cwV 0 hts mw_X6_97 rfl rfl rfl hd_X6_rankNow ⟨Nat.le_of_ble_eq_true rfl, Nat.le_of_ble_eq_true rfl⟩) hS hA hG hK hP hD [0, 2, 3, 6] rfl rfl rfl rfl rfl ⟨Nat.zero_le _, Nat.zero_le _⟩ 6 0 rfl rfl rfl rfl hl.1 rfl (Nat.le_of_ble_eq_true rfl) dX6_goToSmooth_45 (fun H locs hP hD hS => ?_)
      have ho := Option.some.inj hF
      exact hret H locs ls 48 r45.1 _ hP hS (by rw [← ho]) (by rw [← ho]) dX6_goToSmooth_48
    · replace hF := (if_neg k25).symm.trans hF
      refine lv_iconst (v := 0) hx hb dX6_goToSmooth_28 (by decide) ?_
      have ho := Option.some.inj hF
      exact hret H locs ls 29 (0 : Int32) _ hP hS (by rw [← ho]) (by rw [← ho]) dX6_goToSmooth_29
  unfold F_X6_goToSmooth at hF
  have hP : va_P D vwCl (wd_X6_goToSmooth cI a_t a_z a_history a_text a_left a_other a_smooth a_weights a_signs a_worked c_states c_length c_thrown c_codes c_read c_isOpen c_hash c_history c_left c_other c_smooth c_weights c_z) s.heap := hP
  obtain ⟨H, hH⟩ : ∃ H, H = s.heap := ⟨_, rfl⟩
  rw [← hH]
  rw [← hH] at hP
  obtain ⟨locs, hlo⟩ : ∃ z : List Loc, z = [] := ⟨_, rfl⟩
  rw [← hlo]
  have hS : va_S A s.heap H locs := by rw [hH, hlo]; exact hS
  refine lv_aload_n hx hb dX6_goToSmooth_0 rfl (lv_at hl 0 rfl) ?_
  refine lv_iload_n hx hb dX6_goToSmooth_1 rfl (lv_at hl 1 rfl) ?_
  refine lv_if_lt (tgt := 17) hx hb dX6_goToSmooth_2 (by decide) (fun k2 => ?_) (fun k2 => ?_)
  · replace hF := (if_pos k2).symm.trans hF
    refine lv_iconst (v := 1) hx hb dX6_goToSmooth_17 (by decide) ?_
    exact K18 c_states c_thrown c_codes c_history c_left c_other c_smooth c_weights c_z (1 : Int32) H locs ls hP hD hS (lv_sub hl [0, 1] rfl) hF
  · replace hF := (if_neg k2).symm.trans hF
    refine lv_iload_n hx hb dX6_goToSmooth_5 rfl (lv_at hl 1 rfl) ?_
    refine lv_aload_n hx hb dX6_goToSmooth_6 rfl (lv_at hl 0 rfl) ?_
    obtain ⟨r7, hr7, hF⟩ := opb hF
    refine kVI (As := []) (rest := [.int x1, .ref a_t]) (ws' := (wd_X6_goToSmooth cI a_t a_z a_history a_text a_left a_other a_smooth a_weights a_signs a_worked c_states c_length c_thrown r7.2.1 c_read c_isOpen c_hash c_history r7.2.2.1 c_other r7.2.2.2.1 r7.2.2.2.2 c_z)) ⟨hx, hb, hml, hown, hts⟩ (c_X6_allSmooth l D cI a_t a_z a_history a_text a_left a_other a_smooth a_weights a_signs a_worked H.size c_states c_length c_thrown c_codes c_read c_isOpen c_hash c_left c_smooth c_weights c_z  r7 hr7) (cwV 0 hts mw_X6_120 rfl rfl rfl hd_X6_allSmooth ⟨Nat.le_of_ble_eq_true rfl, Nat.le_of_ble_eq_true rfl⟩) hS hA hG hK hP hD [0, 2, 4, 5, 6] rfl rfl rfl rfl rfl ⟨Nat.zero_le _, Nat.zero_le _⟩ 6 0 rfl rfl rfl rfl hl.1 rfl (Nat.le_of_ble_eq_true rfl) dX6_goToSmooth_7 (fun H locs hP hD hS => ?_)
    refine lv_icmp_ge (tgt := 17) hx hb dX6_goToSmooth_10 (by decide) (fun k10 => ?_) (fun k10 => ?_)
    · (try simp only [if_pos k10] at hF)
      refine lv_iconst (v := 1) hx hb dX6_goToSmooth_17 (by decide) ?_
      exact K18 c_states c_thrown r7.2.1 c_history r7.2.2.1 c_other r7.2.2.2.1 r7.2.2.2.2 c_z (1 : Int32) H locs ls hP hD hS (lv_sub hl [0, 1] rfl) hF
    · (try simp only [if_neg k10] at hF)
      refine lv_iconst (v := 0) hx hb dX6_goToSmooth_13 (by decide) ?_
      refine lv_goto (tgt := 18) hx hb dX6_goToSmooth_14 (by decide) ?_
      exact K18 c_states c_thrown r7.2.1 c_history r7.2.2.1 c_other r7.2.2.2.1 r7.2.2.2.2 c_z (0 : Int32) H locs ls hP hD hS (lv_sub hl [0, 1] rfl) hF
abbrev wd_X6_exchange (cI : ClassId) (a_t a_z a_history a_text a_left a_other a_smooth a_weights a_signs a_worked : Nat) (c_states : Int32) (c_length : Int32) (c_thrown : Int32) (c_codes : Int32) (c_read : Int32) (c_isOpen : Int32) (c_hash : Int64) (c_z : Nat → Int32) : va_W := [(a_t, .inr (6, [.ref a_z, .int c_states, .ref a_history, .int c_length, .ref a_text, .int c_thrown, .ref a_left, .ref a_other, .ref a_smooth, .ref a_weights, .int c_codes, .ref a_signs, .int c_read, .int c_isOpen, .ref a_worked, .long c_hash])), (a_z, .inl (cI, 13, .inl c_z))]
def rm_X6_exchange : Room := { frames := 0, cells := 0, slots := 0, locals := 0 }
set_option maxHeartbeats 4000000 in
set_option maxRecDepth 100000 in
theorem c_X6_exchange (l : Launch) (D : va_G) (cI : ClassId) (a_t a_z a_history a_text a_left a_other a_smooth a_weights a_signs a_worked : Nat) (sz : Nat) (c_states : Int32) (c_length : Int32) (c_thrown : Int32) (c_codes : Int32) (c_read : Int32) (c_isOpen : Int32) (c_hash : Int64) (c_z : Nat → Int32) (x1 : Int32) (x2 : Int32) (o : (Nat → Int32)) (hF : F_X6_exchange c_z x1 x2 = some o) : Met l yX6_exchange (Cond.code yX6_exchange cX6_exchange 4 none :: WL) rm_X6_exchange (preM D [(cI, .int)] (wd_X6_exchange cI a_t a_z a_history a_text a_left a_other a_smooth a_weights a_signs a_worked c_states c_length c_thrown c_codes c_read c_isOpen c_hash c_z) sz [.ref a_t, .int x1, .int x2]) (postV D (wd_X6_exchange cI a_t a_z a_history a_text a_left a_other a_smooth a_weights a_signs a_worked c_states c_length c_thrown c_codes c_read c_isOpen c_hash o) (wd_X6_exchange cI a_t a_z a_history a_text a_left a_other a_smooth a_weights a_signs a_worked c_states c_length c_thrown c_codes c_read c_isOpen c_hash c_z) sz) 0 0 (va_A (wd_X6_exchange cI a_t a_z a_history a_text a_left a_other a_smooth a_weights a_signs a_worked c_states c_length c_thrown c_codes c_read c_isOpen c_hash c_z) sz) := by
  refine mofV (by decide +kernel) (Nat.le_of_ble_eq_true rfl) ?_
  intro p e s m args below meth c Q A ls hx hb hml hown hts hK hP hD hS hA hG hl hret hsz0
  have hl : lv_has ls 4 [(0, .ref a_t), (1, .int x1), (2, .int x2)] := hl
  unfold F_X6_exchange at hF
  have hP : va_P D vwCl (wd_X6_exchange cI a_t a_z a_history a_text a_left a_other a_smooth a_weights a_signs a_worked c_states c_length c_thrown c_codes c_read c_isOpen c_hash c_z) s.heap := hP
  obtain ⟨H, hH⟩ : ∃ H, H = s.heap := ⟨_, rfl⟩
  rw [← hH]
  rw [← hH] at hP
  obtain ⟨locs, hlo⟩ : ∃ z : List Loc, z = [] := ⟨_, rfl⟩
  rw [← hlo]
  have hS : va_S A s.heap H locs := by rw [hH, hlo]; exact hS
  refine lv_aload_n hx hb dX6_exchange_0 rfl (lv_at hl 0 rfl) ?_
  refine get_X6_7 hx hb hts hown hK hP 0 rfl rfl dX6_exchange_1 ?_
  refine lv_iconst (v := 2) hx hb dX6_exchange_4 (by decide) ?_
  refine lv_iload_n hx hb dX6_exchange_5 rfl (lv_at hl 1 rfl) ?_
  refine lv_iadd hx hb dX6_exchange_6 ?_
  obtain ⟨g7, hF⟩ := gdb hF
  refine va_iald hx hb hK hP 1 0 rfl rfl (vinb g7) dX6_exchange_7 ?_
  refine lv_istore_n (lv' := [(3, .int (c_z ((2 : Int32) + x1).toNatClampNeg)), (0, .ref a_t), (1, .int x1), (2, .int x2)]) hx hb dX6_exchange_8 rfl hl (by decide) rfl (fun ls hl => ?_)
  refine lv_aload_n hx hb dX6_exchange_9 rfl (lv_at hl 1 rfl) ?_
  refine get_X6_7 hx hb hts hown hK hP 0 rfl rfl dX6_exchange_10 ?_
  refine lv_iconst (v := 2) hx hb dX6_exchange_13 (by decide) ?_
  refine lv_iload_n hx hb dX6_exchange_14 rfl (lv_at hl 2 rfl) ?_
  refine lv_iadd hx hb dX6_exchange_15 ?_
  refine lv_aload_n hx hb dX6_exchange_16 rfl (lv_at hl 1 rfl) ?_
  refine get_X6_7 hx hb hts hown hK hP 0 rfl rfl dX6_exchange_17 ?_
  refine lv_iconst (v := 2) hx hb dX6_exchange_20 (by decide) ?_
  refine lv_iload_n hx hb dX6_exchange_21 rfl (lv_at hl 3 rfl) ?_
  refine lv_iadd hx hb dX6_exchange_22 ?_
  obtain ⟨g23, hF⟩ := gdb hF
  refine va_iald hx hb hK hP 1 0 rfl rfl (vinb g23) dX6_exchange_23 ?_
  obtain ⟨g24, hF⟩ := gdb hF
  refine va_iast hx hb hK hP hD hS 1 0 rfl rfl (vinb g24) dX6_exchange_24 (fun H locs hP hD hS => ?_)
  have hP : va_P D vwCl (wd_X6_exchange cI a_t a_z a_history a_text a_left a_other a_smooth a_weights a_signs a_worked c_states c_length c_thrown c_codes c_read c_isOpen c_hash (upd c_z ((2 : Int32) + x1).toNatClampNeg (c_z ((2 : Int32) + x2).toNatClampNeg))) H := hP
  have hD : va_D A (wd_X6_exchange cI a_t a_z a_history a_text a_left a_other a_smooth a_weights a_signs a_worked c_states c_length c_thrown c_codes c_read c_isOpen c_hash (upd c_z ((2 : Int32) + x1).toNatClampNeg (c_z ((2 : Int32) + x2).toNatClampNeg))) := hD
  refine lv_aload_n hx hb dX6_exchange_25 rfl (lv_at hl 1 rfl) ?_
  refine get_X6_7 hx hb hts hown hK hP 0 rfl rfl dX6_exchange_26 ?_
  refine lv_iconst (v := 2) hx hb dX6_exchange_29 (by decide) ?_
  refine lv_iload_n hx hb dX6_exchange_30 rfl (lv_at hl 3 rfl) ?_
  refine lv_iadd hx hb dX6_exchange_31 ?_
  refine lv_iload_n hx hb dX6_exchange_32 rfl (lv_at hl 0 rfl) ?_
  obtain ⟨g33, hF⟩ := gdb hF
  refine va_iast hx hb hK hP hD hS 1 0 rfl rfl (vinb g33) dX6_exchange_33 (fun H locs hP hD hS => ?_)
  have hP : va_P D vwCl (wd_X6_exchange cI a_t a_z a_history a_text a_left a_other a_smooth a_weights a_signs a_worked c_states c_length c_thrown c_codes c_read c_isOpen c_hash (upd (upd c_z ((2 : Int32) + x1).toNatClampNeg (c_z ((2 : Int32) + x2).toNatClampNeg)) ((2 : Int32) + x2).toNatClampNeg (c_z ((2 : Int32) + x1).toNatClampNeg))) H := hP
  have hD : va_D A (wd_X6_exchange cI a_t a_z a_history a_text a_left a_other a_smooth a_weights a_signs a_worked c_states c_length c_thrown c_codes c_read c_isOpen c_hash (upd (upd c_z ((2 : Int32) + x1).toNatClampNeg (c_z ((2 : Int32) + x2).toNatClampNeg)) ((2 : Int32) + x2).toNatClampNeg (c_z ((2 : Int32) + x1).toNatClampNeg))) := hD
  have ho := Option.some.inj hF
  exact hret H locs ls 34 _ hP hS (by rw [← ho]) dX6_exchange_34
abbrev wd_X6_swap (cI : ClassId) (a_t a_z a_history a_text a_left a_other a_smooth a_weights a_signs a_worked : Nat) (c_states : Int32) (c_length : Int32) (c_thrown : Int32) (c_codes : Int32) (c_read : Int32) (c_isOpen : Int32) (c_hash : Int64) (c_history : Nat → Int32) (c_left : Nat → Int32) (c_other : Nat → Int32) (c_z : Nat → Int32) : va_W := [(a_t, .inr (6, [.ref a_z, .int c_states, .ref a_history, .int c_length, .ref a_text, .int c_thrown, .ref a_left, .ref a_other, .ref a_smooth, .ref a_weights, .int c_codes, .ref a_signs, .int c_read, .int c_isOpen, .ref a_worked, .long c_hash])), (a_history, .inl (cI, 78, .inl c_history)), (a_left, .inl (cI, 6, .inl c_left)), (a_other, .inl (cI, 11, .inl c_other)), (a_z, .inl (cI, 13, .inl c_z))]
def rm_X6_swap : Room := { frames := 6, cells := 0, slots := 0, locals := 131 }
set_option maxHeartbeats 4000000 in
set_option maxRecDepth 100000 in
theorem c_X6_swap (l : Launch) (D : va_G) (cI : ClassId) (a_t a_z a_history a_text a_left a_other a_smooth a_weights a_signs a_worked : Nat) (sz : Nat) (c_states : Int32) (c_length : Int32) (c_thrown : Int32) (c_codes : Int32) (c_read : Int32) (c_isOpen : Int32) (c_hash : Int64) (c_history : Nat → Int32) (c_left : Nat → Int32) (c_other : Nat → Int32) (c_z : Nat → Int32) (x1 : Int32) (x2 : Int32) (o : Int32 × Int32 × Int32 × (Nat → Int32) × (Nat → Int32) × (Nat → Int32) × (Nat → Int32)) (hF : F_X6_swap c_states c_thrown c_history c_left c_other c_z x1 x2 = some o) : Met l yX6_swap (Cond.code yX6_swap cX6_swap 3 (some .int) :: WL) rm_X6_swap (preM D [(cI, .int)] (wd_X6_swap cI a_t a_z a_history a_text a_left a_other a_smooth a_weights a_signs a_worked c_states c_length c_thrown c_codes c_read c_isOpen c_hash c_history c_left c_other c_z) sz [.ref a_t, .int x1, .int x2]) (postI D o.1 (wd_X6_swap cI a_t a_z a_history a_text a_left a_other a_smooth a_weights a_signs a_worked o.2.1 c_length o.2.2.1 c_codes c_read c_isOpen c_hash o.2.2.2.1 o.2.2.2.2.1 o.2.2.2.2.2.1 o.2.2.2.2.2.2) (wd_X6_swap cI a_t a_z a_history a_text a_left a_other a_smooth a_weights a_signs a_worked c_states c_length c_thrown c_codes c_read c_isOpen c_hash c_history c_left c_other c_z) sz) 0 0 (va_A (wd_X6_swap cI a_t a_z a_history a_text a_left a_other a_smooth a_weights a_signs a_worked c_states c_length c_thrown c_codes c_read c_isOpen c_hash c_history c_left c_other c_z) sz) := by
  refine mofI (by decide +kernel) (Nat.le_of_ble_eq_true rfl) ?_
  intro p e s m args below meth c Q A ls hx hb hml hown hts hK hP hD hS hA hG hl hret hsz0
  have hl : lv_has ls 3 [(0, .ref a_t), (1, .int x1), (2, .int x2)] := hl
  have K22 : ∀ (c_states : Int32) (c_thrown : Int32) (c_history : Nat → Int32) (c_left : Nat → Int32) (c_other : Nat → Int32) (c_z : Nat → Int32) (v1 : Int32)  (H : Heap) (locs : List Loc) (ls : Array Slot), va_P D vwCl (wd_X6_swap cI a_t a_z a_history a_text a_left a_other a_smooth a_weights a_signs a_worked c_states c_length c_thrown c_codes c_read c_isOpen c_hash c_history c_left c_other c_z) H → va_D A (wd_X6_swap cI a_t a_z a_history a_text a_left a_other a_smooth a_weights a_signs a_worked c_states c_length c_thrown c_codes c_read c_isOpen c_hash c_history c_left c_other c_z) → va_S A s.heap H locs → lv_has ls 3 [(0, .ref a_t), (1, .int x1), (2, .int x2)] → F_X6_swap_J22 x1 x2 c_states c_thrown c_history c_left c_other c_z v1 = some o → W p l e rm_X6_swap s m args below meth c H locs 0 0 Q (F0 m 22 ls [.int v1, .ref a_t]) := by
    intro c_states c_thrown c_history c_left c_other c_z v1 H locs ls hP hD hS hl hF
    unfold F_X6_swap_J22 at hF
    refine put_X6_37 hx hb hts hown hK hP hD hS 0 rfl rfl rfl (Nat.le_of_ble_eq_true rfl) dX6_swap_22 (fun H locs hP hD hS => ?_)
    have hP : va_P D vwCl (wd_X6_swap cI a_t a_z a_history a_text a_left a_other a_smooth a_weights a_signs a_worked c_states c_length v1 c_codes c_read c_isOpen c_hash c_history c_left c_other c_z) H := hP
    have hD : va_D A (wd_X6_swap cI a_t a_z a_history a_text a_left a_other a_smooth a_weights a_signs a_worked c_states c_length v1 c_codes c_read c_isOpen c_hash c_history c_left c_other c_z) := hD
    refine lv_aload_n hx hb dX6_swap_25 rfl (lv_at hl 0 rfl) ?_
    refine get_X6_37 hx hb hts hown hK hP 0 rfl rfl dX6_swap_26 ?_
    refine lv_if_le (tgt := 34) hx hb dX6_swap_29 (by decide) (fun k29 => ?_) (fun k29 => ?_)
    · replace hF := (if_pos k29).symm.trans hF
      refine lv_aload_n hx hb dX6_swap_34 rfl (lv_at hl 0 rfl) ?_
      obtain ⟨r35, hr35, hF⟩ := opb hF
      refine kVV (As := []) (rest := []) (ws' := (wd_X6_swap cI a_t a_z a_history a_text a_left a_other a_smooth a_weights a_signs a_worked r35.1 c_length v1 c_codes c_read c_isOpen c_hash r35.2 c_left c_other c_z)) ⟨hx, hb, hml, hown, hts⟩ (c_X6_save l D cI a_t a_z a_history a_text a_left a_other a_smooth a_weights a_signs a_worked H.size c_states c_length v1 c_codes c_read c_isOpen c_hash c_history c_z  r35 hr35) (cwV 0 hts mw_X6_100 rfl rfl rfl hd_X6_save ⟨Nat.le_of_ble_eq_true rfl, Nat.le_of_ble_eq_true rfl⟩) hS hA hG hK hP hD [0, 1, 4] rfl rfl rfl rfl rfl ⟨Nat.zero_le _, Nat.zero_le _⟩ 6 0 rfl rfl rfl rfl hl.1 rfl (Nat.le_of_ble_eq_true rfl) dX6_swap_35 (fun H locs hP hD hS => ?_)
      refine lv_aload_n hx hb dX6_swap_38 rfl (lv_at hl 0 rfl) ?_
      refine lv_iload_n hx hb dX6_swap_39 rfl (lv_at hl 1 rfl) ?_
      refine lv_iload_n hx hb dX6_swap_40 rfl (lv_at hl 2 rfl) ?_
      obtain ⟨r41, hr41, hF⟩ := opb hF
      refine kVV (As := [.int x1, .int x2]) (rest := []) (ws' := (wd_X6_swap cI a_t a_z a_history a_text a_left a_other a_smooth a_weights a_signs a_worked r35.1 c_length v1 c_codes c_read c_isOpen c_hash r35.2 c_left c_other r41)) ⟨hx, hb, hml, hown, hts⟩ (c_X6_exchange l D cI a_t a_z a_history a_text a_left a_other a_smooth a_weights a_signs a_worked H.size r35.1 c_length v1 c_codes c_read c_isOpen c_hash c_z x1 x2 r41 hr41) (cwV 2 hts mw_X6_129 rfl rfl rfl hd_X6_exchange ⟨Nat.le_of_ble_eq_true rfl, Nat.le_of_ble_eq_true rfl⟩) hS hA hG hK hP hD [0, 4] rfl rfl rfl rfl rfl ⟨Nat.zero_le _, Nat.zero_le _⟩ 6 0 rfl rfl rfl rfl hl.1 rfl (Nat.le_of_ble_eq_true rfl) dX6_swap_41 (fun H locs hP hD hS => ?_)
      refine lv_aload_n hx hb dX6_swap_44 rfl (lv_at hl 0 rfl) ?_
      obtain ⟨r45, hr45, hF⟩ := opb hF
      refine kVI (As := []) (rest := []) (ws' := (wd_X6_swap cI a_t a_z a_history a_text a_left a_other a_smooth a_weights a_signs a_worked r35.1 c_length v1 c_codes c_read c_isOpen c_hash r35.2 r45.2.1 r45.2.2 r41)) ⟨hx, hb, hml, hown, hts⟩ (c_X6_rankNow l D cI a_t a_z a_history a_text a_left a_other a_smooth a_weights a_signs a_worked H.size r35.1 c_length v1 c_codes c_read c_isOpen c_hash c_left c_other r41  r45 hr45) (cwV 0 hts mw_X6_97 rfl rfl rfl hd_X6_rankNow ⟨Nat.le_of_ble_eq_true rfl, Nat.le_of_ble_eq_true rfl⟩) hS hA hG hK hP hD [0, 2, 3, 4] rfl rfl rfl rfl rfl ⟨Nat.zero_le _, Nat.zero_le _⟩ 6 0 rfl rfl rfl rfl hl.1 rfl (Nat.le_of_ble_eq_true rfl) dX6_swap_45 (fun H locs hP hD hS => ?_)
      have ho := Option.some.inj hF
      exact hret H locs ls 48 r45.1 _ hP hS (by rw [← ho]) (by rw [← ho]) dX6_swap_48
    · replace hF := (if_neg k29).symm.trans hF
      refine lv_iconst (v := 0) hx hb dX6_swap_32 (by decide) ?_
      have ho := Option.some.inj hF
      exact hret H locs ls 33 (0 : Int32) _ hP hS (by rw [← ho]) (by rw [← ho]) dX6_swap_33
  unfold F_X6_swap at hF
  have hP : va_P D vwCl (wd_X6_swap cI a_t a_z a_history a_text a_left a_other a_smooth a_weights a_signs a_worked c_states c_length c_thrown c_codes c_read c_isOpen c_hash c_history c_left c_other c_z) s.heap := hP
  obtain ⟨H, hH⟩ : ∃ H, H = s.heap := ⟨_, rfl⟩
  rw [← hH]
  rw [← hH] at hP
  obtain ⟨locs, hlo⟩ : ∃ z : List Loc, z = [] := ⟨_, rfl⟩
  rw [← hlo]
  have hS : va_S A s.heap H locs := by rw [hH, hlo]; exact hS
  refine lv_aload_n hx hb dX6_swap_0 rfl (lv_at hl 0 rfl) ?_
  refine lv_aload_n hx hb dX6_swap_1 rfl (lv_at hl 0 rfl) ?_
  refine lv_iload_n hx hb dX6_swap_2 rfl (lv_at hl 1 rfl) ?_
  obtain ⟨r3, hr3, hF⟩ := opb hF
  refine kVI (As := [.int x1]) (rest := [.ref a_t]) (ws' := (wd_X6_swap cI a_t a_z a_history a_text a_left a_other a_smooth a_weights a_signs a_worked c_states c_length c_thrown c_codes c_read c_isOpen c_hash c_history c_left c_other c_z)) ⟨hx, hb, hml, hown, hts⟩ (c_X6_isPlace l D cI a_t a_z a_history a_text a_left a_other a_smooth a_weights a_signs a_worked H.size c_states c_length c_thrown c_codes c_read c_isOpen c_hash c_z x1 r3 hr3) (cwV 1 hts mw_X6_126 rfl rfl rfl hd_X6_isPlace ⟨Nat.le_of_ble_eq_true rfl, Nat.le_of_ble_eq_true rfl⟩) hS hA hG hK hP hD [0, 4] rfl rfl rfl rfl rfl ⟨Nat.zero_le _, Nat.zero_le _⟩ 6 0 rfl rfl rfl rfl hl.1 rfl (Nat.le_of_ble_eq_true rfl) dX6_swap_3 (fun H locs hP hD hS => ?_)
  refine lv_if_eq (tgt := 21) hx hb dX6_swap_6 (by decide) (fun k6 => ?_) (fun k6 => ?_)
  · replace hF := (if_pos k6).symm.trans hF
    refine lv_iconst (v := 1) hx hb dX6_swap_21 (by decide) ?_
    exact K22 c_states c_thrown c_history c_left c_other c_z (1 : Int32) H locs ls hP hD hS (lv_sub hl [0, 1, 2] rfl) hF
  · replace hF := (if_neg k6).symm.trans hF
    refine lv_aload_n hx hb dX6_swap_9 rfl (lv_at hl 0 rfl) ?_
    refine lv_iload_n hx hb dX6_swap_10 rfl (lv_at hl 2 rfl) ?_
    obtain ⟨r11, hr11, hF⟩ := opb hF
    refine kVI (As := [.int x2]) (rest := [.ref a_t]) (ws' := (wd_X6_swap cI a_t a_z a_history a_text a_left a_other a_smooth a_weights a_signs a_worked c_states c_length c_thrown c_codes c_read c_isOpen c_hash c_history c_left c_other c_z)) ⟨hx, hb, hml, hown, hts⟩ (c_X6_isPlace l D cI a_t a_z a_history a_text a_left a_other a_smooth a_weights a_signs a_worked H.size c_states c_length c_thrown c_codes c_read c_isOpen c_hash c_z x2 r11 hr11) (cwV 1 hts mw_X6_126 rfl rfl rfl hd_X6_isPlace ⟨Nat.le_of_ble_eq_true rfl, Nat.le_of_ble_eq_true rfl⟩) hS hA hG hK hP hD [0, 4] rfl rfl rfl rfl rfl ⟨Nat.zero_le _, Nat.zero_le _⟩ 6 0 rfl rfl rfl rfl hl.1 rfl (Nat.le_of_ble_eq_true rfl) dX6_swap_11 (fun H locs hP hD hS => ?_)
    refine lv_if_eq (tgt := 21) hx hb dX6_swap_14 (by decide) (fun k14 => ?_) (fun k14 => ?_)
    · (try simp only [if_pos k14] at hF)
      refine lv_iconst (v := 1) hx hb dX6_swap_21 (by decide) ?_
      exact K22 c_states c_thrown c_history c_left c_other c_z (1 : Int32) H locs ls hP hD hS (lv_sub hl [0, 1, 2] rfl) hF
    · (try simp only [if_neg k14] at hF)
      refine lv_iconst (v := 0) hx hb dX6_swap_17 (by decide) ?_
      refine lv_goto (tgt := 22) hx hb dX6_swap_18 (by decide) ?_
      exact K22 c_states c_thrown c_history c_left c_other c_z (0 : Int32) H locs ls hP hD hS (lv_sub hl [0, 1, 2] rfl) hF
abbrev wd_X6_turnAround (cI : ClassId) (a_t a_z a_history a_text a_left a_other a_smooth a_weights a_signs a_worked : Nat) (c_states : Int32) (c_length : Int32) (c_thrown : Int32) (c_codes : Int32) (c_read : Int32) (c_isOpen : Int32) (c_hash : Int64) (c_z : Nat → Int32) : va_W := [(a_t, .inr (6, [.ref a_z, .int c_states, .ref a_history, .int c_length, .ref a_text, .int c_thrown, .ref a_left, .ref a_other, .ref a_smooth, .ref a_weights, .int c_codes, .ref a_signs, .int c_read, .int c_isOpen, .ref a_worked, .long c_hash])), (a_z, .inl (cI, 13, .inl c_z))]
def rm_X6_turnAround : Room := { frames := 1, cells := 0, slots := 0, locals := 23 }
set_option maxHeartbeats 4000000 in
set_option maxRecDepth 100000 in
theorem c_X6_turnAround (l : Launch) (D : va_G) (cI : ClassId) (a_t a_z a_history a_text a_left a_other a_smooth a_weights a_signs a_worked : Nat) (sz : Nat) (c_states : Int32) (c_length : Int32) (c_thrown : Int32) (c_codes : Int32) (c_read : Int32) (c_isOpen : Int32) (c_hash : Int64) (c_z : Nat → Int32) (x1 : Int32) (x2 : Int32) (o : (Nat → Int32)) (hF : F_X6_turnAround c_z x1 x2 = some o) : Met l yX6_turnAround (Cond.code yX6_turnAround cX6_turnAround 4 none :: WL) rm_X6_turnAround (preM D [(cI, .int)] (wd_X6_turnAround cI a_t a_z a_history a_text a_left a_other a_smooth a_weights a_signs a_worked c_states c_length c_thrown c_codes c_read c_isOpen c_hash c_z) sz [.ref a_t, .int x1, .int x2]) (postV D (wd_X6_turnAround cI a_t a_z a_history a_text a_left a_other a_smooth a_weights a_signs a_worked c_states c_length c_thrown c_codes c_read c_isOpen c_hash o) (wd_X6_turnAround cI a_t a_z a_history a_text a_left a_other a_smooth a_weights a_signs a_worked c_states c_length c_thrown c_codes c_read c_isOpen c_hash c_z) sz) 0 0 (va_A (wd_X6_turnAround cI a_t a_z a_history a_text a_left a_other a_smooth a_weights a_signs a_worked c_states c_length c_thrown c_codes c_read c_isOpen c_hash c_z) sz) := by
  refine mofV (by decide +kernel) (Nat.le_of_ble_eq_true rfl) ?_
  intro p e s m args below meth c Q A ls hx hb hml hown hts hK hP hD hS hA hG hl hret hsz0
  have hl : lv_has ls 4 [(0, .ref a_t), (1, .int x1), (2, .int x2)] := hl
  have K2 : ∀ (n2 : Nat) (c_z : Nat → Int32) (x3 : Int32) (H : Heap) (locs : List Loc) (ls : Array Slot), va_P D vwCl (wd_X6_turnAround cI a_t a_z a_history a_text a_left a_other a_smooth a_weights a_signs a_worked c_states c_length c_thrown c_codes c_read c_isOpen c_hash c_z) H → va_D A (wd_X6_turnAround cI a_t a_z a_history a_text a_left a_other a_smooth a_weights a_signs a_worked c_states c_length c_thrown c_codes c_read c_isOpen c_hash c_z) → va_S A s.heap H locs → lv_has ls 4 [(0, .ref a_t), (1, .int x1), (2, .int x2), (3, .int x3)] → F_X6_turnAround_L2 x1 x2 n2 c_z x3 = some o → W p l e rm_X6_turnAround s m args below meth c H locs 0 0 Q (F0 m 2 ls []) := by
    intro n2
    induction n2 with
    | zero => intro c_z x3 H locs ls hP hD hS hl hF; exact nos hF
    | succ n2 ih2 =>
      intro c_z x3 H locs ls hP hD hS hl hF
      rw [F_X6_turnAround_L2] at hF
      refine lv_iload_n hx hb dX6_turnAround_2 rfl (lv_at hl 1 rfl) ?_
      refine lv_iload_n hx hb dX6_turnAround_3 rfl (lv_at hl 3 rfl) ?_
      refine lv_iadd hx hb dX6_turnAround_4 ?_
      refine lv_iload_n hx hb dX6_turnAround_5 rfl (lv_at hl 2 rfl) ?_
      refine lv_iload_n hx hb dX6_turnAround_6 rfl (lv_at hl 3 rfl) ?_
      refine lv_isub hx hb dX6_turnAround_7 ?_
      refine lv_icmp_ge (tgt := 27) hx hb dX6_turnAround_8 (by decide) (fun k8 => ?_) (fun k8 => ?_)
      · replace hF := (if_pos k8).symm.trans hF
        have ho := Option.some.inj hF
        exact hret H locs ls 27 _ hP hS (by rw [← ho]) dX6_turnAround_27
      · replace hF := (if_neg k8).symm.trans hF
        refine lv_aload_n hx hb dX6_turnAround_11 rfl (lv_at hl 0 rfl) ?_
        refine lv_iload_n hx hb dX6_turnAround_12 rfl (lv_at hl 1 rfl) ?_
        refine lv_iload_n hx hb dX6_turnAround_13 rfl (lv_at hl 3 rfl) ?_
        refine lv_iadd hx hb dX6_turnAround_14 ?_
        refine lv_iload_n hx hb dX6_turnAround_15 rfl (lv_at hl 2 rfl) ?_
        refine lv_iload_n hx hb dX6_turnAround_16 rfl (lv_at hl 3 rfl) ?_
        refine lv_isub hx hb dX6_turnAround_17 ?_
        obtain ⟨r18, hr18, hF⟩ := opb hF
        refine kVV (As := [.int (x1 + x3), .int (x2 - x3)]) (rest := []) (ws' := (wd_X6_turnAround cI a_t a_z a_history a_text a_left a_other a_smooth a_weights a_signs a_worked c_states c_length c_thrown c_codes c_read c_isOpen c_hash r18)) ⟨hx, hb, hml, hown, hts⟩ (c_X6_exchange l D cI a_t a_z a_history a_text a_left a_other a_smooth a_weights a_signs a_worked H.size c_states c_length c_thrown c_codes c_read c_isOpen c_hash c_z (x1 + x3) (x2 - x3) r18 hr18) (cwV 2 hts mw_X6_129 rfl rfl rfl hd_X6_exchange ⟨Nat.le_of_ble_eq_true rfl, Nat.le_of_ble_eq_true rfl⟩) hS hA hG hK hP hD [0, 1] rfl rfl rfl rfl rfl ⟨Nat.zero_le _, Nat.zero_le _⟩ 6 0 rfl rfl rfl rfl hl.1 rfl (Nat.le_of_ble_eq_true rfl) dX6_turnAround_18 (fun H locs hP hD hS => ?_)
        refine lv_iinc (v := x3 + 1) (lv' := [(3, .int (x3 + 1)), (0, .ref a_t), (1, .int x1), (2, .int x2)]) hx hb dX6_turnAround_21 hl (k := 3) rfl rfl (by decide) rfl (fun ls hl => ?_)
        refine lv_goto (tgt := 2) hx hb dX6_turnAround_24 (by decide) ?_
        exact ih2 r18 (x3 + 1) H locs ls hP hD hS (lv_sub hl [1, 2, 3, 0] rfl) hF
  unfold F_X6_turnAround at hF
  have hP : va_P D vwCl (wd_X6_turnAround cI a_t a_z a_history a_text a_left a_other a_smooth a_weights a_signs a_worked c_states c_length c_thrown c_codes c_read c_isOpen c_hash c_z) s.heap := hP
  obtain ⟨H, hH⟩ : ∃ H, H = s.heap := ⟨_, rfl⟩
  rw [← hH]
  rw [← hH] at hP
  obtain ⟨locs, hlo⟩ : ∃ z : List Loc, z = [] := ⟨_, rfl⟩
  rw [← hlo]
  have hS : va_S A s.heap H locs := by rw [hH, hlo]; exact hS
  refine lv_iconst (v := 0) hx hb dX6_turnAround_0 (by decide) ?_
  refine lv_istore_n (lv' := [(3, .int (0 : Int32)), (0, .ref a_t), (1, .int x1), (2, .int x2)]) hx hb dX6_turnAround_1 rfl hl (by decide) rfl (fun ls hl => ?_)
  exact K2 FU c_z (0 : Int32) H locs ls hP hD hS (lv_sub hl [1, 2, 3, 0] rfl) hF
abbrev wd_X6_turn (cI : ClassId) (a_t a_z a_history a_text a_left a_other a_smooth a_weights a_signs a_worked : Nat) (c_states : Int32) (c_length : Int32) (c_thrown : Int32) (c_codes : Int32) (c_read : Int32) (c_isOpen : Int32) (c_hash : Int64) (c_history : Nat → Int32) (c_left : Nat → Int32) (c_other : Nat → Int32) (c_z : Nat → Int32) : va_W := [(a_t, .inr (6, [.ref a_z, .int c_states, .ref a_history, .int c_length, .ref a_text, .int c_thrown, .ref a_left, .ref a_other, .ref a_smooth, .ref a_weights, .int c_codes, .ref a_signs, .int c_read, .int c_isOpen, .ref a_worked, .long c_hash])), (a_history, .inl (cI, 78, .inl c_history)), (a_left, .inl (cI, 6, .inl c_left)), (a_other, .inl (cI, 11, .inl c_other)), (a_z, .inl (cI, 13, .inl c_z))]
def rm_X6_turn : Room := { frames := 6, cells := 0, slots := 0, locals := 131 }
set_option maxHeartbeats 4000000 in
set_option maxRecDepth 100000 in
theorem c_X6_turn (l : Launch) (D : va_G) (cI : ClassId) (a_t a_z a_history a_text a_left a_other a_smooth a_weights a_signs a_worked : Nat) (sz : Nat) (c_states : Int32) (c_length : Int32) (c_thrown : Int32) (c_codes : Int32) (c_read : Int32) (c_isOpen : Int32) (c_hash : Int64) (c_history : Nat → Int32) (c_left : Nat → Int32) (c_other : Nat → Int32) (c_z : Nat → Int32) (x1 : Int32) (x2 : Int32) (o : Int32 × Int32 × Int32 × (Nat → Int32) × (Nat → Int32) × (Nat → Int32) × (Nat → Int32)) (hF : F_X6_turn c_states c_thrown c_history c_left c_other c_z x1 x2 = some o) : Met l yX6_turn (Cond.code yX6_turn cX6_turn 3 (some .int) :: WL) rm_X6_turn (preM D [(cI, .int)] (wd_X6_turn cI a_t a_z a_history a_text a_left a_other a_smooth a_weights a_signs a_worked c_states c_length c_thrown c_codes c_read c_isOpen c_hash c_history c_left c_other c_z) sz [.ref a_t, .int x1, .int x2]) (postI D o.1 (wd_X6_turn cI a_t a_z a_history a_text a_left a_other a_smooth a_weights a_signs a_worked o.2.1 c_length o.2.2.1 c_codes c_read c_isOpen c_hash o.2.2.2.1 o.2.2.2.2.1 o.2.2.2.2.2.1 o.2.2.2.2.2.2) (wd_X6_turn cI a_t a_z a_history a_text a_left a_other a_smooth a_weights a_signs a_worked c_states c_length c_thrown c_codes c_read c_isOpen c_hash c_history c_left c_other c_z) sz) 0 0 (va_A (wd_X6_turn cI a_t a_z a_history a_text a_left a_other a_smooth a_weights a_signs a_worked c_states c_length c_thrown c_codes c_read c_isOpen c_hash c_history c_left c_other c_z) sz) := by
  refine mofI (by decide +kernel) (Nat.le_of_ble_eq_true rfl) ?_
  intro p e s m args below meth c Q A ls hx hb hml hown hts hK hP hD hS hA hG hl hret hsz0
  have hl : lv_has ls 3 [(0, .ref a_t), (1, .int x1), (2, .int x2)] := hl
  have K31 : ∀ (c_states : Int32) (c_thrown : Int32) (c_history : Nat → Int32) (c_left : Nat → Int32) (c_other : Nat → Int32) (c_z : Nat → Int32) (v1 : Int32)  (H : Heap) (locs : List Loc) (ls : Array Slot), va_P D vwCl (wd_X6_turn cI a_t a_z a_history a_text a_left a_other a_smooth a_weights a_signs a_worked c_states c_length c_thrown c_codes c_read c_isOpen c_hash c_history c_left c_other c_z) H → va_D A (wd_X6_turn cI a_t a_z a_history a_text a_left a_other a_smooth a_weights a_signs a_worked c_states c_length c_thrown c_codes c_read c_isOpen c_hash c_history c_left c_other c_z) → va_S A s.heap H locs → lv_has ls 3 [(0, .ref a_t), (1, .int x1), (2, .int x2)] → F_X6_turn_J31 x1 x2 c_states c_thrown c_history c_left c_other c_z v1 = some o → W p l e rm_X6_turn s m args below meth c H locs 0 0 Q (F0 m 31 ls [.int v1, .ref a_t]) := by
    intro c_states c_thrown c_history c_left c_other c_z v1 H locs ls hP hD hS hl hF
    unfold F_X6_turn_J31 at hF
    refine put_X6_37 hx hb hts hown hK hP hD hS 0 rfl rfl rfl (Nat.le_of_ble_eq_true rfl) dX6_turn_31 (fun H locs hP hD hS => ?_)
    have hP : va_P D vwCl (wd_X6_turn cI a_t a_z a_history a_text a_left a_other a_smooth a_weights a_signs a_worked c_states c_length v1 c_codes c_read c_isOpen c_hash c_history c_left c_other c_z) H := hP
    have hD : va_D A (wd_X6_turn cI a_t a_z a_history a_text a_left a_other a_smooth a_weights a_signs a_worked c_states c_length v1 c_codes c_read c_isOpen c_hash c_history c_left c_other c_z) := hD
    refine lv_aload_n hx hb dX6_turn_34 rfl (lv_at hl 0 rfl) ?_
    refine get_X6_37 hx hb hts hown hK hP 0 rfl rfl dX6_turn_35 ?_
    refine lv_if_le (tgt := 43) hx hb dX6_turn_38 (by decide) (fun k38 => ?_) (fun k38 => ?_)
    · replace hF := (if_pos k38).symm.trans hF
      refine lv_aload_n hx hb dX6_turn_43 rfl (lv_at hl 0 rfl) ?_
      obtain ⟨r44, hr44, hF⟩ := opb hF
      refine kVV (As := []) (rest := []) (ws' := (wd_X6_turn cI a_t a_z a_history a_text a_left a_other a_smooth a_weights a_signs a_worked r44.1 c_length v1 c_codes c_read c_isOpen c_hash r44.2 c_left c_other c_z)) ⟨hx, hb, hml, hown, hts⟩ (c_X6_save l D cI a_t a_z a_history a_text a_left a_other a_smooth a_weights a_signs a_worked H.size c_states c_length v1 c_codes c_read c_isOpen c_hash c_history c_z  r44 hr44) (cwV 0 hts mw_X6_100 rfl rfl rfl hd_X6_save ⟨Nat.le_of_ble_eq_true rfl, Nat.le_of_ble_eq_true rfl⟩) hS hA hG hK hP hD [0, 1, 4] rfl rfl rfl rfl rfl ⟨Nat.zero_le _, Nat.zero_le _⟩ 6 0 rfl rfl rfl rfl hl.1 rfl (Nat.le_of_ble_eq_true rfl) dX6_turn_44 (fun H locs hP hD hS => ?_)
      refine lv_aload_n hx hb dX6_turn_47 rfl (lv_at hl 0 rfl) ?_
      refine lv_iload_n hx hb dX6_turn_48 rfl (lv_at hl 1 rfl) ?_
      refine lv_iload_n hx hb dX6_turn_49 rfl (lv_at hl 2 rfl) ?_
      obtain ⟨r50, hr50, hF⟩ := opb hF
      refine kVV (As := [.int x1, .int x2]) (rest := []) (ws' := (wd_X6_turn cI a_t a_z a_history a_text a_left a_other a_smooth a_weights a_signs a_worked r44.1 c_length v1 c_codes c_read c_isOpen c_hash r44.2 c_left c_other r50)) ⟨hx, hb, hml, hown, hts⟩ (c_X6_turnAround l D cI a_t a_z a_history a_text a_left a_other a_smooth a_weights a_signs a_worked H.size r44.1 c_length v1 c_codes c_read c_isOpen c_hash c_z x1 x2 r50 hr50) (cwV 2 hts mw_X6_133 rfl rfl rfl hd_X6_turnAround ⟨Nat.le_of_ble_eq_true rfl, Nat.le_of_ble_eq_true rfl⟩) hS hA hG hK hP hD [0, 4] rfl rfl rfl rfl rfl ⟨Nat.zero_le _, Nat.zero_le _⟩ 6 0 rfl rfl rfl rfl hl.1 rfl (Nat.le_of_ble_eq_true rfl) dX6_turn_50 (fun H locs hP hD hS => ?_)
      refine lv_aload_n hx hb dX6_turn_53 rfl (lv_at hl 0 rfl) ?_
      obtain ⟨r54, hr54, hF⟩ := opb hF
      refine kVI (As := []) (rest := []) (ws' := (wd_X6_turn cI a_t a_z a_history a_text a_left a_other a_smooth a_weights a_signs a_worked r44.1 c_length v1 c_codes c_read c_isOpen c_hash r44.2 r54.2.1 r54.2.2 r50)) ⟨hx, hb, hml, hown, hts⟩ (c_X6_rankNow l D cI a_t a_z a_history a_text a_left a_other a_smooth a_weights a_signs a_worked H.size r44.1 c_length v1 c_codes c_read c_isOpen c_hash c_left c_other r50  r54 hr54) (cwV 0 hts mw_X6_97 rfl rfl rfl hd_X6_rankNow ⟨Nat.le_of_ble_eq_true rfl, Nat.le_of_ble_eq_true rfl⟩) hS hA hG hK hP hD [0, 2, 3, 4] rfl rfl rfl rfl rfl ⟨Nat.zero_le _, Nat.zero_le _⟩ 6 0 rfl rfl rfl rfl hl.1 rfl (Nat.le_of_ble_eq_true rfl) dX6_turn_54 (fun H locs hP hD hS => ?_)
      have ho := Option.some.inj hF
      exact hret H locs ls 57 r54.1 _ hP hS (by rw [← ho]) (by rw [← ho]) dX6_turn_57
    · replace hF := (if_neg k38).symm.trans hF
      refine lv_iconst (v := 0) hx hb dX6_turn_41 (by decide) ?_
      have ho := Option.some.inj hF
      exact hret H locs ls 42 (0 : Int32) _ hP hS (by rw [← ho]) (by rw [← ho]) dX6_turn_42
  unfold F_X6_turn at hF
  have hP : va_P D vwCl (wd_X6_turn cI a_t a_z a_history a_text a_left a_other a_smooth a_weights a_signs a_worked c_states c_length c_thrown c_codes c_read c_isOpen c_hash c_history c_left c_other c_z) s.heap := hP
  obtain ⟨H, hH⟩ : ∃ H, H = s.heap := ⟨_, rfl⟩
  rw [← hH]
  rw [← hH] at hP
  obtain ⟨locs, hlo⟩ : ∃ z : List Loc, z = [] := ⟨_, rfl⟩
  rw [← hlo]
  have hS : va_S A s.heap H locs := by rw [hH, hlo]; exact hS
  refine lv_aload_n hx hb dX6_turn_0 rfl (lv_at hl 0 rfl) ?_
  refine lv_aload_n hx hb dX6_turn_1 rfl (lv_at hl 0 rfl) ?_
  refine lv_iload_n hx hb dX6_turn_2 rfl (lv_at hl 1 rfl) ?_
  obtain ⟨r3, hr3, hF⟩ := opb hF
  refine kVI (As := [.int x1]) (rest := [.ref a_t]) (ws' := (wd_X6_turn cI a_t a_z a_history a_text a_left a_other a_smooth a_weights a_signs a_worked c_states c_length c_thrown c_codes c_read c_isOpen c_hash c_history c_left c_other c_z)) ⟨hx, hb, hml, hown, hts⟩ (c_X6_isPlace l D cI a_t a_z a_history a_text a_left a_other a_smooth a_weights a_signs a_worked H.size c_states c_length c_thrown c_codes c_read c_isOpen c_hash c_z x1 r3 hr3) (cwV 1 hts mw_X6_126 rfl rfl rfl hd_X6_isPlace ⟨Nat.le_of_ble_eq_true rfl, Nat.le_of_ble_eq_true rfl⟩) hS hA hG hK hP hD [0, 4] rfl rfl rfl rfl rfl ⟨Nat.zero_le _, Nat.zero_le _⟩ 6 0 rfl rfl rfl rfl hl.1 rfl (Nat.le_of_ble_eq_true rfl) dX6_turn_3 (fun H locs hP hD hS => ?_)
  refine lv_if_eq (tgt := 17) hx hb dX6_turn_6 (by decide) (fun k6 => ?_) (fun k6 => ?_)
  · replace hF := (if_pos k6).symm.trans hF
    refine lv_iconst (v := 1) hx hb dX6_turn_17 (by decide) ?_
    refine lv_goto (tgt := 31) hx hb dX6_turn_18 (by decide) ?_
    exact K31 c_states c_thrown c_history c_left c_other c_z (1 : Int32) H locs ls hP hD hS (lv_sub hl [0, 1, 2] rfl) hF
  · replace hF := (if_neg k6).symm.trans hF
    refine lv_aload_n hx hb dX6_turn_9 rfl (lv_at hl 0 rfl) ?_
    refine lv_iload_n hx hb dX6_turn_10 rfl (lv_at hl 2 rfl) ?_
    obtain ⟨r11, hr11, hF⟩ := opb hF
    refine kVI (As := [.int x2]) (rest := [.ref a_t]) (ws' := (wd_X6_turn cI a_t a_z a_history a_text a_left a_other a_smooth a_weights a_signs a_worked c_states c_length c_thrown c_codes c_read c_isOpen c_hash c_history c_left c_other c_z)) ⟨hx, hb, hml, hown, hts⟩ (c_X6_isPlace l D cI a_t a_z a_history a_text a_left a_other a_smooth a_weights a_signs a_worked H.size c_states c_length c_thrown c_codes c_read c_isOpen c_hash c_z x2 r11 hr11) (cwV 1 hts mw_X6_126 rfl rfl rfl hd_X6_isPlace ⟨Nat.le_of_ble_eq_true rfl, Nat.le_of_ble_eq_true rfl⟩) hS hA hG hK hP hD [0, 4] rfl rfl rfl rfl rfl ⟨Nat.zero_le _, Nat.zero_le _⟩ 6 0 rfl rfl rfl rfl hl.1 rfl (Nat.le_of_ble_eq_true rfl) dX6_turn_11 (fun H locs hP hD hS => ?_)
    refine lv_if_ne (tgt := 21) hx hb dX6_turn_14 (by decide) (fun k14 => ?_) (fun k14 => ?_)
    · (try simp only [if_neg k14] at hF)
      refine lv_iload_n hx hb dX6_turn_21 rfl (lv_at hl 2 rfl) ?_
      refine lv_iload_n hx hb dX6_turn_22 rfl (lv_at hl 1 rfl) ?_
      refine lv_icmp_ge (tgt := 30) hx hb dX6_turn_23 (by decide) (fun k23 => ?_) (fun k23 => ?_)
      · (try simp only [if_pos k23] at hF)
        refine lv_iconst (v := 0) hx hb dX6_turn_30 (by decide) ?_
        exact K31 c_states c_thrown c_history c_left c_other c_z (0 : Int32) H locs ls hP hD hS (lv_sub hl [0, 1, 2] rfl) hF
      · (try simp only [if_neg k23] at hF)
        refine lv_iconst (v := 2) hx hb dX6_turn_26 (by decide) ?_
        refine lv_goto (tgt := 31) hx hb dX6_turn_27 (by decide) ?_
        exact K31 c_states c_thrown c_history c_left c_other c_z (2 : Int32) H locs ls hP hD hS (lv_sub hl [0, 1, 2] rfl) hF
    · (try simp only [if_pos k14] at hF)
      refine lv_iconst (v := 1) hx hb dX6_turn_17 (by decide) ?_
      refine lv_goto (tgt := 31) hx hb dX6_turn_18 (by decide) ?_
      exact K31 c_states c_thrown c_history c_left c_other c_z (1 : Int32) H locs ls hP hD hS (lv_sub hl [0, 1, 2] rfl) hF
abbrev wd_X6_step (cI : ClassId) (a_t a_z a_history a_text a_left a_other a_smooth a_weights a_signs a_worked : Nat) (c_states : Int32) (c_length : Int32) (c_thrown : Int32) (c_codes : Int32) (c_read : Int32) (c_isOpen : Int32) (c_hash : Int64) (c_z : Nat → Int32) : va_W := [(a_t, .inr (6, [.ref a_z, .int c_states, .ref a_history, .int c_length, .ref a_text, .int c_thrown, .ref a_left, .ref a_other, .ref a_smooth, .ref a_weights, .int c_codes, .ref a_signs, .int c_read, .int c_isOpen, .ref a_worked, .long c_hash])), (a_z, .inl (cI, 13, .inl c_z))]
def rm_X6_step : Room := { frames := 1, cells := 0, slots := 0, locals := 23 }
set_option maxHeartbeats 4000000 in
set_option maxRecDepth 100000 in
theorem c_X6_step (l : Launch) (D : va_G) (cI : ClassId) (a_t a_z a_history a_text a_left a_other a_smooth a_weights a_signs a_worked : Nat) (sz : Nat) (c_states : Int32) (c_length : Int32) (c_thrown : Int32) (c_codes : Int32) (c_read : Int32) (c_isOpen : Int32) (c_hash : Int64) (c_z : Nat → Int32) (x1 : Int32) (o : Int32 × (Nat → Int32)) (hF : F_X6_step c_z x1 = some o) : Met l yX6_step (Cond.code yX6_step cX6_step 3 (some .int) :: WL) rm_X6_step (preM D [(cI, .int)] (wd_X6_step cI a_t a_z a_history a_text a_left a_other a_smooth a_weights a_signs a_worked c_states c_length c_thrown c_codes c_read c_isOpen c_hash c_z) sz [.ref a_t, .int x1]) (postI D o.1 (wd_X6_step cI a_t a_z a_history a_text a_left a_other a_smooth a_weights a_signs a_worked c_states c_length c_thrown c_codes c_read c_isOpen c_hash o.2) (wd_X6_step cI a_t a_z a_history a_text a_left a_other a_smooth a_weights a_signs a_worked c_states c_length c_thrown c_codes c_read c_isOpen c_hash c_z) sz) 0 0 (va_A (wd_X6_step cI a_t a_z a_history a_text a_left a_other a_smooth a_weights a_signs a_worked c_states c_length c_thrown c_codes c_read c_isOpen c_hash c_z) sz) := by
  refine mofI (by decide +kernel) (Nat.le_of_ble_eq_true rfl) ?_
  intro p e s m args below meth c Q A ls hx hb hml hown hts hK hP hD hS hA hG hl hret hsz0
  have hl : lv_has ls 3 [(0, .ref a_t), (1, .int x1)] := hl
  have K33 : ∀ (n33 : Nat) (c_z : Nat → Int32) (x2 : Int32) (H : Heap) (locs : List Loc) (ls : Array Slot), va_P D vwCl (wd_X6_step cI a_t a_z a_history a_text a_left a_other a_smooth a_weights a_signs a_worked c_states c_length c_thrown c_codes c_read c_isOpen c_hash c_z) H → va_D A (wd_X6_step cI a_t a_z a_history a_text a_left a_other a_smooth a_weights a_signs a_worked c_states c_length c_thrown c_codes c_read c_isOpen c_hash c_z) → va_S A s.heap H locs → lv_has ls 3 [(0, .ref a_t), (2, .int x2)] → F_X6_step_L33 x1 n33 c_z x2 = some o → W p l e rm_X6_step s m args below meth c H locs 0 0 Q (F0 m 33 ls []) := by
    intro n33
    induction n33 with
    | zero => intro c_z x2 H locs ls hP hD hS hl hF; exact nos hF
    | succ n33 ih33 =>
      intro c_z x2 H locs ls hP hD hS hl hF
      rw [F_X6_step_L33] at hF
      refine lv_iload_n hx hb dX6_step_33 rfl (lv_at hl 1 rfl) ?_
      refine lv_if_le (tgt := 51) hx hb dX6_step_34 (by decide) (fun k34 => ?_) (fun k34 => ?_)
      · replace hF := (if_pos k34).symm.trans hF
        refine lv_iconst (v := 0) hx hb dX6_step_51 (by decide) ?_
        have ho := Option.some.inj hF
        exact hret H locs ls 52 (0 : Int32) _ hP hS (by rw [← ho]) (by rw [← ho]) dX6_step_52
      · replace hF := (if_neg k34).symm.trans hF
        refine lv_aload_n hx hb dX6_step_37 rfl (lv_at hl 0 rfl) ?_
        refine lv_iload_n hx hb dX6_step_38 rfl (lv_at hl 1 rfl) ?_
        refine lv_iload_n hx hb dX6_step_39 rfl (lv_at hl 1 rfl) ?_
        refine lv_iconst (v := 1) hx hb dX6_step_40 (by decide) ?_
        refine lv_isub hx hb dX6_step_41 ?_
        obtain ⟨r42, hr42, hF⟩ := opb hF
        refine kVV (As := [.int x2, .int (x2 - (1 : Int32))]) (rest := []) (ws' := (wd_X6_step cI a_t a_z a_history a_text a_left a_other a_smooth a_weights a_signs a_worked c_states c_length c_thrown c_codes c_read c_isOpen c_hash r42)) ⟨hx, hb, hml, hown, hts⟩ (c_X6_exchange l D cI a_t a_z a_history a_text a_left a_other a_smooth a_weights a_signs a_worked H.size c_states c_length c_thrown c_codes c_read c_isOpen c_hash c_z x2 (x2 - (1 : Int32)) r42 hr42) (cwV 2 hts mw_X6_129 rfl rfl rfl hd_X6_exchange ⟨Nat.le_of_ble_eq_true rfl, Nat.le_of_ble_eq_true rfl⟩) hS hA hG hK hP hD [0, 1] rfl rfl rfl rfl rfl ⟨Nat.zero_le _, Nat.zero_le _⟩ 6 0 rfl rfl rfl rfl hl.1 rfl (Nat.le_of_ble_eq_true rfl) dX6_step_42 (fun H locs hP hD hS => ?_)
        refine lv_iinc (v := x2 + (-1)) (lv' := [(2, .int (x2 + (-1))), (0, .ref a_t)]) hx hb dX6_step_45 hl (k := 1) rfl rfl (by decide) rfl (fun ls hl => ?_)
        refine lv_goto (tgt := 33) hx hb dX6_step_48 (by decide) ?_
        exact ih33 r42 (x2 + (-1)) H locs ls hP hD hS (lv_sub hl [1, 0] rfl) hF
  unfold F_X6_step at hF
  have hP : va_P D vwCl (wd_X6_step cI a_t a_z a_history a_text a_left a_other a_smooth a_weights a_signs a_worked c_states c_length c_thrown c_codes c_read c_isOpen c_hash c_z) s.heap := hP
  obtain ⟨H, hH⟩ : ∃ H, H = s.heap := ⟨_, rfl⟩
  rw [← hH]
  rw [← hH] at hP
  obtain ⟨locs, hlo⟩ : ∃ z : List Loc, z = [] := ⟨_, rfl⟩
  rw [← hlo]
  have hS : va_S A s.heap H locs := by rw [hH, hlo]; exact hS
  refine lv_iload_n hx hb dX6_step_0 rfl (lv_at hl 1 rfl) ?_
  refine lv_aload_n hx hb dX6_step_1 rfl (lv_at hl 0 rfl) ?_
  refine get_X6_7 hx hb hts hown hK hP 0 rfl rfl dX6_step_2 ?_
  refine lv_iconst (v := 0) hx hb dX6_step_5 (by decide) ?_
  obtain ⟨g6, hF⟩ := gdb hF
  refine va_iald hx hb hK hP 1 0 rfl rfl (vinb g6) dX6_step_6 ?_
  refine lv_iconst (v := 1) hx hb dX6_step_7 (by decide) ?_
  refine lv_isub hx hb dX6_step_8 ?_
  refine lv_icmp_ge (tgt := 24) hx hb dX6_step_9 (by decide) (fun k9 => ?_) (fun k9 => ?_)
  · replace hF := (if_pos k9).symm.trans hF
    refine lv_aload_n hx hb dX6_step_24 rfl (lv_at hl 0 rfl) ?_
    refine get_X6_7 hx hb hts hown hK hP 0 rfl rfl dX6_step_25 ?_
    refine lv_iconst (v := 0) hx hb dX6_step_28 (by decide) ?_
    obtain ⟨g29, hF⟩ := gdb hF
    refine va_iald hx hb hK hP 1 0 rfl rfl (vinb g29) dX6_step_29 ?_
    refine lv_iconst (v := 1) hx hb dX6_step_30 (by decide) ?_
    refine lv_isub hx hb dX6_step_31 ?_
    refine lv_istore_n (lv' := [(2, .int ((c_z ((0 : Int32)).toNatClampNeg) - (1 : Int32))), (0, .ref a_t), (1, .int x1)]) hx hb dX6_step_32 rfl hl (by decide) rfl (fun ls hl => ?_)
    exact K33 FU c_z ((c_z ((0 : Int32)).toNatClampNeg) - (1 : Int32)) H locs ls hP hD hS (lv_sub hl [1, 0] rfl) hF
  · replace hF := (if_neg k9).symm.trans hF
    refine lv_aload_n hx hb dX6_step_12 rfl (lv_at hl 0 rfl) ?_
    refine lv_iload_n hx hb dX6_step_13 rfl (lv_at hl 1 rfl) ?_
    refine lv_iload_n hx hb dX6_step_14 rfl (lv_at hl 1 rfl) ?_
    refine lv_iconst (v := 1) hx hb dX6_step_15 (by decide) ?_
    refine lv_iadd hx hb dX6_step_16 ?_
    obtain ⟨r17, hr17, hF⟩ := opb hF
    refine kVV (As := [.int x1, .int (x1 + (1 : Int32))]) (rest := []) (ws' := (wd_X6_step cI a_t a_z a_history a_text a_left a_other a_smooth a_weights a_signs a_worked c_states c_length c_thrown c_codes c_read c_isOpen c_hash r17)) ⟨hx, hb, hml, hown, hts⟩ (c_X6_exchange l D cI a_t a_z a_history a_text a_left a_other a_smooth a_weights a_signs a_worked H.size c_states c_length c_thrown c_codes c_read c_isOpen c_hash c_z x1 (x1 + (1 : Int32)) r17 hr17) (cwV 2 hts mw_X6_129 rfl rfl rfl hd_X6_exchange ⟨Nat.le_of_ble_eq_true rfl, Nat.le_of_ble_eq_true rfl⟩) hS hA hG hK hP hD [0, 1] rfl rfl rfl rfl rfl ⟨Nat.zero_le _, Nat.zero_le _⟩ 6 0 rfl rfl rfl rfl hl.1 rfl (Nat.le_of_ble_eq_true rfl) dX6_step_17 (fun H locs hP hD hS => ?_)
    refine lv_iload_n hx hb dX6_step_20 rfl (lv_at hl 1 rfl) ?_
    refine lv_iconst (v := 1) hx hb dX6_step_21 (by decide) ?_
    refine lv_iadd hx hb dX6_step_22 ?_
    have ho := Option.some.inj hF
    exact hret H locs ls 23 (x1 + (1 : Int32)) _ hP hS (by rw [← ho]) (by rw [← ho]) dX6_step_23
abbrev wd_X6_carry (cI : ClassId) (a_t a_z a_history a_text a_left a_other a_smooth a_weights a_signs a_worked : Nat) (c_states : Int32) (c_length : Int32) (c_thrown : Int32) (c_codes : Int32) (c_read : Int32) (c_isOpen : Int32) (c_hash : Int64) (c_history : Nat → Int32) (c_z : Nat → Int32) : va_W := [(a_t, .inr (6, [.ref a_z, .int c_states, .ref a_history, .int c_length, .ref a_text, .int c_thrown, .ref a_left, .ref a_other, .ref a_smooth, .ref a_weights, .int c_codes, .ref a_signs, .int c_read, .int c_isOpen, .ref a_worked, .long c_hash])), (a_history, .inl (cI, 78, .inl c_history)), (a_z, .inl (cI, 13, .inl c_z))]
def rm_X6_carry : Room := { frames := 2, cells := 0, slots := 0, locals := 45 }
set_option maxHeartbeats 4000000 in
set_option maxRecDepth 100000 in
theorem c_X6_carry (l : Launch) (D : va_G) (cI : ClassId) (a_t a_z a_history a_text a_left a_other a_smooth a_weights a_signs a_worked : Nat) (sz : Nat) (c_states : Int32) (c_length : Int32) (c_thrown : Int32) (c_codes : Int32) (c_read : Int32) (c_isOpen : Int32) (c_hash : Int64) (c_history : Nat → Int32) (c_z : Nat → Int32) (x1 : Int32) (x2 : Int32) (o : Int32 × Int32 × Int32 × (Nat → Int32) × (Nat → Int32)) (hF : F_X6_carry c_states c_thrown c_history c_z x1 x2 = some o) : Met l yX6_carry (Cond.code yX6_carry cX6_carry 5 (some .int) :: WL) rm_X6_carry (preM D [(cI, .int)] (wd_X6_carry cI a_t a_z a_history a_text a_left a_other a_smooth a_weights a_signs a_worked c_states c_length c_thrown c_codes c_read c_isOpen c_hash c_history c_z) sz [.ref a_t, .int x1, .int x2]) (postI D o.1 (wd_X6_carry cI a_t a_z a_history a_text a_left a_other a_smooth a_weights a_signs a_worked o.2.1 c_length o.2.2.1 c_codes c_read c_isOpen c_hash o.2.2.2.1 o.2.2.2.2) (wd_X6_carry cI a_t a_z a_history a_text a_left a_other a_smooth a_weights a_signs a_worked c_states c_length c_thrown c_codes c_read c_isOpen c_hash c_history c_z) sz) 0 0 (va_A (wd_X6_carry cI a_t a_z a_history a_text a_left a_other a_smooth a_weights a_signs a_worked c_states c_length c_thrown c_codes c_read c_isOpen c_hash c_history c_z) sz) := by
  refine mofI (by decide +kernel) (Nat.le_of_ble_eq_true rfl) ?_
  intro p e s m args below meth c Q A ls hx hb hml hown hts hK hP hD hS hA hG hl hret hsz0
  have hl : lv_has ls 5 [(0, .ref a_t), (1, .int x1), (2, .int x2)] := hl
  have K49 : ∀ (n49 : Nat) (c_states : Int32) (c_thrown : Int32) (c_history : Nat → Int32) (c_z : Nat → Int32) (x3 : Int32) (x4 : Int32) (H : Heap) (locs : List Loc) (ls : Array Slot), va_P D vwCl (wd_X6_carry cI a_t a_z a_history a_text a_left a_other a_smooth a_weights a_signs a_worked c_states c_length c_thrown c_codes c_read c_isOpen c_hash c_history c_z) H → va_D A (wd_X6_carry cI a_t a_z a_history a_text a_left a_other a_smooth a_weights a_signs a_worked c_states c_length c_thrown c_codes c_read c_isOpen c_hash c_history c_z) → va_S A s.heap H locs → lv_has ls 5 [(0, .ref a_t), (2, .int x2), (3, .int x3), (4, .int x4)] → F_X6_carry_L49 x1 x2 n49 c_states c_thrown c_history c_z x3 x4 = some o → W p l e rm_X6_carry s m args below meth c H locs 0 0 Q (F0 m 49 ls []) := by
    intro n49
    induction n49 with
    | zero => intro c_states c_thrown c_history c_z x3 x4 H locs ls hP hD hS hl hF; exact nos hF
    | succ n49 ih49 =>
      intro c_states c_thrown c_history c_z x3 x4 H locs ls hP hD hS hl hF
      rw [F_X6_carry_L49] at hF
      refine lv_iload hx hb dX6_carry_49 (lv_at hl 3 rfl) ?_
      refine lv_iload_n hx hb dX6_carry_51 rfl (lv_at hl 1 rfl) ?_
      refine lv_icmp_ge (tgt := 67) hx hb dX6_carry_52 (by decide) (fun k52 => ?_) (fun k52 => ?_)
      · replace hF := (if_pos k52).symm.trans hF
        refine lv_iload_n hx hb dX6_carry_67 rfl (lv_at hl 2 rfl) ?_
        have ho := Option.some.inj hF
        exact hret H locs ls 68 x3 _ hP hS (by rw [← ho]) (by rw [← ho]) dX6_carry_68
      · replace hF := (if_neg k52).symm.trans hF
        refine lv_aload_n hx hb dX6_carry_55 rfl (lv_at hl 0 rfl) ?_
        refine lv_iload_n hx hb dX6_carry_56 rfl (lv_at hl 2 rfl) ?_
        obtain ⟨r57, hr57, hF⟩ := opb hF
        refine kVI (As := [.int x3]) (rest := []) (ws' := (wd_X6_carry cI a_t a_z a_history a_text a_left a_other a_smooth a_weights a_signs a_worked c_states c_length c_thrown c_codes c_read c_isOpen c_hash c_history r57.2)) ⟨hx, hb, hml, hown, hts⟩ (c_X6_step l D cI a_t a_z a_history a_text a_left a_other a_smooth a_weights a_signs a_worked H.size c_states c_length c_thrown c_codes c_read c_isOpen c_hash c_z x3 r57 hr57) (cwV 1 hts mw_X6_136 rfl rfl rfl hd_X6_step ⟨Nat.le_of_ble_eq_true rfl, Nat.le_of_ble_eq_true rfl⟩) hS hA hG hK hP hD [0, 2] rfl rfl rfl rfl rfl ⟨Nat.zero_le _, Nat.zero_le _⟩ 6 0 rfl rfl rfl rfl hl.1 rfl (Nat.le_of_ble_eq_true rfl) dX6_carry_57 (fun H locs hP hD hS => ?_)
        refine lv_istore_n (lv' := [(3, .int r57.1), (0, .ref a_t), (2, .int x2), (4, .int x4)]) hx hb dX6_carry_60 rfl hl (by decide) rfl (fun ls hl => ?_)
        refine lv_iinc (v := x4 + 1) (lv' := [(4, .int (x4 + 1)), (3, .int r57.1), (0, .ref a_t), (2, .int x2)]) hx hb dX6_carry_61 hl (k := 3) rfl rfl (by decide) rfl (fun ls hl => ?_)
        refine lv_goto (tgt := 49) hx hb dX6_carry_64 (by decide) ?_
        exact ih49 c_states c_thrown c_history r57.2 r57.1 (x4 + 1) H locs ls hP hD hS (lv_sub hl [2, 3, 1, 0] rfl) hF
  have K28 : ∀ (c_states : Int32) (c_thrown : Int32) (c_history : Nat → Int32) (c_z : Nat → Int32) (v1 : Int32)  (H : Heap) (locs : List Loc) (ls : Array Slot), va_P D vwCl (wd_X6_carry cI a_t a_z a_history a_text a_left a_other a_smooth a_weights a_signs a_worked c_states c_length c_thrown c_codes c_read c_isOpen c_hash c_history c_z) H → va_D A (wd_X6_carry cI a_t a_z a_history a_text a_left a_other a_smooth a_weights a_signs a_worked c_states c_length c_thrown c_codes c_read c_isOpen c_hash c_history c_z) → va_S A s.heap H locs → lv_has ls 5 [(0, .ref a_t), (1, .int x1), (2, .int x2)] → F_X6_carry_J28 x1 x2 c_states c_thrown c_history c_z v1 = some o → W p l e rm_X6_carry s m args below meth c H locs 0 0 Q (F0 m 28 ls [.int v1, .ref a_t]) := by
    intro c_states c_thrown c_history c_z v1 H locs ls hP hD hS hl hF
    unfold F_X6_carry_J28 at hF
    refine put_X6_37 hx hb hts hown hK hP hD hS 0 rfl rfl rfl (Nat.le_of_ble_eq_true rfl) dX6_carry_28 (fun H locs hP hD hS => ?_)
    have hP : va_P D vwCl (wd_X6_carry cI a_t a_z a_history a_text a_left a_other a_smooth a_weights a_signs a_worked c_states c_length v1 c_codes c_read c_isOpen c_hash c_history c_z) H := hP
    have hD : va_D A (wd_X6_carry cI a_t a_z a_history a_text a_left a_other a_smooth a_weights a_signs a_worked c_states c_length v1 c_codes c_read c_isOpen c_hash c_history c_z) := hD
    refine lv_aload_n hx hb dX6_carry_31 rfl (lv_at hl 0 rfl) ?_
    refine get_X6_37 hx hb hts hown hK hP 0 rfl rfl dX6_carry_32 ?_
    refine lv_if_le (tgt := 40) hx hb dX6_carry_35 (by decide) (fun k35 => ?_) (fun k35 => ?_)
    · replace hF := (if_pos k35).symm.trans hF
      refine lv_aload_n hx hb dX6_carry_40 rfl (lv_at hl 0 rfl) ?_
      obtain ⟨r41, hr41, hF⟩ := opb hF
      refine kVV (As := []) (rest := []) (ws' := (wd_X6_carry cI a_t a_z a_history a_text a_left a_other a_smooth a_weights a_signs a_worked r41.1 c_length v1 c_codes c_read c_isOpen c_hash r41.2 c_z)) ⟨hx, hb, hml, hown, hts⟩ (c_X6_save l D cI a_t a_z a_history a_text a_left a_other a_smooth a_weights a_signs a_worked H.size c_states c_length v1 c_codes c_read c_isOpen c_hash c_history c_z  r41 hr41) (cwV 0 hts mw_X6_100 rfl rfl rfl hd_X6_save ⟨Nat.le_of_ble_eq_true rfl, Nat.le_of_ble_eq_true rfl⟩) hS hA hG hK hP hD [0, 1, 2] rfl rfl rfl rfl rfl ⟨Nat.zero_le _, Nat.zero_le _⟩ 6 0 rfl rfl rfl rfl hl.1 rfl (Nat.le_of_ble_eq_true rfl) dX6_carry_41 (fun H locs hP hD hS => ?_)
      refine lv_iload_n hx hb dX6_carry_44 rfl (lv_at hl 1 rfl) ?_
      refine lv_istore_n (lv' := [(3, .int x1), (0, .ref a_t), (1, .int x1), (2, .int x2)]) hx hb dX6_carry_45 rfl hl (by decide) rfl (fun ls hl => ?_)
      refine lv_iconst (v := 0) hx hb dX6_carry_46 (by decide) ?_
      refine lv_istore (lv' := [(4, .int (0 : Int32)), (3, .int x1), (0, .ref a_t), (1, .int x1), (2, .int x2)]) hx hb dX6_carry_47 hl (by decide) rfl (fun ls hl => ?_)
      exact K49 FU r41.1 v1 r41.2 c_z x1 (0 : Int32) H locs ls hP hD hS (lv_sub hl [2, 4, 1, 0] rfl) hF
    · replace hF := (if_neg k35).symm.trans hF
      refine lv_iconst (v := 0) hx hb dX6_carry_38 (by decide) ?_
      have ho := Option.some.inj hF
      exact hret H locs ls 39 (0 : Int32) _ hP hS (by rw [← ho]) (by rw [← ho]) dX6_carry_39
  unfold F_X6_carry at hF
  have hP : va_P D vwCl (wd_X6_carry cI a_t a_z a_history a_text a_left a_other a_smooth a_weights a_signs a_worked c_states c_length c_thrown c_codes c_read c_isOpen c_hash c_history c_z) s.heap := hP
  obtain ⟨H, hH⟩ : ∃ H, H = s.heap := ⟨_, rfl⟩
  rw [← hH]
  rw [← hH] at hP
  obtain ⟨locs, hlo⟩ : ∃ z : List Loc, z = [] := ⟨_, rfl⟩
  rw [← hlo]
  have hS : va_S A s.heap H locs := by rw [hH, hlo]; exact hS
  refine lv_aload_n hx hb dX6_carry_0 rfl (lv_at hl 0 rfl) ?_
  refine lv_aload_n hx hb dX6_carry_1 rfl (lv_at hl 0 rfl) ?_
  refine lv_iload_n hx hb dX6_carry_2 rfl (lv_at hl 1 rfl) ?_
  obtain ⟨r3, hr3, hF⟩ := opb hF
  refine kVI (As := [.int x1]) (rest := [.ref a_t]) (ws' := (wd_X6_carry cI a_t a_z a_history a_text a_left a_other a_smooth a_weights a_signs a_worked c_states c_length c_thrown c_codes c_read c_isOpen c_hash c_history c_z)) ⟨hx, hb, hml, hown, hts⟩ (c_X6_isPlace l D cI a_t a_z a_history a_text a_left a_other a_smooth a_weights a_signs a_worked H.size c_states c_length c_thrown c_codes c_read c_isOpen c_hash c_z x1 r3 hr3) (cwV 1 hts mw_X6_126 rfl rfl rfl hd_X6_isPlace ⟨Nat.le_of_ble_eq_true rfl, Nat.le_of_ble_eq_true rfl⟩) hS hA hG hK hP hD [0, 2] rfl rfl rfl rfl rfl ⟨Nat.zero_le _, Nat.zero_le _⟩ 6 0 rfl rfl rfl rfl hl.1 rfl (Nat.le_of_ble_eq_true rfl) dX6_carry_3 (fun H locs hP hD hS => ?_)
  refine lv_if_ne (tgt := 13) hx hb dX6_carry_6 (by decide) (fun k6 => ?_) (fun k6 => ?_)
  · replace hF := (if_neg k6).symm.trans hF
    refine lv_iload_n hx hb dX6_carry_13 rfl (lv_at hl 2 rfl) ?_
    refine lv_iconst (v := 0) hx hb dX6_carry_14 (by decide) ?_
    refine lv_bipush (v := 20) hx hb dX6_carry_15 (by decide) ?_
    obtain ⟨r17, hr17, hF⟩ := opb hF
    refine kSI (As := [.int x2, .int (0 : Int32), .int (20 : Int32)]) (rest := [.ref a_t]) (ws' := (wd_X6_carry cI a_t a_z a_history a_text a_left a_other a_smooth a_weights a_signs a_worked c_states c_length c_thrown c_codes c_read c_isOpen c_hash c_history c_z)) ⟨hx, hb, hml, hown, hts⟩ (c_X6_within l D cI  H.size  x2 (0 : Int32) (20 : Int32) r17 hr17) (va_cwS 3 hts mw_X6_44 rfl rfl rfl hd_X6_within ⟨Nat.le_of_ble_eq_true rfl, Nat.le_of_ble_eq_true rfl⟩) hS hA hG hK hP hD [] rfl rfl rfl rfl rfl ⟨Nat.zero_le _, Nat.zero_le _⟩ rfl hl.1 rfl (Nat.le_of_ble_eq_true rfl) dX6_carry_17 (fun H locs hP hD hS => ?_)
    refine lv_if_eq (tgt := 27) hx hb dX6_carry_20 (by decide) (fun k20 => ?_) (fun k20 => ?_)
    · (try simp only [if_pos k20] at hF)
      refine lv_iconst (v := 2) hx hb dX6_carry_27 (by decide) ?_
      exact K28 c_states c_thrown c_history c_z (2 : Int32) H locs ls hP hD hS (lv_sub hl [0, 1, 2] rfl) hF
    · (try simp only [if_neg k20] at hF)
      refine lv_iconst (v := 0) hx hb dX6_carry_23 (by decide) ?_
      refine lv_goto (tgt := 28) hx hb dX6_carry_24 (by decide) ?_
      exact K28 c_states c_thrown c_history c_z (0 : Int32) H locs ls hP hD hS (lv_sub hl [0, 1, 2] rfl) hF
  · replace hF := (if_pos k6).symm.trans hF
    refine lv_iconst (v := 1) hx hb dX6_carry_9 (by decide) ?_
    refine lv_goto (tgt := 28) hx hb dX6_carry_10 (by decide) ?_
    exact K28 c_states c_thrown c_history c_z (1 : Int32) H locs ls hP hD hS (lv_sub hl [0, 1, 2] rfl) hF
abbrev wd_X6_put (cI : ClassId) (a_t a_z a_history a_text a_left a_other a_smooth a_weights a_signs a_worked : Nat) (c_states : Int32) (c_length : Int32) (c_thrown : Int32) (c_codes : Int32) (c_read : Int32) (c_isOpen : Int32) (c_hash : Int64) (c_history : Nat → Int32) (c_left : Nat → Int32) (c_z : Nat → Int32) : va_W := [(a_t, .inr (6, [.ref a_z, .int c_states, .ref a_history, .int c_length, .ref a_text, .int c_thrown, .ref a_left, .ref a_other, .ref a_smooth, .ref a_weights, .int c_codes, .ref a_signs, .int c_read, .int c_isOpen, .ref a_worked, .long c_hash])), (a_history, .inl (cI, 78, .inl c_history)), (a_left, .inl (cI, 6, .inl c_left)), (a_z, .inl (cI, 13, .inl c_z))]
def rm_X6_put : Room := { frames := 3, cells := 0, slots := 0, locals := 65 }
set_option maxHeartbeats 4000000 in
set_option maxRecDepth 100000 in
theorem c_X6_put (l : Launch) (D : va_G) (cI : ClassId) (a_t a_z a_history a_text a_left a_other a_smooth a_weights a_signs a_worked : Nat) (sz : Nat) (c_states : Int32) (c_length : Int32) (c_thrown : Int32) (c_codes : Int32) (c_read : Int32) (c_isOpen : Int32) (c_hash : Int64) (c_history : Nat → Int32) (c_left : Nat → Int32) (c_z : Nat → Int32) (x1 : Int32) (x2 : Int32) (o : Int32 × Int32 × Int32 × (Nat → Int32) × (Nat → Int32) × (Nat → Int32)) (hF : F_X6_put c_states c_thrown c_history c_left c_z x1 x2 = some o) : Met l yX6_put (Cond.code yX6_put cX6_put 4 (some .int) :: WL) rm_X6_put (preM D [(cI, .int)] (wd_X6_put cI a_t a_z a_history a_text a_left a_other a_smooth a_weights a_signs a_worked c_states c_length c_thrown c_codes c_read c_isOpen c_hash c_history c_left c_z) sz [.ref a_t, .int x1, .int x2]) (postI D o.1 (wd_X6_put cI a_t a_z a_history a_text a_left a_other a_smooth a_weights a_signs a_worked o.2.1 c_length o.2.2.1 c_codes c_read c_isOpen c_hash o.2.2.2.1 o.2.2.2.2.1 o.2.2.2.2.2) (wd_X6_put cI a_t a_z a_history a_text a_left a_other a_smooth a_weights a_signs a_worked c_states c_length c_thrown c_codes c_read c_isOpen c_hash c_history c_left c_z) sz) 0 0 (va_A (wd_X6_put cI a_t a_z a_history a_text a_left a_other a_smooth a_weights a_signs a_worked c_states c_length c_thrown c_codes c_read c_isOpen c_hash c_history c_left c_z) sz) := by
  refine mofI (by decide +kernel) (Nat.le_of_ble_eq_true rfl) ?_
  intro p e s m args below meth c Q A ls hx hb hml hown hts hK hP hD hS hA hG hl hret hsz0
  have hl : lv_has ls 4 [(0, .ref a_t), (1, .int x1), (2, .int x2)] := hl
  have K71 : ∀ (n71 : Nat) (c_states : Int32) (c_thrown : Int32) (c_history : Nat → Int32) (c_left : Nat → Int32) (c_z : Nat → Int32) (x3 : Int32) (H : Heap) (locs : List Loc) (ls : Array Slot), va_P D vwCl (wd_X6_put cI a_t a_z a_history a_text a_left a_other a_smooth a_weights a_signs a_worked c_states c_length c_thrown c_codes c_read c_isOpen c_hash c_history c_left c_z) H → va_D A (wd_X6_put cI a_t a_z a_history a_text a_left a_other a_smooth a_weights a_signs a_worked c_states c_length c_thrown c_codes c_read c_isOpen c_hash c_history c_left c_z) → va_S A s.heap H locs → lv_has ls 4 [(0, .ref a_t), (1, .int x1), (2, .int x2), (3, .int x3)] → F_X6_put_L71 x1 x2 n71 c_states c_thrown c_history c_left c_z x3 = some o → W p l e rm_X6_put s m args below meth c H locs 0 0 Q (F0 m 71 ls []) := by
    intro n71
    induction n71 with
    | zero => intro c_states c_thrown c_history c_left c_z x3 H locs ls hP hD hS hl hF; exact nos hF
    | succ n71 ih71 =>
      intro c_states c_thrown c_history c_left c_z x3 H locs ls hP hD hS hl hF
      rw [F_X6_put_L71] at hF
      refine lv_iload_n hx hb dX6_put_71 rfl (lv_at hl 3 rfl) ?_
      refine lv_iconst (v := 2) hx hb dX6_put_72 (by decide) ?_
      refine lv_iload_n hx hb dX6_put_73 rfl (lv_at hl 1 rfl) ?_
      refine lv_iadd hx hb dX6_put_74 ?_
      refine lv_icmp_le (tgt := 98) hx hb dX6_put_75 (by decide) (fun k75 => ?_) (fun k75 => ?_)
      · replace hF := (if_pos k75).symm.trans hF
        refine lv_aload_n hx hb dX6_put_98 rfl (lv_at hl 0 rfl) ?_
        refine get_X6_7 hx hb hts hown hK hP 0 rfl rfl dX6_put_99 ?_
        refine lv_iconst (v := 2) hx hb dX6_put_102 (by decide) ?_
        refine lv_iload_n hx hb dX6_put_103 rfl (lv_at hl 1 rfl) ?_
        refine lv_iadd hx hb dX6_put_104 ?_
        refine lv_iload_n hx hb dX6_put_105 rfl (lv_at hl 2 rfl) ?_
        obtain ⟨g106, hF⟩ := gdb hF
        refine va_iast hx hb hK hP hD hS 3 0 rfl rfl (vinb g106) dX6_put_106 (fun H locs hP hD hS => ?_)
        have hP : va_P D vwCl (wd_X6_put cI a_t a_z a_history a_text a_left a_other a_smooth a_weights a_signs a_worked c_states c_length c_thrown c_codes c_read c_isOpen c_hash c_history c_left (upd c_z ((2 : Int32) + x1).toNatClampNeg x2)) H := hP
        have hD : va_D A (wd_X6_put cI a_t a_z a_history a_text a_left a_other a_smooth a_weights a_signs a_worked c_states c_length c_thrown c_codes c_read c_isOpen c_hash c_history c_left (upd c_z ((2 : Int32) + x1).toNatClampNeg x2)) := hD
        refine lv_aload_n hx hb dX6_put_107 rfl (lv_at hl 0 rfl) ?_
        refine get_X6_7 hx hb hts hown hK hP 0 rfl rfl dX6_put_108 ?_
        refine lv_iconst (v := 0) hx hb dX6_put_111 (by decide) ?_
        refine lv_dup2_11 hx hb dX6_put_112 rfl rfl ?_
        obtain ⟨g113, hF⟩ := gdb hF
        refine va_iald hx hb hK hP 3 0 rfl rfl (vinb g113) dX6_put_113 ?_
        refine lv_iconst (v := 1) hx hb dX6_put_114 (by decide) ?_
        refine lv_iadd hx hb dX6_put_115 ?_
        obtain ⟨g116, hF⟩ := gdb hF
        refine va_iast hx hb hK hP hD hS 3 0 rfl rfl (vinb g116) dX6_put_116 (fun H locs hP hD hS => ?_)
        have hP : va_P D vwCl (wd_X6_put cI a_t a_z a_history a_text a_left a_other a_smooth a_weights a_signs a_worked c_states c_length c_thrown c_codes c_read c_isOpen c_hash c_history c_left (upd (upd c_z ((2 : Int32) + x1).toNatClampNeg x2) ((0 : Int32)).toNatClampNeg (((upd c_z ((2 : Int32) + x1).toNatClampNeg x2) ((0 : Int32)).toNatClampNeg) + (1 : Int32)))) H := hP
        have hD : va_D A (wd_X6_put cI a_t a_z a_history a_text a_left a_other a_smooth a_weights a_signs a_worked c_states c_length c_thrown c_codes c_read c_isOpen c_hash c_history c_left (upd (upd c_z ((2 : Int32) + x1).toNatClampNeg x2) ((0 : Int32)).toNatClampNeg (((upd c_z ((2 : Int32) + x1).toNatClampNeg x2) ((0 : Int32)).toNatClampNeg) + (1 : Int32)))) := hD
        refine lv_aload_n hx hb dX6_put_117 rfl (lv_at hl 0 rfl) ?_
        obtain ⟨r118, hr118, hF⟩ := opb hF
        refine kVI (As := []) (rest := []) (ws' := (wd_X6_put cI a_t a_z a_history a_text a_left a_other a_smooth a_weights a_signs a_worked c_states c_length c_thrown c_codes c_read c_isOpen c_hash c_history r118.2 (upd (upd c_z ((2 : Int32) + x1).toNatClampNeg x2) ((0 : Int32)).toNatClampNeg (((upd c_z ((2 : Int32) + x1).toNatClampNeg x2) ((0 : Int32)).toNatClampNeg) + (1 : Int32))))) ⟨hx, hb, hml, hown, hts⟩ (c_X6_allRows l D cI a_t a_z a_history a_text a_left a_other a_smooth a_weights a_signs a_worked H.size c_states c_length c_thrown c_codes c_read c_isOpen c_hash c_left (upd (upd c_z ((2 : Int32) + x1).toNatClampNeg x2) ((0 : Int32)).toNatClampNeg (((upd c_z ((2 : Int32) + x1).toNatClampNeg x2) ((0 : Int32)).toNatClampNeg) + (1 : Int32)))  r118 hr118) (cwV 0 hts mw_X6_71 rfl rfl rfl hd_X6_allRows ⟨Nat.le_of_ble_eq_true rfl, Nat.le_of_ble_eq_true rfl⟩) hS hA hG hK hP hD [0, 2, 3] rfl rfl rfl rfl rfl ⟨Nat.zero_le _, Nat.zero_le _⟩ 6 0 rfl rfl rfl rfl hl.1 rfl (Nat.le_of_ble_eq_true rfl) dX6_put_118 (fun H locs hP hD hS => ?_)
        have ho := Option.some.inj hF
        exact hret H locs ls 121 r118.1 _ hP hS (by rw [← ho]) (by rw [← ho]) dX6_put_121
      · replace hF := (if_neg k75).symm.trans hF
        refine lv_aload_n hx hb dX6_put_78 rfl (lv_at hl 0 rfl) ?_
        refine get_X6_7 hx hb hts hown hK hP 0 rfl rfl dX6_put_79 ?_
        refine lv_iload_n hx hb dX6_put_82 rfl (lv_at hl 3 rfl) ?_
        refine lv_aload_n hx hb dX6_put_83 rfl (lv_at hl 0 rfl) ?_
        refine get_X6_7 hx hb hts hown hK hP 0 rfl rfl dX6_put_84 ?_
        refine lv_iload_n hx hb dX6_put_87 rfl (lv_at hl 3 rfl) ?_
        refine lv_iconst (v := 1) hx hb dX6_put_88 (by decide) ?_
        refine lv_isub hx hb dX6_put_89 ?_
        obtain ⟨g90, hF⟩ := gdb hF
        refine va_iald hx hb hK hP 3 0 rfl rfl (vinb g90) dX6_put_90 ?_
        obtain ⟨g91, hF⟩ := gdb hF
        refine va_iast hx hb hK hP hD hS 3 0 rfl rfl (vinb g91) dX6_put_91 (fun H locs hP hD hS => ?_)
        have hP : va_P D vwCl (wd_X6_put cI a_t a_z a_history a_text a_left a_other a_smooth a_weights a_signs a_worked c_states c_length c_thrown c_codes c_read c_isOpen c_hash c_history c_left (upd c_z (x3).toNatClampNeg (c_z (x3 - (1 : Int32)).toNatClampNeg))) H := hP
        have hD : va_D A (wd_X6_put cI a_t a_z a_history a_text a_left a_other a_smooth a_weights a_signs a_worked c_states c_length c_thrown c_codes c_read c_isOpen c_hash c_history c_left (upd c_z (x3).toNatClampNeg (c_z (x3 - (1 : Int32)).toNatClampNeg))) := hD
        refine lv_iinc (v := x3 + (-1)) (lv' := [(3, .int (x3 + (-1))), (0, .ref a_t), (1, .int x1), (2, .int x2)]) hx hb dX6_put_92 hl (k := 3) rfl rfl (by decide) rfl (fun ls hl => ?_)
        refine lv_goto (tgt := 71) hx hb dX6_put_95 (by decide) ?_
        exact ih71 c_states c_thrown c_history c_left (upd c_z (x3).toNatClampNeg (c_z (x3 - (1 : Int32)).toNatClampNeg)) (x3 + (-1)) H locs ls hP hD hS (lv_sub hl [1, 2, 3, 0] rfl) hF
  have K46 : ∀ (c_states : Int32) (c_thrown : Int32) (c_history : Nat → Int32) (c_left : Nat → Int32) (c_z : Nat → Int32) (v1 : Int32)  (H : Heap) (locs : List Loc) (ls : Array Slot), va_P D vwCl (wd_X6_put cI a_t a_z a_history a_text a_left a_other a_smooth a_weights a_signs a_worked c_states c_length c_thrown c_codes c_read c_isOpen c_hash c_history c_left c_z) H → va_D A (wd_X6_put cI a_t a_z a_history a_text a_left a_other a_smooth a_weights a_signs a_worked c_states c_length c_thrown c_codes c_read c_isOpen c_hash c_history c_left c_z) → va_S A s.heap H locs → lv_has ls 4 [(0, .ref a_t), (1, .int x1), (2, .int x2)] → F_X6_put_J46 x1 x2 c_states c_thrown c_history c_left c_z v1 = some o → W p l e rm_X6_put s m args below meth c H locs 0 0 Q (F0 m 46 ls [.int v1, .ref a_t]) := by
    intro c_states c_thrown c_history c_left c_z v1 H locs ls hP hD hS hl hF
    unfold F_X6_put_J46 at hF
    refine put_X6_37 hx hb hts hown hK hP hD hS 0 rfl rfl rfl (Nat.le_of_ble_eq_true rfl) dX6_put_46 (fun H locs hP hD hS => ?_)
    have hP : va_P D vwCl (wd_X6_put cI a_t a_z a_history a_text a_left a_other a_smooth a_weights a_signs a_worked c_states c_length v1 c_codes c_read c_isOpen c_hash c_history c_left c_z) H := hP
    have hD : va_D A (wd_X6_put cI a_t a_z a_history a_text a_left a_other a_smooth a_weights a_signs a_worked c_states c_length v1 c_codes c_read c_isOpen c_hash c_history c_left c_z) := hD
    refine lv_aload_n hx hb dX6_put_49 rfl (lv_at hl 0 rfl) ?_
    refine get_X6_37 hx hb hts hown hK hP 0 rfl rfl dX6_put_50 ?_
    refine lv_if_le (tgt := 58) hx hb dX6_put_53 (by decide) (fun k53 => ?_) (fun k53 => ?_)
    · replace hF := (if_pos k53).symm.trans hF
      refine lv_aload_n hx hb dX6_put_58 rfl (lv_at hl 0 rfl) ?_
      obtain ⟨r59, hr59, hF⟩ := opb hF
      refine kVV (As := []) (rest := []) (ws' := (wd_X6_put cI a_t a_z a_history a_text a_left a_other a_smooth a_weights a_signs a_worked r59.1 c_length v1 c_codes c_read c_isOpen c_hash r59.2 c_left c_z)) ⟨hx, hb, hml, hown, hts⟩ (c_X6_save l D cI a_t a_z a_history a_text a_left a_other a_smooth a_weights a_signs a_worked H.size c_states c_length v1 c_codes c_read c_isOpen c_hash c_history c_z  r59 hr59) (cwV 0 hts mw_X6_100 rfl rfl rfl hd_X6_save ⟨Nat.le_of_ble_eq_true rfl, Nat.le_of_ble_eq_true rfl⟩) hS hA hG hK hP hD [0, 1, 3] rfl rfl rfl rfl rfl ⟨Nat.zero_le _, Nat.zero_le _⟩ 6 0 rfl rfl rfl rfl hl.1 rfl (Nat.le_of_ble_eq_true rfl) dX6_put_59 (fun H locs hP hD hS => ?_)
      refine lv_iconst (v := 2) hx hb dX6_put_62 (by decide) ?_
      refine lv_aload_n hx hb dX6_put_63 rfl (lv_at hl 0 rfl) ?_
      refine get_X6_7 hx hb hts hown hK hP 0 rfl rfl dX6_put_64 ?_
      refine lv_iconst (v := 0) hx hb dX6_put_67 (by decide) ?_
      obtain ⟨g68, hF⟩ := gdb hF
      refine va_iald hx hb hK hP 3 0 rfl rfl (vinb g68) dX6_put_68 ?_
      refine lv_iadd hx hb dX6_put_69 ?_
      refine lv_istore_n (lv' := [(3, .int ((2 : Int32) + (c_z ((0 : Int32)).toNatClampNeg))), (0, .ref a_t), (1, .int x1), (2, .int x2)]) hx hb dX6_put_70 rfl hl (by decide) rfl (fun ls hl => ?_)
      exact K71 FU r59.1 v1 r59.2 c_left c_z ((2 : Int32) + (c_z ((0 : Int32)).toNatClampNeg)) H locs ls hP hD hS (lv_sub hl [1, 2, 3, 0] rfl) hF
    · replace hF := (if_neg k53).symm.trans hF
      refine lv_iconst (v := 0) hx hb dX6_put_56 (by decide) ?_
      have ho := Option.some.inj hF
      exact hret H locs ls 57 (0 : Int32) _ hP hS (by rw [← ho]) (by rw [← ho]) dX6_put_57
  unfold F_X6_put at hF
  have hP : va_P D vwCl (wd_X6_put cI a_t a_z a_history a_text a_left a_other a_smooth a_weights a_signs a_worked c_states c_length c_thrown c_codes c_read c_isOpen c_hash c_history c_left c_z) s.heap := hP
  obtain ⟨H, hH⟩ : ∃ H, H = s.heap := ⟨_, rfl⟩
  rw [← hH]
  rw [← hH] at hP
  obtain ⟨locs, hlo⟩ : ∃ z : List Loc, z = [] := ⟨_, rfl⟩
  rw [← hlo]
  have hS : va_S A s.heap H locs := by rw [hH, hlo]; exact hS
  refine lv_aload_n hx hb dX6_put_0 rfl (lv_at hl 0 rfl) ?_
  refine lv_iload_n hx hb dX6_put_1 rfl (lv_at hl 1 rfl) ?_
  refine lv_iconst (v := 0) hx hb dX6_put_2 (by decide) ?_
  refine lv_aload_n hx hb dX6_put_3 rfl (lv_at hl 0 rfl) ?_
  refine get_X6_7 hx hb hts hown hK hP 0 rfl rfl dX6_put_4 ?_
  refine lv_iconst (v := 0) hx hb dX6_put_7 (by decide) ?_
  obtain ⟨g8, hF⟩ := gdb hF
  refine va_iald hx hb hK hP 3 0 rfl rfl (vinb g8) dX6_put_8 ?_
  obtain ⟨r9, hr9, hF⟩ := opb hF
  refine kSI (As := [.int x1, .int (0 : Int32), .int (c_z ((0 : Int32)).toNatClampNeg)]) (rest := [.ref a_t]) (ws' := (wd_X6_put cI a_t a_z a_history a_text a_left a_other a_smooth a_weights a_signs a_worked c_states c_length c_thrown c_codes c_read c_isOpen c_hash c_history c_left c_z)) ⟨hx, hb, hml, hown, hts⟩ (c_X6_within l D cI  H.size  x1 (0 : Int32) (c_z ((0 : Int32)).toNatClampNeg) r9 hr9) (va_cwS 3 hts mw_X6_44 rfl rfl rfl hd_X6_within ⟨Nat.le_of_ble_eq_true rfl, Nat.le_of_ble_eq_true rfl⟩) hS hA hG hK hP hD [] rfl rfl rfl rfl rfl ⟨Nat.zero_le _, Nat.zero_le _⟩ rfl hl.1 rfl (Nat.le_of_ble_eq_true rfl) dX6_put_9 (fun H locs hP hD hS => ?_)
  refine lv_if_ne (tgt := 19) hx hb dX6_put_12 (by decide) (fun k12 => ?_) (fun k12 => ?_)
  · replace hF := (if_neg k12).symm.trans hF
    refine lv_iload_n hx hb dX6_put_19 rfl (lv_at hl 2 rfl) ?_
    obtain ⟨r20, hr20, hF⟩ := opb hF
    refine kSI (As := [.int x2]) (rest := [.ref a_t]) (ws' := (wd_X6_put cI a_t a_z a_history a_text a_left a_other a_smooth a_weights a_signs a_worked c_states c_length c_thrown c_codes c_read c_isOpen c_hash c_history c_left c_z)) ⟨hx, hb, hml, hown, hts⟩ (c_X6_isSign l D cI  H.size  x2 r20 hr20) (va_cwS 1 hts mw_X6_139 rfl rfl rfl hd_X6_isSign ⟨Nat.le_of_ble_eq_true rfl, Nat.le_of_ble_eq_true rfl⟩) hS hA hG hK hP hD [] rfl rfl rfl rfl rfl ⟨Nat.zero_le _, Nat.zero_le _⟩ rfl hl.1 rfl (Nat.le_of_ble_eq_true rfl) dX6_put_20 (fun H locs hP hD hS => ?_)
    refine lv_if_ne (tgt := 30) hx hb dX6_put_23 (by decide) (fun k23 => ?_) (fun k23 => ?_)
    · replace hF := (if_neg k23).symm.trans hF
      refine lv_aload_n hx hb dX6_put_30 rfl (lv_at hl 0 rfl) ?_
      refine get_X6_7 hx hb hts hown hK hP 0 rfl rfl dX6_put_31 ?_
      refine lv_iconst (v := 0) hx hb dX6_put_34 (by decide) ?_
      obtain ⟨g35, hF⟩ := gdb hF
      refine va_iald hx hb hK hP 3 0 rfl rfl (vinb g35) dX6_put_35 ?_
      refine lv_bipush (v := 11) hx hb dX6_put_36 (by decide) ?_
      refine lv_icmp_ne (tgt := 45) hx hb dX6_put_38 (by decide) (fun k38 => ?_) (fun k38 => ?_)
      · (try simp only [if_neg k38] at hF)
        refine lv_iconst (v := 0) hx hb dX6_put_45 (by decide) ?_
        exact K46 c_states c_thrown c_history c_left c_z (0 : Int32) H locs ls hP hD hS (lv_sub hl [0, 1, 2] rfl) hF
      · (try simp only [if_pos k38] at hF)
        refine lv_iconst (v := 3) hx hb dX6_put_41 (by decide) ?_
        refine lv_goto (tgt := 46) hx hb dX6_put_42 (by decide) ?_
        exact K46 c_states c_thrown c_history c_left c_z (3 : Int32) H locs ls hP hD hS (lv_sub hl [0, 1, 2] rfl) hF
    · replace hF := (if_pos k23).symm.trans hF
      refine lv_iconst (v := 2) hx hb dX6_put_26 (by decide) ?_
      refine lv_goto (tgt := 46) hx hb dX6_put_27 (by decide) ?_
      exact K46 c_states c_thrown c_history c_left c_z (2 : Int32) H locs ls hP hD hS (lv_sub hl [0, 1, 2] rfl) hF
  · replace hF := (if_pos k12).symm.trans hF
    refine lv_iconst (v := 1) hx hb dX6_put_15 (by decide) ?_
    refine lv_goto (tgt := 46) hx hb dX6_put_16 (by decide) ?_
    exact K46 c_states c_thrown c_history c_left c_z (1 : Int32) H locs ls hP hD hS (lv_sub hl [0, 1, 2] rfl) hF
abbrev wd_X6_take (cI : ClassId) (a_t a_z a_history a_text a_left a_other a_smooth a_weights a_signs a_worked : Nat) (c_states : Int32) (c_length : Int32) (c_thrown : Int32) (c_codes : Int32) (c_read : Int32) (c_isOpen : Int32) (c_hash : Int64) (c_history : Nat → Int32) (c_z : Nat → Int32) : va_W := [(a_t, .inr (6, [.ref a_z, .int c_states, .ref a_history, .int c_length, .ref a_text, .int c_thrown, .ref a_left, .ref a_other, .ref a_smooth, .ref a_weights, .int c_codes, .ref a_signs, .int c_read, .int c_isOpen, .ref a_worked, .long c_hash])), (a_history, .inl (cI, 78, .inl c_history)), (a_z, .inl (cI, 13, .inl c_z))]
def rm_X6_take : Room := { frames := 2, cells := 0, slots := 0, locals := 43 }
set_option maxHeartbeats 4000000 in
set_option maxRecDepth 100000 in
theorem c_X6_take (l : Launch) (D : va_G) (cI : ClassId) (a_t a_z a_history a_text a_left a_other a_smooth a_weights a_signs a_worked : Nat) (sz : Nat) (c_states : Int32) (c_length : Int32) (c_thrown : Int32) (c_codes : Int32) (c_read : Int32) (c_isOpen : Int32) (c_hash : Int64) (c_history : Nat → Int32) (c_z : Nat → Int32) (x1 : Int32) (o : Int32 × Int32 × Int32 × (Nat → Int32) × (Nat → Int32)) (hF : F_X6_take c_states c_thrown c_history c_z x1 = some o) : Met l yX6_take (Cond.code yX6_take cX6_take 4 (some .int) :: WL) rm_X6_take (preM D [(cI, .int)] (wd_X6_take cI a_t a_z a_history a_text a_left a_other a_smooth a_weights a_signs a_worked c_states c_length c_thrown c_codes c_read c_isOpen c_hash c_history c_z) sz [.ref a_t, .int x1]) (postI D o.1 (wd_X6_take cI a_t a_z a_history a_text a_left a_other a_smooth a_weights a_signs a_worked o.2.1 c_length o.2.2.1 c_codes c_read c_isOpen c_hash o.2.2.2.1 o.2.2.2.2) (wd_X6_take cI a_t a_z a_history a_text a_left a_other a_smooth a_weights a_signs a_worked c_states c_length c_thrown c_codes c_read c_isOpen c_hash c_history c_z) sz) 0 0 (va_A (wd_X6_take cI a_t a_z a_history a_text a_left a_other a_smooth a_weights a_signs a_worked c_states c_length c_thrown c_codes c_read c_isOpen c_hash c_history c_z) sz) := by
  refine mofI (by decide +kernel) (Nat.le_of_ble_eq_true rfl) ?_
  intro p e s m args below meth c Q A ls hx hb hml hown hts hK hP hD hS hA hG hl hret hsz0
  have hl : lv_has ls 4 [(0, .ref a_t), (1, .int x1)] := hl
  have K67 : ∀ (n67 : Nat) (c_states : Int32) (c_thrown : Int32) (c_history : Nat → Int32) (c_z : Nat → Int32) (x2 : Int32) (x3 : Int32) (H : Heap) (locs : List Loc) (ls : Array Slot), va_P D vwCl (wd_X6_take cI a_t a_z a_history a_text a_left a_other a_smooth a_weights a_signs a_worked c_states c_length c_thrown c_codes c_read c_isOpen c_hash c_history c_z) H → va_D A (wd_X6_take cI a_t a_z a_history a_text a_left a_other a_smooth a_weights a_signs a_worked c_states c_length c_thrown c_codes c_read c_isOpen c_hash c_history c_z) → va_S A s.heap H locs → lv_has ls 4 [(0, .ref a_t), (2, .int x2), (3, .int x3)] → F_X6_take_L67 x1 n67 c_states c_thrown c_history c_z x2 x3 = some o → W p l e rm_X6_take s m args below meth c H locs 0 0 Q (F0 m 67 ls []) := by
    intro n67
    induction n67 with
    | zero => intro c_states c_thrown c_history c_z x2 x3 H locs ls hP hD hS hl hF; exact nos hF
    | succ n67 ih67 =>
      intro c_states c_thrown c_history c_z x2 x3 H locs ls hP hD hS hl hF
      rw [F_X6_take_L67] at hF
      refine lv_iload_n hx hb dX6_take_67 rfl (lv_at hl 2 rfl) ?_
      refine lv_iconst (v := 2) hx hb dX6_take_68 (by decide) ?_
      refine lv_aload_n hx hb dX6_take_69 rfl (lv_at hl 0 rfl) ?_
      refine get_X6_7 hx hb hts hown hK hP 0 rfl rfl dX6_take_70 ?_
      refine lv_iconst (v := 0) hx hb dX6_take_73 (by decide) ?_
      obtain ⟨g74, hF⟩ := gdb hF
      refine va_iald hx hb hK hP 2 0 rfl rfl (vinb g74) dX6_take_74 ?_
      refine lv_iadd hx hb dX6_take_75 ?_
      refine lv_icmp_ge (tgt := 99) hx hb dX6_take_76 (by decide) (fun k76 => ?_) (fun k76 => ?_)
      · replace hF := (if_pos k76).symm.trans hF
        refine lv_aload_n hx hb dX6_take_99 rfl (lv_at hl 0 rfl) ?_
        refine get_X6_7 hx hb hts hown hK hP 0 rfl rfl dX6_take_100 ?_
        refine lv_iconst (v := 2) hx hb dX6_take_103 (by decide) ?_
        refine lv_aload_n hx hb dX6_take_104 rfl (lv_at hl 0 rfl) ?_
        refine get_X6_7 hx hb hts hown hK hP 0 rfl rfl dX6_take_105 ?_
        refine lv_iconst (v := 0) hx hb dX6_take_108 (by decide) ?_
        obtain ⟨g109, hF⟩ := gdb hF
        refine va_iald hx hb hK hP 2 0 rfl rfl (vinb g109) dX6_take_109 ?_
        refine lv_iadd hx hb dX6_take_110 ?_
        refine lv_iconst (v := 0) hx hb dX6_take_111 (by decide) ?_
        obtain ⟨g112, hF⟩ := gdb hF
        refine va_iast hx hb hK hP hD hS 2 0 rfl rfl (vinb g112) dX6_take_112 (fun H locs hP hD hS => ?_)
        have hP : va_P D vwCl (wd_X6_take cI a_t a_z a_history a_text a_left a_other a_smooth a_weights a_signs a_worked c_states c_length c_thrown c_codes c_read c_isOpen c_hash c_history (upd c_z ((2 : Int32) + (c_z ((0 : Int32)).toNatClampNeg)).toNatClampNeg (0 : Int32))) H := hP
        have hD : va_D A (wd_X6_take cI a_t a_z a_history a_text a_left a_other a_smooth a_weights a_signs a_worked c_states c_length c_thrown c_codes c_read c_isOpen c_hash c_history (upd c_z ((2 : Int32) + (c_z ((0 : Int32)).toNatClampNeg)).toNatClampNeg (0 : Int32))) := hD
        refine lv_iload_n hx hb dX6_take_113 rfl (lv_at hl 1 rfl) ?_
        have ho := Option.some.inj hF
        exact hret H locs ls 114 x2 _ hP hS (by rw [← ho]) (by rw [← ho]) dX6_take_114
      · replace hF := (if_neg k76).symm.trans hF
        refine lv_aload_n hx hb dX6_take_79 rfl (lv_at hl 0 rfl) ?_
        refine get_X6_7 hx hb hts hown hK hP 0 rfl rfl dX6_take_80 ?_
        refine lv_iload_n hx hb dX6_take_83 rfl (lv_at hl 2 rfl) ?_
        refine lv_aload_n hx hb dX6_take_84 rfl (lv_at hl 0 rfl) ?_
        refine get_X6_7 hx hb hts hown hK hP 0 rfl rfl dX6_take_85 ?_
        refine lv_iload_n hx hb dX6_take_88 rfl (lv_at hl 2 rfl) ?_
        refine lv_iconst (v := 1) hx hb dX6_take_89 (by decide) ?_
        refine lv_iadd hx hb dX6_take_90 ?_
        obtain ⟨g91, hF⟩ := gdb hF
        refine va_iald hx hb hK hP 2 0 rfl rfl (vinb g91) dX6_take_91 ?_
        obtain ⟨g92, hF⟩ := gdb hF
        refine va_iast hx hb hK hP hD hS 2 0 rfl rfl (vinb g92) dX6_take_92 (fun H locs hP hD hS => ?_)
        have hP : va_P D vwCl (wd_X6_take cI a_t a_z a_history a_text a_left a_other a_smooth a_weights a_signs a_worked c_states c_length c_thrown c_codes c_read c_isOpen c_hash c_history (upd c_z (x3).toNatClampNeg (c_z (x3 + (1 : Int32)).toNatClampNeg))) H := hP
        have hD : va_D A (wd_X6_take cI a_t a_z a_history a_text a_left a_other a_smooth a_weights a_signs a_worked c_states c_length c_thrown c_codes c_read c_isOpen c_hash c_history (upd c_z (x3).toNatClampNeg (c_z (x3 + (1 : Int32)).toNatClampNeg))) := hD
        refine lv_iinc (v := x3 + 1) (lv' := [(3, .int (x3 + 1)), (0, .ref a_t), (2, .int x2)]) hx hb dX6_take_93 hl (k := 2) rfl rfl (by decide) rfl (fun ls hl => ?_)
        refine lv_goto (tgt := 67) hx hb dX6_take_96 (by decide) ?_
        exact ih67 c_states c_thrown c_history (upd c_z (x3).toNatClampNeg (c_z (x3 + (1 : Int32)).toNatClampNeg)) x2 (x3 + 1) H locs ls hP hD hS (lv_sub hl [1, 2, 0] rfl) hF
  have K28 : ∀ (c_states : Int32) (c_thrown : Int32) (c_history : Nat → Int32) (c_z : Nat → Int32) (v1 : Int32)  (H : Heap) (locs : List Loc) (ls : Array Slot), va_P D vwCl (wd_X6_take cI a_t a_z a_history a_text a_left a_other a_smooth a_weights a_signs a_worked c_states c_length c_thrown c_codes c_read c_isOpen c_hash c_history c_z) H → va_D A (wd_X6_take cI a_t a_z a_history a_text a_left a_other a_smooth a_weights a_signs a_worked c_states c_length c_thrown c_codes c_read c_isOpen c_hash c_history c_z) → va_S A s.heap H locs → lv_has ls 4 [(0, .ref a_t), (1, .int x1)] → F_X6_take_J28 x1 c_states c_thrown c_history c_z v1 = some o → W p l e rm_X6_take s m args below meth c H locs 0 0 Q (F0 m 28 ls [.int v1, .ref a_t]) := by
    intro c_states c_thrown c_history c_z v1 H locs ls hP hD hS hl hF
    unfold F_X6_take_J28 at hF
    refine put_X6_37 hx hb hts hown hK hP hD hS 0 rfl rfl rfl (Nat.le_of_ble_eq_true rfl) dX6_take_28 (fun H locs hP hD hS => ?_)
    have hP : va_P D vwCl (wd_X6_take cI a_t a_z a_history a_text a_left a_other a_smooth a_weights a_signs a_worked c_states c_length v1 c_codes c_read c_isOpen c_hash c_history c_z) H := hP
    have hD : va_D A (wd_X6_take cI a_t a_z a_history a_text a_left a_other a_smooth a_weights a_signs a_worked c_states c_length v1 c_codes c_read c_isOpen c_hash c_history c_z) := hD
    refine lv_aload_n hx hb dX6_take_31 rfl (lv_at hl 0 rfl) ?_
    refine get_X6_37 hx hb hts hown hK hP 0 rfl rfl dX6_take_32 ?_
    refine lv_if_le (tgt := 40) hx hb dX6_take_35 (by decide) (fun k35 => ?_) (fun k35 => ?_)
    · replace hF := (if_pos k35).symm.trans hF
      refine lv_aload_n hx hb dX6_take_40 rfl (lv_at hl 0 rfl) ?_
      obtain ⟨r41, hr41, hF⟩ := opb hF
      refine kVV (As := []) (rest := []) (ws' := (wd_X6_take cI a_t a_z a_history a_text a_left a_other a_smooth a_weights a_signs a_worked r41.1 c_length v1 c_codes c_read c_isOpen c_hash r41.2 c_z)) ⟨hx, hb, hml, hown, hts⟩ (c_X6_save l D cI a_t a_z a_history a_text a_left a_other a_smooth a_weights a_signs a_worked H.size c_states c_length v1 c_codes c_read c_isOpen c_hash c_history c_z  r41 hr41) (cwV 0 hts mw_X6_100 rfl rfl rfl hd_X6_save ⟨Nat.le_of_ble_eq_true rfl, Nat.le_of_ble_eq_true rfl⟩) hS hA hG hK hP hD [0, 1, 2] rfl rfl rfl rfl rfl ⟨Nat.zero_le _, Nat.zero_le _⟩ 6 0 rfl rfl rfl rfl hl.1 rfl (Nat.le_of_ble_eq_true rfl) dX6_take_41 (fun H locs hP hD hS => ?_)
      refine lv_aload_n hx hb dX6_take_44 rfl (lv_at hl 0 rfl) ?_
      refine get_X6_7 hx hb hts hown hK hP 0 rfl rfl dX6_take_45 ?_
      refine lv_iconst (v := 2) hx hb dX6_take_48 (by decide) ?_
      refine lv_iload_n hx hb dX6_take_49 rfl (lv_at hl 1 rfl) ?_
      refine lv_iadd hx hb dX6_take_50 ?_
      obtain ⟨g51, hF⟩ := gdb hF
      refine va_iald hx hb hK hP 2 0 rfl rfl (vinb g51) dX6_take_51 ?_
      refine lv_istore_n (lv' := [(2, .int (c_z ((2 : Int32) + x1).toNatClampNeg)), (0, .ref a_t), (1, .int x1)]) hx hb dX6_take_52 rfl hl (by decide) rfl (fun ls hl => ?_)
      refine lv_aload_n hx hb dX6_take_53 rfl (lv_at hl 1 rfl) ?_
      refine get_X6_7 hx hb hts hown hK hP 0 rfl rfl dX6_take_54 ?_
      refine lv_iconst (v := 0) hx hb dX6_take_57 (by decide) ?_
      refine lv_dup2_11 hx hb dX6_take_58 rfl rfl ?_
      obtain ⟨g59, hF⟩ := gdb hF
      refine va_iald hx hb hK hP 2 0 rfl rfl (vinb g59) dX6_take_59 ?_
      refine lv_iconst (v := 1) hx hb dX6_take_60 (by decide) ?_
      refine lv_isub hx hb dX6_take_61 ?_
      obtain ⟨g62, hF⟩ := gdb hF
      refine va_iast hx hb hK hP hD hS 2 0 rfl rfl (vinb g62) dX6_take_62 (fun H locs hP hD hS => ?_)
      have hP : va_P D vwCl (wd_X6_take cI a_t a_z a_history a_text a_left a_other a_smooth a_weights a_signs a_worked r41.1 c_length v1 c_codes c_read c_isOpen c_hash r41.2 (upd c_z ((0 : Int32)).toNatClampNeg ((c_z ((0 : Int32)).toNatClampNeg) - (1 : Int32)))) H := hP
      have hD : va_D A (wd_X6_take cI a_t a_z a_history a_text a_left a_other a_smooth a_weights a_signs a_worked r41.1 c_length v1 c_codes c_read c_isOpen c_hash r41.2 (upd c_z ((0 : Int32)).toNatClampNeg ((c_z ((0 : Int32)).toNatClampNeg) - (1 : Int32)))) := hD
      refine lv_iconst (v := 2) hx hb dX6_take_63 (by decide) ?_
      refine lv_iload_n hx hb dX6_take_64 rfl (lv_at hl 2 rfl) ?_
      refine lv_iadd hx hb dX6_take_65 ?_
      refine lv_istore_n (lv' := [(3, .int ((2 : Int32) + x1)), (2, .int (c_z ((2 : Int32) + x1).toNatClampNeg)), (0, .ref a_t), (1, .int x1)]) hx hb dX6_take_66 rfl hl (by decide) rfl (fun ls hl => ?_)
      exact K67 FU r41.1 v1 r41.2 (upd c_z ((0 : Int32)).toNatClampNeg ((c_z ((0 : Int32)).toNatClampNeg) - (1 : Int32))) (c_z ((2 : Int32) + x1).toNatClampNeg) ((2 : Int32) + x1) H locs ls hP hD hS (lv_sub hl [2, 1, 0] rfl) hF
    · replace hF := (if_neg k35).symm.trans hF
      refine lv_iconst (v := 0) hx hb dX6_take_38 (by decide) ?_
      have ho := Option.some.inj hF
      exact hret H locs ls 39 (0 : Int32) _ hP hS (by rw [← ho]) (by rw [← ho]) dX6_take_39
  unfold F_X6_take at hF
  have hP : va_P D vwCl (wd_X6_take cI a_t a_z a_history a_text a_left a_other a_smooth a_weights a_signs a_worked c_states c_length c_thrown c_codes c_read c_isOpen c_hash c_history c_z) s.heap := hP
  obtain ⟨H, hH⟩ : ∃ H, H = s.heap := ⟨_, rfl⟩
  rw [← hH]
  rw [← hH] at hP
  obtain ⟨locs, hlo⟩ : ∃ z : List Loc, z = [] := ⟨_, rfl⟩
  rw [← hlo]
  have hS : va_S A s.heap H locs := by rw [hH, hlo]; exact hS
  refine lv_aload_n hx hb dX6_take_0 rfl (lv_at hl 0 rfl) ?_
  refine lv_aload_n hx hb dX6_take_1 rfl (lv_at hl 0 rfl) ?_
  refine lv_iload_n hx hb dX6_take_2 rfl (lv_at hl 1 rfl) ?_
  obtain ⟨r3, hr3, hF⟩ := opb hF
  refine kVI (As := [.int x1]) (rest := [.ref a_t]) (ws' := (wd_X6_take cI a_t a_z a_history a_text a_left a_other a_smooth a_weights a_signs a_worked c_states c_length c_thrown c_codes c_read c_isOpen c_hash c_history c_z)) ⟨hx, hb, hml, hown, hts⟩ (c_X6_isPlace l D cI a_t a_z a_history a_text a_left a_other a_smooth a_weights a_signs a_worked H.size c_states c_length c_thrown c_codes c_read c_isOpen c_hash c_z x1 r3 hr3) (cwV 1 hts mw_X6_126 rfl rfl rfl hd_X6_isPlace ⟨Nat.le_of_ble_eq_true rfl, Nat.le_of_ble_eq_true rfl⟩) hS hA hG hK hP hD [0, 2] rfl rfl rfl rfl rfl ⟨Nat.zero_le _, Nat.zero_le _⟩ 6 0 rfl rfl rfl rfl hl.1 rfl (Nat.le_of_ble_eq_true rfl) dX6_take_3 (fun H locs hP hD hS => ?_)
  refine lv_if_ne (tgt := 13) hx hb dX6_take_6 (by decide) (fun k6 => ?_) (fun k6 => ?_)
  · replace hF := (if_neg k6).symm.trans hF
    refine lv_aload_n hx hb dX6_take_13 rfl (lv_at hl 0 rfl) ?_
    refine get_X6_7 hx hb hts hown hK hP 0 rfl rfl dX6_take_14 ?_
    refine lv_iconst (v := 0) hx hb dX6_take_17 (by decide) ?_
    obtain ⟨g18, hF⟩ := gdb hF
    refine va_iald hx hb hK hP 2 0 rfl rfl (vinb g18) dX6_take_18 ?_
    refine lv_iconst (v := 1) hx hb dX6_take_19 (by decide) ?_
    refine lv_icmp_ne (tgt := 27) hx hb dX6_take_20 (by decide) (fun k20 => ?_) (fun k20 => ?_)
    · (try simp only [if_neg k20] at hF)
      refine lv_iconst (v := 0) hx hb dX6_take_27 (by decide) ?_
      exact K28 c_states c_thrown c_history c_z (0 : Int32) H locs ls hP hD hS (lv_sub hl [0, 1] rfl) hF
    · (try simp only [if_pos k20] at hF)
      refine lv_iconst (v := 2) hx hb dX6_take_23 (by decide) ?_
      refine lv_goto (tgt := 28) hx hb dX6_take_24 (by decide) ?_
      exact K28 c_states c_thrown c_history c_z (2 : Int32) H locs ls hP hD hS (lv_sub hl [0, 1] rfl) hF
  · replace hF := (if_pos k6).symm.trans hF
    refine lv_iconst (v := 1) hx hb dX6_take_9 (by decide) ?_
    refine lv_goto (tgt := 28) hx hb dX6_take_10 (by decide) ?_
    exact K28 c_states c_thrown c_history c_z (1 : Int32) H locs ls hP hD hS (lv_sub hl [0, 1] rfl) hF
abbrev wd_X6_append (cI : ClassId) (a_t a_z a_history a_text a_left a_other a_smooth a_weights a_signs a_worked : Nat) (c_states : Int32) (c_length : Int32) (c_thrown : Int32) (c_codes : Int32) (c_read : Int32) (c_isOpen : Int32) (c_hash : Int64) (c_text : Nat → Int32) : va_W := [(a_t, .inr (6, [.ref a_z, .int c_states, .ref a_history, .int c_length, .ref a_text, .int c_thrown, .ref a_left, .ref a_other, .ref a_smooth, .ref a_weights, .int c_codes, .ref a_signs, .int c_read, .int c_isOpen, .ref a_worked, .long c_hash])), (a_text, .inl (cI, 60, .inl c_text))]
def rm_X6_append : Room := { frames := 1, cells := 0, slots := 0, locals := 22 }
set_option maxHeartbeats 4000000 in
set_option maxRecDepth 100000 in
theorem c_X6_append (l : Launch) (D : va_G) (cI : ClassId) (a_t a_z a_history a_text a_left a_other a_smooth a_weights a_signs a_worked : Nat) (sz : Nat) (c_states : Int32) (c_length : Int32) (c_thrown : Int32) (c_codes : Int32) (c_read : Int32) (c_isOpen : Int32) (c_hash : Int64) (c_text : Nat → Int32) (x1 : Int32) (o : Int32 × Int32 × Int32 × (Nat → Int32)) (hF : F_X6_append c_length c_thrown c_text x1 = some o) : Met l yX6_append (Cond.code yX6_append cX6_append 2 (some .int) :: WL) rm_X6_append (preM D [(cI, .int)] (wd_X6_append cI a_t a_z a_history a_text a_left a_other a_smooth a_weights a_signs a_worked c_states c_length c_thrown c_codes c_read c_isOpen c_hash c_text) sz [.ref a_t, .int x1]) (postI D o.1 (wd_X6_append cI a_t a_z a_history a_text a_left a_other a_smooth a_weights a_signs a_worked c_states o.2.1 o.2.2.1 c_codes c_read c_isOpen c_hash o.2.2.2) (wd_X6_append cI a_t a_z a_history a_text a_left a_other a_smooth a_weights a_signs a_worked c_states c_length c_thrown c_codes c_read c_isOpen c_hash c_text) sz) 0 0 (va_A (wd_X6_append cI a_t a_z a_history a_text a_left a_other a_smooth a_weights a_signs a_worked c_states c_length c_thrown c_codes c_read c_isOpen c_hash c_text) sz) := by
  refine mofI (by decide +kernel) (Nat.le_of_ble_eq_true rfl) ?_
  intro p e s m args below meth c Q A ls hx hb hml hown hts hK hP hD hS hA hG hl hret hsz0
  have hl : lv_has ls 2 [(0, .ref a_t), (1, .int x1)] := hl
  have K30 : ∀ (c_length : Int32) (c_thrown : Int32) (c_text : Nat → Int32) (v1 : Int32)  (H : Heap) (locs : List Loc) (ls : Array Slot), va_P D vwCl (wd_X6_append cI a_t a_z a_history a_text a_left a_other a_smooth a_weights a_signs a_worked c_states c_length c_thrown c_codes c_read c_isOpen c_hash c_text) H → va_D A (wd_X6_append cI a_t a_z a_history a_text a_left a_other a_smooth a_weights a_signs a_worked c_states c_length c_thrown c_codes c_read c_isOpen c_hash c_text) → va_S A s.heap H locs → lv_has ls 2 [(0, .ref a_t), (1, .int x1)] → F_X6_append_J30 x1 c_length c_thrown c_text v1 = some o → W p l e rm_X6_append s m args below meth c H locs 0 0 Q (F0 m 30 ls [.int v1, .ref a_t]) := by
    intro c_length c_thrown c_text v1 H locs ls hP hD hS hl hF
    unfold F_X6_append_J30 at hF
    refine put_X6_37 hx hb hts hown hK hP hD hS 0 rfl rfl rfl (Nat.le_of_ble_eq_true rfl) dX6_append_30 (fun H locs hP hD hS => ?_)
    have hP : va_P D vwCl (wd_X6_append cI a_t a_z a_history a_text a_left a_other a_smooth a_weights a_signs a_worked c_states c_length v1 c_codes c_read c_isOpen c_hash c_text) H := hP
    have hD : va_D A (wd_X6_append cI a_t a_z a_history a_text a_left a_other a_smooth a_weights a_signs a_worked c_states c_length v1 c_codes c_read c_isOpen c_hash c_text) := hD
    refine lv_aload_n hx hb dX6_append_33 rfl (lv_at hl 0 rfl) ?_
    refine get_X6_37 hx hb hts hown hK hP 0 rfl rfl dX6_append_34 ?_
    refine lv_if_le (tgt := 42) hx hb dX6_append_37 (by decide) (fun k37 => ?_) (fun k37 => ?_)
    · replace hF := (if_pos k37).symm.trans hF
      refine lv_aload_n hx hb dX6_append_42 rfl (lv_at hl 0 rfl) ?_
      refine get_X6_16 hx hb hts hown hK hP 0 rfl rfl dX6_append_43 ?_
      refine lv_aload_n hx hb dX6_append_46 rfl (lv_at hl 0 rfl) ?_
      refine get_X6_142 hx hb hts hown hK hP 0 rfl rfl dX6_append_47 ?_
      refine lv_iload_n hx hb dX6_append_50 rfl (lv_at hl 1 rfl) ?_
      obtain ⟨g51, hF⟩ := gdb hF
      refine va_iast hx hb hK hP hD hS 1 0 rfl rfl (vinb g51) dX6_append_51 (fun H locs hP hD hS => ?_)
      have hP : va_P D vwCl (wd_X6_append cI a_t a_z a_history a_text a_left a_other a_smooth a_weights a_signs a_worked c_states c_length v1 c_codes c_read c_isOpen c_hash (upd c_text (c_length).toNatClampNeg x1)) H := hP
      have hD : va_D A (wd_X6_append cI a_t a_z a_history a_text a_left a_other a_smooth a_weights a_signs a_worked c_states c_length v1 c_codes c_read c_isOpen c_hash (upd c_text (c_length).toNatClampNeg x1)) := hD
      refine lv_aload_n hx hb dX6_append_52 rfl (lv_at hl 0 rfl) ?_
      refine lv_dup hx hb dX6_append_53 rfl ?_
      refine get_X6_142 hx hb hts hown hK hP 0 rfl rfl dX6_append_54 ?_
      refine lv_iconst (v := 1) hx hb dX6_append_57 (by decide) ?_
      refine lv_iadd hx hb dX6_append_58 ?_
      refine put_X6_142 hx hb hts hown hK hP hD hS 0 rfl rfl rfl (Nat.le_of_ble_eq_true rfl) dX6_append_59 (fun H locs hP hD hS => ?_)
      have hP : va_P D vwCl (wd_X6_append cI a_t a_z a_history a_text a_left a_other a_smooth a_weights a_signs a_worked c_states (c_length + (1 : Int32)) v1 c_codes c_read c_isOpen c_hash (upd c_text (c_length).toNatClampNeg x1)) H := hP
      have hD : va_D A (wd_X6_append cI a_t a_z a_history a_text a_left a_other a_smooth a_weights a_signs a_worked c_states (c_length + (1 : Int32)) v1 c_codes c_read c_isOpen c_hash (upd c_text (c_length).toNatClampNeg x1)) := hD
      refine lv_aload_n hx hb dX6_append_62 rfl (lv_at hl 0 rfl) ?_
      refine get_X6_142 hx hb hts hown hK hP 0 rfl rfl dX6_append_63 ?_
      have ho := Option.some.inj hF
      exact hret H locs ls 66 (c_length + (1 : Int32)) _ hP hS (by rw [← ho]) (by rw [← ho]) dX6_append_66
    · replace hF := (if_neg k37).symm.trans hF
      refine lv_iconst (v := 0) hx hb dX6_append_40 (by decide) ?_
      have ho := Option.some.inj hF
      exact hret H locs ls 41 (0 : Int32) _ hP hS (by rw [← ho]) (by rw [← ho]) dX6_append_41
  unfold F_X6_append at hF
  have hP : va_P D vwCl (wd_X6_append cI a_t a_z a_history a_text a_left a_other a_smooth a_weights a_signs a_worked c_states c_length c_thrown c_codes c_read c_isOpen c_hash c_text) s.heap := hP
  obtain ⟨H, hH⟩ : ∃ H, H = s.heap := ⟨_, rfl⟩
  rw [← hH]
  rw [← hH] at hP
  obtain ⟨locs, hlo⟩ : ∃ z : List Loc, z = [] := ⟨_, rfl⟩
  rw [← hlo]
  have hS : va_S A s.heap H locs := by rw [hH, hlo]; exact hS
  refine lv_aload_n hx hb dX6_append_0 rfl (lv_at hl 0 rfl) ?_
  refine lv_iload_n hx hb dX6_append_1 rfl (lv_at hl 1 rfl) ?_
  refine lv_bipush (v := 33) hx hb dX6_append_2 (by decide) ?_
  refine lv_bipush (v := 126) hx hb dX6_append_4 (by decide) ?_
  obtain ⟨r6, hr6, hF⟩ := opb hF
  refine kSI (As := [.int x1, .int (33 : Int32), .int (126 : Int32)]) (rest := [.ref a_t]) (ws' := (wd_X6_append cI a_t a_z a_history a_text a_left a_other a_smooth a_weights a_signs a_worked c_states c_length c_thrown c_codes c_read c_isOpen c_hash c_text)) ⟨hx, hb, hml, hown, hts⟩ (c_X6_within l D cI  H.size  x1 (33 : Int32) (126 : Int32) r6 hr6) (va_cwS 3 hts mw_X6_44 rfl rfl rfl hd_X6_within ⟨Nat.le_of_ble_eq_true rfl, Nat.le_of_ble_eq_true rfl⟩) hS hA hG hK hP hD [] rfl rfl rfl rfl rfl ⟨Nat.zero_le _, Nat.zero_le _⟩ rfl hl.1 rfl (Nat.le_of_ble_eq_true rfl) dX6_append_6 (fun H locs hP hD hS => ?_)
  refine lv_if_ne (tgt := 16) hx hb dX6_append_9 (by decide) (fun k9 => ?_) (fun k9 => ?_)
  · (try simp only [if_neg k9] at hF)
    refine lv_aload_n hx hb dX6_append_16 rfl (lv_at hl 0 rfl) ?_
    refine get_X6_142 hx hb hts hown hK hP 0 rfl rfl dX6_append_17 ?_
    refine lv_bipush (v := 60) hx hb dX6_append_20 (by decide) ?_
    refine lv_icmp_ne (tgt := 29) hx hb dX6_append_22 (by decide) (fun k22 => ?_) (fun k22 => ?_)
    · (try simp only [if_neg k22] at hF)
      refine lv_iconst (v := 0) hx hb dX6_append_29 (by decide) ?_
      exact K30 c_length c_thrown c_text (0 : Int32) H locs ls hP hD hS (lv_sub hl [0, 1] rfl) hF
    · (try simp only [if_pos k22] at hF)
      refine lv_iconst (v := 2) hx hb dX6_append_25 (by decide) ?_
      refine lv_goto (tgt := 30) hx hb dX6_append_26 (by decide) ?_
      exact K30 c_length c_thrown c_text (2 : Int32) H locs ls hP hD hS (lv_sub hl [0, 1] rfl) hF
  · (try simp only [if_pos k9] at hF)
    refine lv_iconst (v := 1) hx hb dX6_append_12 (by decide) ?_
    refine lv_goto (tgt := 30) hx hb dX6_append_13 (by decide) ?_
    exact K30 c_length c_thrown c_text (1 : Int32) H locs ls hP hD hS (lv_sub hl [0, 1] rfl) hF
abbrev wd_X6_clearBuffer (cI : ClassId) (a_t a_z a_history a_text a_left a_other a_smooth a_weights a_signs a_worked : Nat) (c_states : Int32) (c_length : Int32) (c_thrown : Int32) (c_codes : Int32) (c_read : Int32) (c_isOpen : Int32) (c_hash : Int64) : va_W := [(a_t, .inr (6, [.ref a_z, .int c_states, .ref a_history, .int c_length, .ref a_text, .int c_thrown, .ref a_left, .ref a_other, .ref a_smooth, .ref a_weights, .int c_codes, .ref a_signs, .int c_read, .int c_isOpen, .ref a_worked, .long c_hash]))]
def rm_X6_clearBuffer : Room := { frames := 0, cells := 0, slots := 0, locals := 0 }
set_option maxHeartbeats 4000000 in
set_option maxRecDepth 100000 in
theorem c_X6_clearBuffer (l : Launch) (D : va_G) (cI : ClassId) (a_t a_z a_history a_text a_left a_other a_smooth a_weights a_signs a_worked : Nat) (sz : Nat) (c_states : Int32) (c_length : Int32) (c_thrown : Int32) (c_codes : Int32) (c_read : Int32) (c_isOpen : Int32) (c_hash : Int64) (o : Int32 × Int32 × Int32) (hF : F_X6_clearBuffer c_length c_thrown = some o) : Met l yX6_clearBuffer (Cond.code yX6_clearBuffer cX6_clearBuffer 2 (some .int) :: WL) rm_X6_clearBuffer (preM D [(cI, .int)] (wd_X6_clearBuffer cI a_t a_z a_history a_text a_left a_other a_smooth a_weights a_signs a_worked c_states c_length c_thrown c_codes c_read c_isOpen c_hash) sz [.ref a_t]) (postI D o.1 (wd_X6_clearBuffer cI a_t a_z a_history a_text a_left a_other a_smooth a_weights a_signs a_worked c_states o.2.1 o.2.2 c_codes c_read c_isOpen c_hash) (wd_X6_clearBuffer cI a_t a_z a_history a_text a_left a_other a_smooth a_weights a_signs a_worked c_states c_length c_thrown c_codes c_read c_isOpen c_hash) sz) 0 0 (va_A (wd_X6_clearBuffer cI a_t a_z a_history a_text a_left a_other a_smooth a_weights a_signs a_worked c_states c_length c_thrown c_codes c_read c_isOpen c_hash) sz) := by
  refine mofI (by decide +kernel) (Nat.le_of_ble_eq_true rfl) ?_
  intro p e s m args below meth c Q A ls hx hb hml hown hts hK hP hD hS hA hG hl hret hsz0
  have hl : lv_has ls 2 [(0, .ref a_t)] := hl
  unfold F_X6_clearBuffer at hF
  have hP : va_P D vwCl (wd_X6_clearBuffer cI a_t a_z a_history a_text a_left a_other a_smooth a_weights a_signs a_worked c_states c_length c_thrown c_codes c_read c_isOpen c_hash) s.heap := hP
  obtain ⟨H, hH⟩ : ∃ H, H = s.heap := ⟨_, rfl⟩
  rw [← hH]
  rw [← hH] at hP
  obtain ⟨locs, hlo⟩ : ∃ z : List Loc, z = [] := ⟨_, rfl⟩
  rw [← hlo]
  have hS : va_S A s.heap H locs := by rw [hH, hlo]; exact hS
  refine lv_aload_n hx hb dX6_clearBuffer_0 rfl (lv_at hl 0 rfl) ?_
  refine lv_iconst (v := 0) hx hb dX6_clearBuffer_1 (by decide) ?_
  refine put_X6_37 hx hb hts hown hK hP hD hS 0 rfl rfl rfl (Nat.le_of_ble_eq_true rfl) dX6_clearBuffer_2 (fun H locs hP hD hS => ?_)
  have hP : va_P D vwCl (wd_X6_clearBuffer cI a_t a_z a_history a_text a_left a_other a_smooth a_weights a_signs a_worked c_states c_length (0 : Int32) c_codes c_read c_isOpen c_hash) H := hP
  have hD : va_D A (wd_X6_clearBuffer cI a_t a_z a_history a_text a_left a_other a_smooth a_weights a_signs a_worked c_states c_length (0 : Int32) c_codes c_read c_isOpen c_hash) := hD
  refine lv_aload_n hx hb dX6_clearBuffer_5 rfl (lv_at hl 0 rfl) ?_
  refine get_X6_142 hx hb hts hown hK hP 0 rfl rfl dX6_clearBuffer_6 ?_
  refine lv_istore_n (lv' := [(1, .int c_length), (0, .ref a_t)]) hx hb dX6_clearBuffer_9 rfl hl (by decide) rfl (fun ls hl => ?_)
  refine lv_aload_n hx hb dX6_clearBuffer_10 rfl (lv_at hl 1 rfl) ?_
  refine lv_iconst (v := 0) hx hb dX6_clearBuffer_11 (by decide) ?_
  refine put_X6_142 hx hb hts hown hK hP hD hS 0 rfl rfl rfl (Nat.le_of_ble_eq_true rfl) dX6_clearBuffer_12 (fun H locs hP hD hS => ?_)
  have hP : va_P D vwCl (wd_X6_clearBuffer cI a_t a_z a_history a_text a_left a_other a_smooth a_weights a_signs a_worked c_states (0 : Int32) (0 : Int32) c_codes c_read c_isOpen c_hash) H := hP
  have hD : va_D A (wd_X6_clearBuffer cI a_t a_z a_history a_text a_left a_other a_smooth a_weights a_signs a_worked c_states (0 : Int32) (0 : Int32) c_codes c_read c_isOpen c_hash) := hD
  refine lv_iload_n hx hb dX6_clearBuffer_15 rfl (lv_at hl 0 rfl) ?_
  have ho := Option.some.inj hF
  exact hret H locs ls 16 c_length _ hP hS (by rw [← ho]) (by rw [← ho]) dX6_clearBuffer_16
abbrev wd_X6_takes (cI : ClassId) (a_t a_z a_history a_text a_left a_other a_smooth a_weights a_signs a_worked : Nat) (c_states : Int32) (c_length : Int32) (c_thrown : Int32) (c_codes : Int32) (c_read : Int32) (c_isOpen : Int32) (c_hash : Int64) (c_signs : Nat → Int32) : va_W := [(a_t, .inr (6, [.ref a_z, .int c_states, .ref a_history, .int c_length, .ref a_text, .int c_thrown, .ref a_left, .ref a_other, .ref a_smooth, .ref a_weights, .int c_codes, .ref a_signs, .int c_read, .int c_isOpen, .ref a_worked, .long c_hash])), (a_signs, .inl (cI, 11, .inl c_signs))]
def rm_X6_takes : Room := { frames := 2, cells := 0, slots := 0, locals := 42 }
set_option maxHeartbeats 4000000 in
set_option maxRecDepth 100000 in
theorem c_X6_takes (l : Launch) (D : va_G) (cI : ClassId) (a_t a_z a_history a_text a_left a_other a_smooth a_weights a_signs a_worked : Nat) (sz : Nat) (c_states : Int32) (c_length : Int32) (c_thrown : Int32) (c_codes : Int32) (c_read : Int32) (c_isOpen : Int32) (c_hash : Int64) (c_signs : Nat → Int32) (x1 : Int32) (o : Int32 × Int32 × Int32 × (Nat → Int32)) (hF : F_X6_takes c_read c_isOpen c_signs x1 = some o) : Met l yX6_takes (Cond.code yX6_takes cX6_takes 4 (some .boolean) :: WL) rm_X6_takes (preM D [(cI, .int)] (wd_X6_takes cI a_t a_z a_history a_text a_left a_other a_smooth a_weights a_signs a_worked c_states c_length c_thrown c_codes c_read c_isOpen c_hash c_signs) sz [.ref a_t, .int x1]) (postI D o.1 (wd_X6_takes cI a_t a_z a_history a_text a_left a_other a_smooth a_weights a_signs a_worked c_states c_length c_thrown c_codes o.2.1 o.2.2.1 c_hash o.2.2.2) (wd_X6_takes cI a_t a_z a_history a_text a_left a_other a_smooth a_weights a_signs a_worked c_states c_length c_thrown c_codes c_read c_isOpen c_hash c_signs) sz) 0 0 (va_A (wd_X6_takes cI a_t a_z a_history a_text a_left a_other a_smooth a_weights a_signs a_worked c_states c_length c_thrown c_codes c_read c_isOpen c_hash c_signs) sz) := by
  refine mofZ (by decide +kernel) (Nat.le_of_ble_eq_true rfl) ?_
  intro p e s m args below meth c Q A ls hx hb hml hown hts hK hP hD hS hA hG hl hret hsz0
  have hl : lv_has ls 4 [(0, .ref a_t), (1, .int x1)] := hl
  have K139 : ∀ (c_read : Int32) (c_isOpen : Int32) (c_signs : Nat → Int32) (x2 : Int32)  (H : Heap) (locs : List Loc) (ls : Array Slot), va_P D vwCl (wd_X6_takes cI a_t a_z a_history a_text a_left a_other a_smooth a_weights a_signs a_worked c_states c_length c_thrown c_codes c_read c_isOpen c_hash c_signs) H → va_D A (wd_X6_takes cI a_t a_z a_history a_text a_left a_other a_smooth a_weights a_signs a_worked c_states c_length c_thrown c_codes c_read c_isOpen c_hash c_signs) → va_S A s.heap H locs → lv_has ls 4 [(0, .ref a_t), (2, .int x2)] → F_X6_takes_J139 x1 c_read c_isOpen c_signs x2 = some o → W p l e rm_X6_takes s m args below meth c H locs 0 0 Q (F0 m 139 ls []) := by
    intro c_read c_isOpen c_signs x2 H locs ls hP hD hS hl hF
    unfold F_X6_takes_J139 at hF
    refine lv_aload_n hx hb dX6_takes_139 rfl (lv_at hl 0 rfl) ?_
    refine lv_iconst (v := 0) hx hb dX6_takes_140 (by decide) ?_
    refine put_X6_148 hx hb hts hown hK hP hD hS 0 rfl rfl rfl (Nat.le_of_ble_eq_true rfl) dX6_takes_141 (fun H locs hP hD hS => ?_)
    have hP : va_P D vwCl (wd_X6_takes cI a_t a_z a_history a_text a_left a_other a_smooth a_weights a_signs a_worked c_states c_length c_thrown c_codes c_read (0 : Int32) c_hash c_signs) H := hP
    have hD : va_D A (wd_X6_takes cI a_t a_z a_history a_text a_left a_other a_smooth a_weights a_signs a_worked c_states c_length c_thrown c_codes c_read (0 : Int32) c_hash c_signs) := hD
    refine lv_iload_n hx hb dX6_takes_144 rfl (lv_at hl 1 rfl) ?_
    obtain ⟨g145, hF⟩ := gdb hF
    have ho := Option.some.inj hF
    exact hret H locs ls 145 x2 _ hP hS (by rw [← ho]) (by rw [← ho]) (bzb g145) dX6_takes_145
  have K91 : ∀ (n91 : Nat) (c_read : Int32) (c_isOpen : Int32) (c_signs : Nat → Int32) (x2 : Int32) (x3 : Int32) (H : Heap) (locs : List Loc) (ls : Array Slot), va_P D vwCl (wd_X6_takes cI a_t a_z a_history a_text a_left a_other a_smooth a_weights a_signs a_worked c_states c_length c_thrown c_codes c_read c_isOpen c_hash c_signs) H → va_D A (wd_X6_takes cI a_t a_z a_history a_text a_left a_other a_smooth a_weights a_signs a_worked c_states c_length c_thrown c_codes c_read c_isOpen c_hash c_signs) → va_S A s.heap H locs → lv_has ls 4 [(0, .ref a_t), (1, .int x1), (2, .int x2), (3, .int x3)] → F_X6_takes_L91 x1 n91 c_read c_isOpen c_signs x2 x3 = some o → W p l e rm_X6_takes s m args below meth c H locs 0 0 Q (F0 m 91 ls []) := by
    intro n91
    induction n91 with
    | zero => intro c_read c_isOpen c_signs x2 x3 H locs ls hP hD hS hl hF; exact nos hF
    | succ n91 ih91 =>
      intro c_read c_isOpen c_signs x2 x3 H locs ls hP hD hS hl hF
      rw [F_X6_takes_L91] at hF
      refine lv_iload_n hx hb dX6_takes_91 rfl (lv_at hl 2 rfl) ?_
      refine lv_if_eq (tgt := 139) hx hb dX6_takes_92 (by decide) (fun k92 => ?_) (fun k92 => ?_)
      · replace hF := (if_pos k92).symm.trans hF
        exact K139 c_read c_isOpen c_signs x2 H locs ls hP hD hS (lv_sub hl [0, 2] rfl) hF
      · replace hF := (if_neg k92).symm.trans hF
        refine lv_iload_n hx hb dX6_takes_95 rfl (lv_at hl 3 rfl) ?_
        refine lv_iload_n hx hb dX6_takes_96 rfl (lv_at hl 1 rfl) ?_
        refine lv_bipush (v := 48) hx hb dX6_takes_97 (by decide) ?_
        refine lv_isub hx hb dX6_takes_99 ?_
        refine lv_icmp_ge (tgt := 139) hx hb dX6_takes_100 (by decide) (fun k100 => ?_) (fun k100 => ?_)
        · replace hF := (if_pos k100).symm.trans hF
          exact K139 c_read c_isOpen c_signs x2 H locs ls hP hD hS (lv_sub hl [0, 2] rfl) hF
        · replace hF := (if_neg k100).symm.trans hF
          refine lv_aload_n hx hb dX6_takes_103 rfl (lv_at hl 0 rfl) ?_
          refine get_X6_31 hx hb hts hown hK hP 0 rfl rfl dX6_takes_104 ?_
          refine lv_aload_n hx hb dX6_takes_107 rfl (lv_at hl 0 rfl) ?_
          refine get_X6_145 hx hb hts hown hK hP 0 rfl rfl dX6_takes_108 ?_
          refine lv_aload_n hx hb dX6_takes_111 rfl (lv_at hl 0 rfl) ?_
          refine get_X6_31 hx hb hts hown hK hP 0 rfl rfl dX6_takes_112 ?_
          refine lv_aload_n hx hb dX6_takes_115 rfl (lv_at hl 0 rfl) ?_
          refine get_X6_145 hx hb hts hown hK hP 0 rfl rfl dX6_takes_116 ?_
          refine lv_iconst (v := 1) hx hb dX6_takes_119 (by decide) ?_
          refine lv_isub hx hb dX6_takes_120 ?_
          obtain ⟨g121, hF⟩ := gdb hF
          refine va_iald hx hb hK hP 1 0 rfl rfl (vinb g121) dX6_takes_121 ?_
          obtain ⟨g122, hF⟩ := gdb hF
          refine va_iast hx hb hK hP hD hS 1 0 rfl rfl (vinb g122) dX6_takes_122 (fun H locs hP hD hS => ?_)
          have hP : va_P D vwCl (wd_X6_takes cI a_t a_z a_history a_text a_left a_other a_smooth a_weights a_signs a_worked c_states c_length c_thrown c_codes c_read c_isOpen c_hash (upd c_signs (c_read).toNatClampNeg (c_signs (c_read - (1 : Int32)).toNatClampNeg))) H := hP
          have hD : va_D A (wd_X6_takes cI a_t a_z a_history a_text a_left a_other a_smooth a_weights a_signs a_worked c_states c_length c_thrown c_codes c_read c_isOpen c_hash (upd c_signs (c_read).toNatClampNeg (c_signs (c_read - (1 : Int32)).toNatClampNeg))) := hD
          refine lv_aload_n hx hb dX6_takes_123 rfl (lv_at hl 0 rfl) ?_
          refine lv_dup hx hb dX6_takes_124 rfl ?_
          refine get_X6_145 hx hb hts hown hK hP 0 rfl rfl dX6_takes_125 ?_
          refine lv_iconst (v := 1) hx hb dX6_takes_128 (by decide) ?_
          refine lv_iadd hx hb dX6_takes_129 ?_
          refine put_X6_145 hx hb hts hown hK hP hD hS 0 rfl rfl rfl (Nat.le_of_ble_eq_true rfl) dX6_takes_130 (fun H locs hP hD hS => ?_)
          have hP : va_P D vwCl (wd_X6_takes cI a_t a_z a_history a_text a_left a_other a_smooth a_weights a_signs a_worked c_states c_length c_thrown c_codes (c_read + (1 : Int32)) c_isOpen c_hash (upd c_signs (c_read).toNatClampNeg (c_signs (c_read - (1 : Int32)).toNatClampNeg))) H := hP
          have hD : va_D A (wd_X6_takes cI a_t a_z a_history a_text a_left a_other a_smooth a_weights a_signs a_worked c_states c_length c_thrown c_codes (c_read + (1 : Int32)) c_isOpen c_hash (upd c_signs (c_read).toNatClampNeg (c_signs (c_read - (1 : Int32)).toNatClampNeg))) := hD
          refine lv_iinc (v := x3 + 1) (lv' := [(3, .int (x3 + 1)), (0, .ref a_t), (1, .int x1), (2, .int x2)]) hx hb dX6_takes_133 hl (k := 3) rfl rfl (by decide) rfl (fun ls hl => ?_)
          refine lv_goto (tgt := 91) hx hb dX6_takes_136 (by decide) ?_
          exact ih91 (c_read + (1 : Int32)) c_isOpen (upd c_signs (c_read).toNatClampNeg (c_signs (c_read - (1 : Int32)).toNatClampNeg)) x2 (x3 + 1) H locs ls hP hD hS (lv_sub hl [1, 2, 3, 0] rfl) hF
  have K49 : ∀ (c_read : Int32) (c_isOpen : Int32) (c_signs : Nat → Int32)  (H : Heap) (locs : List Loc) (ls : Array Slot), va_P D vwCl (wd_X6_takes cI a_t a_z a_history a_text a_left a_other a_smooth a_weights a_signs a_worked c_states c_length c_thrown c_codes c_read c_isOpen c_hash c_signs) H → va_D A (wd_X6_takes cI a_t a_z a_history a_text a_left a_other a_smooth a_weights a_signs a_worked c_states c_length c_thrown c_codes c_read c_isOpen c_hash c_signs) → va_S A s.heap H locs → lv_has ls 4 [(0, .ref a_t), (1, .int x1)] → F_X6_takes_J49 x1 c_read c_isOpen c_signs = some o → W p l e rm_X6_takes s m args below meth c H locs 0 0 Q (F0 m 49 ls []) := by
    intro c_read c_isOpen c_signs H locs ls hP hD hS hl hF
    unfold F_X6_takes_J49 at hF
    refine lv_aload_n hx hb dX6_takes_49 rfl (lv_at hl 0 rfl) ?_
    refine get_X6_148 hx hb hts hown hK hP 0 rfl rfl dX6_takes_50 ?_
    refine lv_if_eq (tgt := 87) hx hb dX6_takes_53 (by decide) (fun k53 => ?_) (fun k53 => ?_)
    · replace hF := (if_pos k53).symm.trans hF
      refine lv_iconst (v := 0) hx hb dX6_takes_87 (by decide) ?_
      refine lv_istore_n (lv' := [(2, .int (0 : Int32)), (0, .ref a_t), (1, .int x1)]) hx hb dX6_takes_88 rfl hl (by decide) rfl (fun ls hl => ?_)
      refine lv_iconst (v := 1) hx hb dX6_takes_89 (by decide) ?_
      refine lv_istore_n (lv' := [(3, .int (1 : Int32)), (2, .int (0 : Int32)), (0, .ref a_t), (1, .int x1)]) hx hb dX6_takes_90 rfl hl (by decide) rfl (fun ls hl => ?_)
      exact K91 FU c_read c_isOpen c_signs (0 : Int32) (1 : Int32) H locs ls hP hD hS (lv_sub hl [2, 3, 1, 0] rfl) hF
    · replace hF := (if_neg k53).symm.trans hF
      refine lv_iload_n hx hb dX6_takes_56 rfl (lv_at hl 1 rfl) ?_
      refine lv_bipush (v := 50) hx hb dX6_takes_57 (by decide) ?_
      refine lv_bipush (v := 57) hx hb dX6_takes_59 (by decide) ?_
      obtain ⟨r61, hr61, hF⟩ := opb hF
      refine kSI (As := [.int x1, .int (50 : Int32), .int (57 : Int32)]) (rest := []) (ws' := (wd_X6_takes cI a_t a_z a_history a_text a_left a_other a_smooth a_weights a_signs a_worked c_states c_length c_thrown c_codes c_read c_isOpen c_hash c_signs)) ⟨hx, hb, hml, hown, hts⟩ (c_X6_within l D cI  H.size  x1 (50 : Int32) (57 : Int32) r61 hr61) (va_cwS 3 hts mw_X6_44 rfl rfl rfl hd_X6_within ⟨Nat.le_of_ble_eq_true rfl, Nat.le_of_ble_eq_true rfl⟩) hS hA hG hK hP hD [] rfl rfl rfl rfl rfl ⟨Nat.zero_le _, Nat.zero_le _⟩ rfl hl.1 rfl (Nat.le_of_ble_eq_true rfl) dX6_takes_61 (fun H locs hP hD hS => ?_)
      refine lv_if_eq (tgt := 87) hx hb dX6_takes_64 (by decide) (fun k64 => ?_) (fun k64 => ?_)
      · (try simp only [if_pos k64] at hF)
        refine lv_iconst (v := 0) hx hb dX6_takes_87 (by decide) ?_
        refine lv_istore_n (lv' := [(2, .int (0 : Int32)), (0, .ref a_t), (1, .int x1)]) hx hb dX6_takes_88 rfl hl (by decide) rfl (fun ls hl => ?_)
        refine lv_iconst (v := 1) hx hb dX6_takes_89 (by decide) ?_
        refine lv_istore_n (lv' := [(3, .int (1 : Int32)), (2, .int (0 : Int32)), (0, .ref a_t), (1, .int x1)]) hx hb dX6_takes_90 rfl hl (by decide) rfl (fun ls hl => ?_)
        exact K91 FU c_read c_isOpen c_signs (0 : Int32) (1 : Int32) H locs ls hP hD hS (lv_sub hl [2, 3, 1, 0] rfl) hF
      · (try simp only [if_neg k64] at hF)
        refine lv_aload_n hx hb dX6_takes_67 rfl (lv_at hl 0 rfl) ?_
        refine get_X6_145 hx hb hts hown hK hP 0 rfl rfl dX6_takes_68 ?_
        refine lv_iconst (v := 1) hx hb dX6_takes_71 (by decide) ?_
        refine lv_isub hx hb dX6_takes_72 ?_
        refine lv_iload_n hx hb dX6_takes_73 rfl (lv_at hl 1 rfl) ?_
        refine lv_iadd hx hb dX6_takes_74 ?_
        refine lv_bipush (v := 48) hx hb dX6_takes_75 (by decide) ?_
        refine lv_isub hx hb dX6_takes_77 ?_
        refine lv_bipush (v := 11) hx hb dX6_takes_78 (by decide) ?_
        refine lv_icmp_gt (tgt := 87) hx hb dX6_takes_80 (by decide) (fun k80 => ?_) (fun k80 => ?_)
        · (try simp only [if_pos k80] at hF)
          refine lv_iconst (v := 0) hx hb dX6_takes_87 (by decide) ?_
          refine lv_istore_n (lv' := [(2, .int (0 : Int32)), (0, .ref a_t), (1, .int x1)]) hx hb dX6_takes_88 rfl hl (by decide) rfl (fun ls hl => ?_)
          refine lv_iconst (v := 1) hx hb dX6_takes_89 (by decide) ?_
          refine lv_istore_n (lv' := [(3, .int (1 : Int32)), (2, .int (0 : Int32)), (0, .ref a_t), (1, .int x1)]) hx hb dX6_takes_90 rfl hl (by decide) rfl (fun ls hl => ?_)
          exact K91 FU c_read c_isOpen c_signs (0 : Int32) (1 : Int32) H locs ls hP hD hS (lv_sub hl [2, 3, 1, 0] rfl) hF
        · (try simp only [if_neg k80] at hF)
          refine lv_iconst (v := 1) hx hb dX6_takes_83 (by decide) ?_
          refine lv_goto (tgt := 88) hx hb dX6_takes_84 (by decide) ?_
          refine lv_istore_n (lv' := [(2, .int (1 : Int32)), (0, .ref a_t), (1, .int x1)]) hx hb dX6_takes_88 rfl hl (by decide) rfl (fun ls hl => ?_)
          refine lv_iconst (v := 1) hx hb dX6_takes_89 (by decide) ?_
          refine lv_istore_n (lv' := [(3, .int (1 : Int32)), (2, .int (1 : Int32)), (0, .ref a_t), (1, .int x1)]) hx hb dX6_takes_90 rfl hl (by decide) rfl (fun ls hl => ?_)
          exact K91 FU c_read c_isOpen c_signs (1 : Int32) (1 : Int32) H locs ls hP hD hS (lv_sub hl [2, 3, 1, 0] rfl) hF
  unfold F_X6_takes at hF
  have hP : va_P D vwCl (wd_X6_takes cI a_t a_z a_history a_text a_left a_other a_smooth a_weights a_signs a_worked c_states c_length c_thrown c_codes c_read c_isOpen c_hash c_signs) s.heap := hP
  obtain ⟨H, hH⟩ : ∃ H, H = s.heap := ⟨_, rfl⟩
  rw [← hH]
  rw [← hH] at hP
  obtain ⟨locs, hlo⟩ : ∃ z : List Loc, z = [] := ⟨_, rfl⟩
  rw [← hlo]
  have hS : va_S A s.heap H locs := by rw [hH, hlo]; exact hS
  refine lv_iload_n hx hb dX6_takes_0 rfl (lv_at hl 1 rfl) ?_
  refine lv_bipush (v := 97) hx hb dX6_takes_1 (by decide) ?_
  refine lv_isub hx hb dX6_takes_3 ?_
  obtain ⟨r4, hr4, hF⟩ := opb hF
  refine kSI (As := [.int (x1 - (97 : Int32))]) (rest := []) (ws' := (wd_X6_takes cI a_t a_z a_history a_text a_left a_other a_smooth a_weights a_signs a_worked c_states c_length c_thrown c_codes c_read c_isOpen c_hash c_signs)) ⟨hx, hb, hml, hown, hts⟩ (c_X6_isSign l D cI  H.size  (x1 - (97 : Int32)) r4 hr4) (va_cwS 1 hts mw_X6_139 rfl rfl rfl hd_X6_isSign ⟨Nat.le_of_ble_eq_true rfl, Nat.le_of_ble_eq_true rfl⟩) hS hA hG hK hP hD [] rfl rfl rfl rfl rfl ⟨Nat.zero_le _, Nat.zero_le _⟩ rfl hl.1 rfl (Nat.le_of_ble_eq_true rfl) dX6_takes_4 (fun H locs hP hD hS => ?_)
  refine lv_if_eq (tgt := 49) hx hb dX6_takes_7 (by decide) (fun k7 => ?_) (fun k7 => ?_)
  · replace hF := (if_pos k7).symm.trans hF
    exact K49 c_read c_isOpen c_signs H locs ls hP hD hS (lv_sub hl [0, 1] rfl) hF
  · replace hF := (if_neg k7).symm.trans hF
    refine lv_aload_n hx hb dX6_takes_10 rfl (lv_at hl 0 rfl) ?_
    refine get_X6_145 hx hb hts hown hK hP 0 rfl rfl dX6_takes_11 ?_
    refine lv_bipush (v := 11) hx hb dX6_takes_14 (by decide) ?_
    refine lv_icmp_ge (tgt := 49) hx hb dX6_takes_16 (by decide) (fun k16 => ?_) (fun k16 => ?_)
    · replace hF := (if_pos k16).symm.trans hF
      exact K49 c_read c_isOpen c_signs H locs ls hP hD hS (lv_sub hl [0, 1] rfl) hF
    · replace hF := (if_neg k16).symm.trans hF
      refine lv_aload_n hx hb dX6_takes_19 rfl (lv_at hl 0 rfl) ?_
      refine get_X6_31 hx hb hts hown hK hP 0 rfl rfl dX6_takes_20 ?_
      refine lv_aload_n hx hb dX6_takes_23 rfl (lv_at hl 0 rfl) ?_
      refine get_X6_145 hx hb hts hown hK hP 0 rfl rfl dX6_takes_24 ?_
      refine lv_iload_n hx hb dX6_takes_27 rfl (lv_at hl 1 rfl) ?_
      refine lv_bipush (v := 97) hx hb dX6_takes_28 (by decide) ?_
      refine lv_isub hx hb dX6_takes_30 ?_
      obtain ⟨g31, hF⟩ := gdb hF
      refine va_iast hx hb hK hP hD hS 1 0 rfl rfl (vinb g31) dX6_takes_31 (fun H locs hP hD hS => ?_)
      have hP : va_P D vwCl (wd_X6_takes cI a_t a_z a_history a_text a_left a_other a_smooth a_weights a_signs a_worked c_states c_length c_thrown c_codes c_read c_isOpen c_hash (upd c_signs (c_read).toNatClampNeg (x1 - (97 : Int32)))) H := hP
      have hD : va_D A (wd_X6_takes cI a_t a_z a_history a_text a_left a_other a_smooth a_weights a_signs a_worked c_states c_length c_thrown c_codes c_read c_isOpen c_hash (upd c_signs (c_read).toNatClampNeg (x1 - (97 : Int32)))) := hD
      refine lv_aload_n hx hb dX6_takes_32 rfl (lv_at hl 0 rfl) ?_
      refine lv_dup hx hb dX6_takes_33 rfl ?_
      refine get_X6_145 hx hb hts hown hK hP 0 rfl rfl dX6_takes_34 ?_
      refine lv_iconst (v := 1) hx hb dX6_takes_37 (by decide) ?_
      refine lv_iadd hx hb dX6_takes_38 ?_
      refine put_X6_145 hx hb hts hown hK hP hD hS 0 rfl rfl rfl (Nat.le_of_ble_eq_true rfl) dX6_takes_39 (fun H locs hP hD hS => ?_)
      have hP : va_P D vwCl (wd_X6_takes cI a_t a_z a_history a_text a_left a_other a_smooth a_weights a_signs a_worked c_states c_length c_thrown c_codes (c_read + (1 : Int32)) c_isOpen c_hash (upd c_signs (c_read).toNatClampNeg (x1 - (97 : Int32)))) H := hP
      have hD : va_D A (wd_X6_takes cI a_t a_z a_history a_text a_left a_other a_smooth a_weights a_signs a_worked c_states c_length c_thrown c_codes (c_read + (1 : Int32)) c_isOpen c_hash (upd c_signs (c_read).toNatClampNeg (x1 - (97 : Int32)))) := hD
      refine lv_aload_n hx hb dX6_takes_42 rfl (lv_at hl 0 rfl) ?_
      refine lv_iconst (v := 1) hx hb dX6_takes_43 (by decide) ?_
      refine put_X6_148 hx hb hts hown hK hP hD hS 0 rfl rfl rfl (Nat.le_of_ble_eq_true rfl) dX6_takes_44 (fun H locs hP hD hS => ?_)
      have hP : va_P D vwCl (wd_X6_takes cI a_t a_z a_history a_text a_left a_other a_smooth a_weights a_signs a_worked c_states c_length c_thrown c_codes (c_read + (1 : Int32)) (1 : Int32) c_hash (upd c_signs (c_read).toNatClampNeg (x1 - (97 : Int32)))) H := hP
      have hD : va_D A (wd_X6_takes cI a_t a_z a_history a_text a_left a_other a_smooth a_weights a_signs a_worked c_states c_length c_thrown c_codes (c_read + (1 : Int32)) (1 : Int32) c_hash (upd c_signs (c_read).toNatClampNeg (x1 - (97 : Int32)))) := hD
      refine lv_iconst (v := 1) hx hb dX6_takes_47 (by decide) ?_
      have ho := Option.some.inj hF
      exact hret H locs ls 48 (1 : Int32) _ hP hS (by rw [← ho]) (by rw [← ho]) (by decide) dX6_takes_48
abbrev wd_X6_rightUpTo (cI : ClassId) (a_t a_z a_history a_text a_left a_other a_smooth a_weights a_signs a_worked : Nat) (c_states : Int32) (c_length : Int32) (c_thrown : Int32) (c_codes : Int32) (c_read : Int32) (c_isOpen : Int32) (c_hash : Int64) (c_signs : Nat → Int32) (c_text : Nat → Int32) : va_W := [(a_t, .inr (6, [.ref a_z, .int c_states, .ref a_history, .int c_length, .ref a_text, .int c_thrown, .ref a_left, .ref a_other, .ref a_smooth, .ref a_weights, .int c_codes, .ref a_signs, .int c_read, .int c_isOpen, .ref a_worked, .long c_hash])), (a_signs, .inl (cI, 11, .inl c_signs)), (a_text, .inl (cI, 60, .inl c_text))]
def rm_X6_rightUpTo : Room := { frames := 3, cells := 0, slots := 0, locals := 65 }
set_option maxHeartbeats 4000000 in
set_option maxRecDepth 100000 in
theorem c_X6_rightUpTo (l : Launch) (D : va_G) (cI : ClassId) (a_t a_z a_history a_text a_left a_other a_smooth a_weights a_signs a_worked : Nat) (sz : Nat) (c_states : Int32) (c_length : Int32) (c_thrown : Int32) (c_codes : Int32) (c_read : Int32) (c_isOpen : Int32) (c_hash : Int64) (c_signs : Nat → Int32) (c_text : Nat → Int32) (o : Int32 × Int32 × Int32 × (Nat → Int32)) (hF : F_X6_rightUpTo c_length c_read c_isOpen c_signs c_text = some o) : Met l yX6_rightUpTo (Cond.code yX6_rightUpTo cX6_rightUpTo 2 (some .int) :: WL) rm_X6_rightUpTo (preM D [(cI, .int)] (wd_X6_rightUpTo cI a_t a_z a_history a_text a_left a_other a_smooth a_weights a_signs a_worked c_states c_length c_thrown c_codes c_read c_isOpen c_hash c_signs c_text) sz [.ref a_t]) (postI D o.1 (wd_X6_rightUpTo cI a_t a_z a_history a_text a_left a_other a_smooth a_weights a_signs a_worked c_states c_length c_thrown c_codes o.2.1 o.2.2.1 c_hash o.2.2.2 c_text) (wd_X6_rightUpTo cI a_t a_z a_history a_text a_left a_other a_smooth a_weights a_signs a_worked c_states c_length c_thrown c_codes c_read c_isOpen c_hash c_signs c_text) sz) 0 0 (va_A (wd_X6_rightUpTo cI a_t a_z a_history a_text a_left a_other a_smooth a_weights a_signs a_worked c_states c_length c_thrown c_codes c_read c_isOpen c_hash c_signs c_text) sz) := by
  refine mofI (by decide +kernel) (Nat.le_of_ble_eq_true rfl) ?_
  intro p e s m args below meth c Q A ls hx hb hml hown hts hK hP hD hS hA hG hl hret hsz0
  have hl : lv_has ls 2 [(0, .ref a_t)] := hl
  have K12 : ∀ (n12 : Nat) (c_read : Int32) (c_isOpen : Int32) (c_signs : Nat → Int32) (x1 : Int32) (H : Heap) (locs : List Loc) (ls : Array Slot), va_P D vwCl (wd_X6_rightUpTo cI a_t a_z a_history a_text a_left a_other a_smooth a_weights a_signs a_worked c_states c_length c_thrown c_codes c_read c_isOpen c_hash c_signs c_text) H → va_D A (wd_X6_rightUpTo cI a_t a_z a_history a_text a_left a_other a_smooth a_weights a_signs a_worked c_states c_length c_thrown c_codes c_read c_isOpen c_hash c_signs c_text) → va_S A s.heap H locs → lv_has ls 2 [(0, .ref a_t), (1, .int x1)] → F_X6_rightUpTo_L12 c_length c_text n12 c_read c_isOpen c_signs x1 = some o → W p l e rm_X6_rightUpTo s m args below meth c H locs 0 0 Q (F0 m 12 ls []) := by
    intro n12
    induction n12 with
    | zero => intro c_read c_isOpen c_signs x1 H locs ls hP hD hS hl hF; exact nos hF
    | succ n12 ih12 =>
      intro c_read c_isOpen c_signs x1 H locs ls hP hD hS hl hF
      rw [F_X6_rightUpTo_L12] at hF
      refine lv_iload_n hx hb dX6_rightUpTo_12 rfl (lv_at hl 1 rfl) ?_
      refine lv_aload_n hx hb dX6_rightUpTo_13 rfl (lv_at hl 0 rfl) ?_
      refine get_X6_142 hx hb hts hown hK hP 0 rfl rfl dX6_rightUpTo_14 ?_
      refine lv_icmp_ge (tgt := 39) hx hb dX6_rightUpTo_17 (by decide) (fun k17 => ?_) (fun k17 => ?_)
      · replace hF := (if_pos k17).symm.trans hF
        refine lv_iload_n hx hb dX6_rightUpTo_39 rfl (lv_at hl 1 rfl) ?_
        have ho := Option.some.inj hF
        exact hret H locs ls 40 x1 _ hP hS (by rw [← ho]) (by rw [← ho]) dX6_rightUpTo_40
      · replace hF := (if_neg k17).symm.trans hF
        refine lv_aload_n hx hb dX6_rightUpTo_20 rfl (lv_at hl 0 rfl) ?_
        refine lv_aload_n hx hb dX6_rightUpTo_21 rfl (lv_at hl 0 rfl) ?_
        refine get_X6_16 hx hb hts hown hK hP 0 rfl rfl dX6_rightUpTo_22 ?_
        refine lv_iload_n hx hb dX6_rightUpTo_25 rfl (lv_at hl 1 rfl) ?_
        obtain ⟨g26, hF⟩ := gdb hF
        refine va_iald hx hb hK hP 2 0 rfl rfl (vinb g26) dX6_rightUpTo_26 ?_
        obtain ⟨r27, hr27, hF⟩ := opb hF
        refine kVI (As := [.int (c_text (x1).toNatClampNeg)]) (rest := []) (ws' := (wd_X6_rightUpTo cI a_t a_z a_history a_text a_left a_other a_smooth a_weights a_signs a_worked c_states c_length c_thrown c_codes r27.2.1 r27.2.2.1 c_hash r27.2.2.2 c_text)) ⟨hx, hb, hml, hown, hts⟩ (c_X6_takes l D cI a_t a_z a_history a_text a_left a_other a_smooth a_weights a_signs a_worked H.size c_states c_length c_thrown c_codes c_read c_isOpen c_hash c_signs (c_text (x1).toNatClampNeg) r27 hr27) (cwV 1 hts mw_X6_152 rfl rfl rfl hd_X6_takes ⟨Nat.le_of_ble_eq_true rfl, Nat.le_of_ble_eq_true rfl⟩) hS hA hG hK hP hD [0, 1] rfl rfl rfl rfl rfl ⟨Nat.zero_le _, Nat.zero_le _⟩ 6 0 rfl rfl rfl rfl hl.1 rfl (Nat.le_of_ble_eq_true rfl) dX6_rightUpTo_27 (fun H locs hP hD hS => ?_)
        refine lv_if_eq (tgt := 39) hx hb dX6_rightUpTo_30 (by decide) (fun k30 => ?_) (fun k30 => ?_)
        · replace hF := (if_pos k30).symm.trans hF
          refine lv_iload_n hx hb dX6_rightUpTo_39 rfl (lv_at hl 1 rfl) ?_
          have ho := Option.some.inj hF
          exact hret H locs ls 40 x1 _ hP hS (by rw [← ho]) (by rw [← ho]) dX6_rightUpTo_40
        · replace hF := (if_neg k30).symm.trans hF
          refine lv_iinc (v := x1 + 1) (lv' := [(1, .int (x1 + 1)), (0, .ref a_t)]) hx hb dX6_rightUpTo_33 hl (k := 1) rfl rfl (by decide) rfl (fun ls hl => ?_)
          refine lv_goto (tgt := 12) hx hb dX6_rightUpTo_36 (by decide) ?_
          exact ih12 r27.2.1 r27.2.2.1 r27.2.2.2 (x1 + 1) H locs ls hP hD hS (lv_sub hl [1, 0] rfl) hF
  unfold F_X6_rightUpTo at hF
  have hP : va_P D vwCl (wd_X6_rightUpTo cI a_t a_z a_history a_text a_left a_other a_smooth a_weights a_signs a_worked c_states c_length c_thrown c_codes c_read c_isOpen c_hash c_signs c_text) s.heap := hP
  obtain ⟨H, hH⟩ : ∃ H, H = s.heap := ⟨_, rfl⟩
  rw [← hH]
  rw [← hH] at hP
  obtain ⟨locs, hlo⟩ : ∃ z : List Loc, z = [] := ⟨_, rfl⟩
  rw [← hlo]
  have hS : va_S A s.heap H locs := by rw [hH, hlo]; exact hS
  refine lv_aload_n hx hb dX6_rightUpTo_0 rfl (lv_at hl 0 rfl) ?_
  refine lv_iconst (v := 0) hx hb dX6_rightUpTo_1 (by decide) ?_
  refine put_X6_145 hx hb hts hown hK hP hD hS 0 rfl rfl rfl (Nat.le_of_ble_eq_true rfl) dX6_rightUpTo_2 (fun H locs hP hD hS => ?_)
  have hP : va_P D vwCl (wd_X6_rightUpTo cI a_t a_z a_history a_text a_left a_other a_smooth a_weights a_signs a_worked c_states c_length c_thrown c_codes (0 : Int32) c_isOpen c_hash c_signs c_text) H := hP
  have hD : va_D A (wd_X6_rightUpTo cI a_t a_z a_history a_text a_left a_other a_smooth a_weights a_signs a_worked c_states c_length c_thrown c_codes (0 : Int32) c_isOpen c_hash c_signs c_text) := hD
  refine lv_aload_n hx hb dX6_rightUpTo_5 rfl (lv_at hl 0 rfl) ?_
  refine lv_iconst (v := 0) hx hb dX6_rightUpTo_6 (by decide) ?_
  refine put_X6_148 hx hb hts hown hK hP hD hS 0 rfl rfl rfl (Nat.le_of_ble_eq_true rfl) dX6_rightUpTo_7 (fun H locs hP hD hS => ?_)
  have hP : va_P D vwCl (wd_X6_rightUpTo cI a_t a_z a_history a_text a_left a_other a_smooth a_weights a_signs a_worked c_states c_length c_thrown c_codes (0 : Int32) (0 : Int32) c_hash c_signs c_text) H := hP
  have hD : va_D A (wd_X6_rightUpTo cI a_t a_z a_history a_text a_left a_other a_smooth a_weights a_signs a_worked c_states c_length c_thrown c_codes (0 : Int32) (0 : Int32) c_hash c_signs c_text) := hD
  refine lv_iconst (v := 0) hx hb dX6_rightUpTo_10 (by decide) ?_
  refine lv_istore_n (lv' := [(1, .int (0 : Int32)), (0, .ref a_t)]) hx hb dX6_rightUpTo_11 rfl hl (by decide) rfl (fun ls hl => ?_)
  exact K12 FU (0 : Int32) (0 : Int32) c_signs (0 : Int32) H locs ls hP hD hS (lv_sub hl [1, 0] rfl) hF
abbrev wd_X6_firstError (cI : ClassId) (a_t a_z a_history a_text a_left a_other a_smooth a_weights a_signs a_worked : Nat) (c_states : Int32) (c_length : Int32) (c_thrown : Int32) (c_codes : Int32) (c_read : Int32) (c_isOpen : Int32) (c_hash : Int64) (c_signs : Nat → Int32) (c_text : Nat → Int32) : va_W := [(a_t, .inr (6, [.ref a_z, .int c_states, .ref a_history, .int c_length, .ref a_text, .int c_thrown, .ref a_left, .ref a_other, .ref a_smooth, .ref a_weights, .int c_codes, .ref a_signs, .int c_read, .int c_isOpen, .ref a_worked, .long c_hash])), (a_signs, .inl (cI, 11, .inl c_signs)), (a_text, .inl (cI, 60, .inl c_text))]
def rm_X6_firstError : Room := { frames := 4, cells := 0, slots := 0, locals := 86 }
set_option maxHeartbeats 4000000 in
set_option maxRecDepth 100000 in
theorem c_X6_firstError (l : Launch) (D : va_G) (cI : ClassId) (a_t a_z a_history a_text a_left a_other a_smooth a_weights a_signs a_worked : Nat) (sz : Nat) (c_states : Int32) (c_length : Int32) (c_thrown : Int32) (c_codes : Int32) (c_read : Int32) (c_isOpen : Int32) (c_hash : Int64) (c_signs : Nat → Int32) (c_text : Nat → Int32) (o : Int32 × Int32 × Int32 × Int32 × (Nat → Int32)) (hF : F_X6_firstError c_length c_thrown c_read c_isOpen c_signs c_text = some o) : Met l yX6_firstError (Cond.code yX6_firstError cX6_firstError 1 (some .int) :: WL) rm_X6_firstError (preM D [(cI, .int)] (wd_X6_firstError cI a_t a_z a_history a_text a_left a_other a_smooth a_weights a_signs a_worked c_states c_length c_thrown c_codes c_read c_isOpen c_hash c_signs c_text) sz [.ref a_t]) (postI D o.1 (wd_X6_firstError cI a_t a_z a_history a_text a_left a_other a_smooth a_weights a_signs a_worked c_states c_length o.2.1 c_codes o.2.2.1 o.2.2.2.1 c_hash o.2.2.2.2 c_text) (wd_X6_firstError cI a_t a_z a_history a_text a_left a_other a_smooth a_weights a_signs a_worked c_states c_length c_thrown c_codes c_read c_isOpen c_hash c_signs c_text) sz) 0 0 (va_A (wd_X6_firstError cI a_t a_z a_history a_text a_left a_other a_smooth a_weights a_signs a_worked c_states c_length c_thrown c_codes c_read c_isOpen c_hash c_signs c_text) sz) := by
  refine mofI (by decide +kernel) (Nat.le_of_ble_eq_true rfl) ?_
  intro p e s m args below meth c Q A ls hx hb hml hown hts hK hP hD hS hA hG hl hret hsz0
  have hl : lv_has ls 1 [(0, .ref a_t)] := hl
  unfold F_X6_firstError at hF
  have hP : va_P D vwCl (wd_X6_firstError cI a_t a_z a_history a_text a_left a_other a_smooth a_weights a_signs a_worked c_states c_length c_thrown c_codes c_read c_isOpen c_hash c_signs c_text) s.heap := hP
  obtain ⟨H, hH⟩ : ∃ H, H = s.heap := ⟨_, rfl⟩
  rw [← hH]
  rw [← hH] at hP
  obtain ⟨locs, hlo⟩ : ∃ z : List Loc, z = [] := ⟨_, rfl⟩
  rw [← hlo]
  have hS : va_S A s.heap H locs := by rw [hH, hlo]; exact hS
  refine lv_aload_n hx hb dX6_firstError_0 rfl (lv_at hl 0 rfl) ?_
  refine lv_iconst (v := 0) hx hb dX6_firstError_1 (by decide) ?_
  refine put_X6_37 hx hb hts hown hK hP hD hS 0 rfl rfl rfl (Nat.le_of_ble_eq_true rfl) dX6_firstError_2 (fun H locs hP hD hS => ?_)
  have hP : va_P D vwCl (wd_X6_firstError cI a_t a_z a_history a_text a_left a_other a_smooth a_weights a_signs a_worked c_states c_length (0 : Int32) c_codes c_read c_isOpen c_hash c_signs c_text) H := hP
  have hD : va_D A (wd_X6_firstError cI a_t a_z a_history a_text a_left a_other a_smooth a_weights a_signs a_worked c_states c_length (0 : Int32) c_codes c_read c_isOpen c_hash c_signs c_text) := hD
  refine lv_aload_n hx hb dX6_firstError_5 rfl (lv_at hl 0 rfl) ?_
  obtain ⟨r6, hr6, hF⟩ := opb hF
  refine kVI (As := []) (rest := []) (ws' := (wd_X6_firstError cI a_t a_z a_history a_text a_left a_other a_smooth a_weights a_signs a_worked c_states c_length (0 : Int32) c_codes r6.2.1 r6.2.2.1 c_hash r6.2.2.2 c_text)) ⟨hx, hb, hml, hown, hts⟩ (c_X6_rightUpTo l D cI a_t a_z a_history a_text a_left a_other a_smooth a_weights a_signs a_worked H.size c_states c_length (0 : Int32) c_codes c_read c_isOpen c_hash c_signs c_text  r6 hr6) (cwV 0 hts mw_X6_155 rfl rfl rfl hd_X6_rightUpTo ⟨Nat.le_of_ble_eq_true rfl, Nat.le_of_ble_eq_true rfl⟩) hS hA hG hK hP hD [0, 1, 2] rfl rfl rfl rfl rfl ⟨Nat.zero_le _, Nat.zero_le _⟩ 6 0 rfl rfl rfl rfl hl.1 rfl (Nat.le_of_ble_eq_true rfl) dX6_firstError_6 (fun H locs hP hD hS => ?_)
  have ho := Option.some.inj hF
  exact hret H locs ls 9 r6.1 _ hP hS (by rw [← ho]) (by rw [← ho]) dX6_firstError_9
abbrev wd_X6_read (cI : ClassId) (a_t a_z a_history a_text a_left a_other a_smooth a_weights a_signs a_worked : Nat) (c_states : Int32) (c_length : Int32) (c_thrown : Int32) (c_codes : Int32) (c_read : Int32) (c_isOpen : Int32) (c_hash : Int64) (c_history : Nat → Int32) (c_left : Nat → Int32) (c_other : Nat → Int32) (c_signs : Nat → Int32) (c_text : Nat → Int32) (c_z : Nat → Int32) : va_W := [(a_t, .inr (6, [.ref a_z, .int c_states, .ref a_history, .int c_length, .ref a_text, .int c_thrown, .ref a_left, .ref a_other, .ref a_smooth, .ref a_weights, .int c_codes, .ref a_signs, .int c_read, .int c_isOpen, .ref a_worked, .long c_hash])), (a_history, .inl (cI, 78, .inl c_history)), (a_left, .inl (cI, 6, .inl c_left)), (a_other, .inl (cI, 11, .inl c_other)), (a_signs, .inl (cI, 11, .inl c_signs)), (a_text, .inl (cI, 60, .inl c_text)), (a_z, .inl (cI, 13, .inl c_z))]
def rm_X6_read : Room := { frames := 6, cells := 0, slots := 0, locals := 131 }
set_option maxHeartbeats 4000000 in
set_option maxRecDepth 100000 in
theorem c_X6_read (l : Launch) (D : va_G) (cI : ClassId) (a_t a_z a_history a_text a_left a_other a_smooth a_weights a_signs a_worked : Nat) (sz : Nat) (c_states : Int32) (c_length : Int32) (c_thrown : Int32) (c_codes : Int32) (c_read : Int32) (c_isOpen : Int32) (c_hash : Int64) (c_history : Nat → Int32) (c_left : Nat → Int32) (c_other : Nat → Int32) (c_signs : Nat → Int32) (c_text : Nat → Int32) (c_z : Nat → Int32) (o : Int32 × Int32 × Int32 × Int32 × Int32 × Int32 × (Nat → Int32) × (Nat → Int32) × (Nat → Int32) × (Nat → Int32) × (Nat → Int32)) (hF : F_X6_read c_states c_length c_thrown c_read c_isOpen c_history c_left c_other c_signs c_text c_z = some o) : Met l yX6_read (Cond.code yX6_read cX6_read 2 (some .int) :: WL) rm_X6_read (preM D [(cI, .int)] (wd_X6_read cI a_t a_z a_history a_text a_left a_other a_smooth a_weights a_signs a_worked c_states c_length c_thrown c_codes c_read c_isOpen c_hash c_history c_left c_other c_signs c_text c_z) sz [.ref a_t]) (postI D o.1 (wd_X6_read cI a_t a_z a_history a_text a_left a_other a_smooth a_weights a_signs a_worked o.2.1 o.2.2.1 o.2.2.2.1 c_codes o.2.2.2.2.1 o.2.2.2.2.2.1 c_hash o.2.2.2.2.2.2.1 o.2.2.2.2.2.2.2.1 o.2.2.2.2.2.2.2.2.1 o.2.2.2.2.2.2.2.2.2.1 c_text o.2.2.2.2.2.2.2.2.2.2) (wd_X6_read cI a_t a_z a_history a_text a_left a_other a_smooth a_weights a_signs a_worked c_states c_length c_thrown c_codes c_read c_isOpen c_hash c_history c_left c_other c_signs c_text c_z) sz) 0 0 (va_A (wd_X6_read cI a_t a_z a_history a_text a_left a_other a_smooth a_weights a_signs a_worked c_states c_length c_thrown c_codes c_read c_isOpen c_hash c_history c_left c_other c_signs c_text c_z) sz) := by
  refine mofI (by decide +kernel) (Nat.le_of_ble_eq_true rfl) ?_
  intro p e s m args below meth c Q A ls hx hb hml hown hts hK hP hD hS hA hG hl hret hsz0
  have hl : lv_has ls 2 [(0, .ref a_t)] := hl
  have K57 : ∀ (n57 : Nat) (c_states : Int32) (c_length : Int32) (c_thrown : Int32) (c_read : Int32) (c_isOpen : Int32) (c_history : Nat → Int32) (c_left : Nat → Int32) (c_other : Nat → Int32) (c_signs : Nat → Int32) (c_z : Nat → Int32) (x1 : Int32) (H : Heap) (locs : List Loc) (ls : Array Slot), va_P D vwCl (wd_X6_read cI a_t a_z a_history a_text a_left a_other a_smooth a_weights a_signs a_worked c_states c_length c_thrown c_codes c_read c_isOpen c_hash c_history c_left c_other c_signs c_text c_z) H → va_D A (wd_X6_read cI a_t a_z a_history a_text a_left a_other a_smooth a_weights a_signs a_worked c_states c_length c_thrown c_codes c_read c_isOpen c_hash c_history c_left c_other c_signs c_text c_z) → va_S A s.heap H locs → lv_has ls 2 [(0, .ref a_t), (1, .int x1)] → F_X6_read_L57 c_text n57 c_states c_length c_thrown c_read c_isOpen c_history c_left c_other c_signs c_z x1 = some o → W p l e rm_X6_read s m args below meth c H locs 0 0 Q (F0 m 57 ls []) := by
    intro n57
    induction n57 with
    | zero => intro c_states c_length c_thrown c_read c_isOpen c_history c_left c_other c_signs c_z x1 H locs ls hP hD hS hl hF; exact nos hF
    | succ n57 ih57 =>
      have K88 : ∀ (c_states : Int32) (c_length : Int32) (c_thrown : Int32) (c_read : Int32) (c_isOpen : Int32) (c_history : Nat → Int32) (c_left : Nat → Int32) (c_other : Nat → Int32) (c_signs : Nat → Int32) (c_z : Nat → Int32) (x1 : Int32) (v1 : Int32) (v2 : Int32)  (H : Heap) (locs : List Loc) (ls : Array Slot), va_P D vwCl (wd_X6_read cI a_t a_z a_history a_text a_left a_other a_smooth a_weights a_signs a_worked c_states c_length c_thrown c_codes c_read c_isOpen c_hash c_history c_left c_other c_signs c_text c_z) H → va_D A (wd_X6_read cI a_t a_z a_history a_text a_left a_other a_smooth a_weights a_signs a_worked c_states c_length c_thrown c_codes c_read c_isOpen c_hash c_history c_left c_other c_signs c_text c_z) → va_S A s.heap H locs → lv_has ls 2 [(0, .ref a_t), (1, .int x1)] → F_X6_read_J88 (F_X6_read_L57 c_text n57) c_text c_states c_length c_thrown c_read c_isOpen c_history c_left c_other c_signs c_z x1 v1 v2 = some o → W p l e rm_X6_read s m args below meth c H locs 0 0 Q (F0 m 88 ls [.int v2, .int v1, .ref a_z]) := by
        intro c_states c_length c_thrown c_read c_isOpen c_history c_left c_other c_signs c_z x1 v1 v2 H locs ls hP hD hS hl hF
        unfold F_X6_read_J88 at hF
        obtain ⟨g88, hF⟩ := gdb hF
        refine va_iast hx hb hK hP hD hS 6 0 rfl rfl (vinb g88) dX6_read_88 (fun H locs hP hD hS => ?_)
        have hP : va_P D vwCl (wd_X6_read cI a_t a_z a_history a_text a_left a_other a_smooth a_weights a_signs a_worked c_states c_length c_thrown c_codes c_read c_isOpen c_hash c_history c_left c_other c_signs c_text (upd c_z (v1).toNatClampNeg v2)) H := hP
        have hD : va_D A (wd_X6_read cI a_t a_z a_history a_text a_left a_other a_smooth a_weights a_signs a_worked c_states c_length c_thrown c_codes c_read c_isOpen c_hash c_history c_left c_other c_signs c_text (upd c_z (v1).toNatClampNeg v2)) := hD
        refine lv_iinc (v := x1 + 1) (lv' := [(1, .int (x1 + 1)), (0, .ref a_t)]) hx hb dX6_read_89 hl (k := 1) rfl rfl (by decide) rfl (fun ls hl => ?_)
        refine lv_goto (tgt := 57) hx hb dX6_read_92 (by decide) ?_
        exact ih57 c_states c_length c_thrown c_read c_isOpen c_history c_left c_other c_signs (upd c_z (v1).toNatClampNeg v2) (x1 + 1) H locs ls hP hD hS (lv_sub hl [1, 0] rfl) hF
      intro c_states c_length c_thrown c_read c_isOpen c_history c_left c_other c_signs c_z x1 H locs ls hP hD hS hl hF
      rw [F_X6_read_L57] at hF
      refine lv_iload_n hx hb dX6_read_57 rfl (lv_at hl 1 rfl) ?_
      refine lv_bipush (v := 11) hx hb dX6_read_58 (by decide) ?_
      refine lv_icmp_ge (tgt := 95) hx hb dX6_read_60 (by decide) (fun k60 => ?_) (fun k60 => ?_)
      · replace hF := (if_pos k60).symm.trans hF
        refine lv_aload_n hx hb dX6_read_95 rfl (lv_at hl 0 rfl) ?_
        obtain ⟨r96, hr96, hF⟩ := opb hF
        refine kVI (As := []) (rest := []) (ws' := (wd_X6_read cI a_t a_z a_history a_text a_left a_other a_smooth a_weights a_signs a_worked c_states c_length c_thrown c_codes c_read c_isOpen c_hash c_history r96.2.1 r96.2.2 c_signs c_text c_z)) ⟨hx, hb, hml, hown, hts⟩ (c_X6_rankNow l D cI a_t a_z a_history a_text a_left a_other a_smooth a_weights a_signs a_worked H.size c_states c_length c_thrown c_codes c_read c_isOpen c_hash c_left c_other c_z  r96 hr96) (cwV 0 hts mw_X6_97 rfl rfl rfl hd_X6_rankNow ⟨Nat.le_of_ble_eq_true rfl, Nat.le_of_ble_eq_true rfl⟩) hS hA hG hK hP hD [0, 2, 3, 6] rfl rfl rfl rfl rfl ⟨Nat.zero_le _, Nat.zero_le _⟩ 6 0 rfl rfl rfl rfl hl.1 rfl (Nat.le_of_ble_eq_true rfl) dX6_read_96 (fun H locs hP hD hS => ?_)
        have ho := Option.some.inj hF
        exact hret H locs ls 99 r96.1 _ hP hS (by rw [← ho]) (by rw [← ho]) dX6_read_99
      · replace hF := (if_neg k60).symm.trans hF
        refine lv_aload_n hx hb dX6_read_63 rfl (lv_at hl 0 rfl) ?_
        refine get_X6_7 hx hb hts hown hK hP 0 rfl rfl dX6_read_64 ?_
        refine lv_iconst (v := 2) hx hb dX6_read_67 (by decide) ?_
        refine lv_iload_n hx hb dX6_read_68 rfl (lv_at hl 1 rfl) ?_
        refine lv_iadd hx hb dX6_read_69 ?_
        refine lv_iload_n hx hb dX6_read_70 rfl (lv_at hl 1 rfl) ?_
        refine lv_aload_n hx hb dX6_read_71 rfl (lv_at hl 0 rfl) ?_
        refine get_X6_145 hx hb hts hown hK hP 0 rfl rfl dX6_read_72 ?_
        refine lv_icmp_ge (tgt := 87) hx hb dX6_read_75 (by decide) (fun k75 => ?_) (fun k75 => ?_)
        · replace hF := (if_pos k75).symm.trans hF
          refine lv_iconst (v := 0) hx hb dX6_read_87 (by decide) ?_
          exact K88 c_states c_length c_thrown c_read c_isOpen c_history c_left c_other c_signs c_z x1 ((2 : Int32) + x1) (0 : Int32) H locs ls hP hD hS (lv_sub hl [0, 1] rfl) hF
        · replace hF := (if_neg k75).symm.trans hF
          refine lv_aload_n hx hb dX6_read_78 rfl (lv_at hl 0 rfl) ?_
          refine get_X6_31 hx hb hts hown hK hP 0 rfl rfl dX6_read_79 ?_
          refine lv_iload_n hx hb dX6_read_82 rfl (lv_at hl 1 rfl) ?_
          obtain ⟨g83, hF⟩ := gdb hF
          refine va_iald hx hb hK hP 4 0 rfl rfl (vinb g83) dX6_read_83 ?_
          refine lv_goto (tgt := 88) hx hb dX6_read_84 (by decide) ?_
          exact K88 c_states c_length c_thrown c_read c_isOpen c_history c_left c_other c_signs c_z x1 ((2 : Int32) + x1) (c_signs (x1).toNatClampNeg) H locs ls hP hD hS (lv_sub hl [0, 1] rfl) hF
  have K24 : ∀ (c_states : Int32) (c_length : Int32) (c_thrown : Int32) (c_read : Int32) (c_isOpen : Int32) (c_history : Nat → Int32) (c_left : Nat → Int32) (c_other : Nat → Int32) (c_signs : Nat → Int32) (c_z : Nat → Int32) (v1 : Int32)  (H : Heap) (locs : List Loc) (ls : Array Slot), va_P D vwCl (wd_X6_read cI a_t a_z a_history a_text a_left a_other a_smooth a_weights a_signs a_worked c_states c_length c_thrown c_codes c_read c_isOpen c_hash c_history c_left c_other c_signs c_text c_z) H → va_D A (wd_X6_read cI a_t a_z a_history a_text a_left a_other a_smooth a_weights a_signs a_worked c_states c_length c_thrown c_codes c_read c_isOpen c_hash c_history c_left c_other c_signs c_text c_z) → va_S A s.heap H locs → lv_has ls 2 [(0, .ref a_t)] → F_X6_read_J24 c_text c_states c_length c_thrown c_read c_isOpen c_history c_left c_other c_signs c_z v1 = some o → W p l e rm_X6_read s m args below meth c H locs 0 0 Q (F0 m 24 ls [.int v1, .ref a_t]) := by
    intro c_states c_length c_thrown c_read c_isOpen c_history c_left c_other c_signs c_z v1 H locs ls hP hD hS hl hF
    unfold F_X6_read_J24 at hF
    refine put_X6_37 hx hb hts hown hK hP hD hS 0 rfl rfl rfl (Nat.le_of_ble_eq_true rfl) dX6_read_24 (fun H locs hP hD hS => ?_)
    have hP : va_P D vwCl (wd_X6_read cI a_t a_z a_history a_text a_left a_other a_smooth a_weights a_signs a_worked c_states c_length v1 c_codes c_read c_isOpen c_hash c_history c_left c_other c_signs c_text c_z) H := hP
    have hD : va_D A (wd_X6_read cI a_t a_z a_history a_text a_left a_other a_smooth a_weights a_signs a_worked c_states c_length v1 c_codes c_read c_isOpen c_hash c_history c_left c_other c_signs c_text c_z) := hD
    refine lv_aload_n hx hb dX6_read_27 rfl (lv_at hl 0 rfl) ?_
    refine get_X6_37 hx hb hts hown hK hP 0 rfl rfl dX6_read_28 ?_
    refine lv_if_le (tgt := 36) hx hb dX6_read_31 (by decide) (fun k31 => ?_) (fun k31 => ?_)
    · replace hF := (if_pos k31).symm.trans hF
      refine lv_aload_n hx hb dX6_read_36 rfl (lv_at hl 0 rfl) ?_
      obtain ⟨r37, hr37, hF⟩ := opb hF
      refine kVV (As := []) (rest := []) (ws' := (wd_X6_read cI a_t a_z a_history a_text a_left a_other a_smooth a_weights a_signs a_worked r37.1 c_length v1 c_codes c_read c_isOpen c_hash r37.2 c_left c_other c_signs c_text c_z)) ⟨hx, hb, hml, hown, hts⟩ (c_X6_save l D cI a_t a_z a_history a_text a_left a_other a_smooth a_weights a_signs a_worked H.size c_states c_length v1 c_codes c_read c_isOpen c_hash c_history c_z  r37 hr37) (cwV 0 hts mw_X6_100 rfl rfl rfl hd_X6_save ⟨Nat.le_of_ble_eq_true rfl, Nat.le_of_ble_eq_true rfl⟩) hS hA hG hK hP hD [0, 1, 6] rfl rfl rfl rfl rfl ⟨Nat.zero_le _, Nat.zero_le _⟩ 6 0 rfl rfl rfl rfl hl.1 rfl (Nat.le_of_ble_eq_true rfl) dX6_read_37 (fun H locs hP hD hS => ?_)
      refine lv_aload_n hx hb dX6_read_40 rfl (lv_at hl 0 rfl) ?_
      refine lv_iconst (v := 0) hx hb dX6_read_41 (by decide) ?_
      refine put_X6_142 hx hb hts hown hK hP hD hS 0 rfl rfl rfl (Nat.le_of_ble_eq_true rfl) dX6_read_42 (fun H locs hP hD hS => ?_)
      have hP : va_P D vwCl (wd_X6_read cI a_t a_z a_history a_text a_left a_other a_smooth a_weights a_signs a_worked r37.1 (0 : Int32) v1 c_codes c_read c_isOpen c_hash r37.2 c_left c_other c_signs c_text c_z) H := hP
      have hD : va_D A (wd_X6_read cI a_t a_z a_history a_text a_left a_other a_smooth a_weights a_signs a_worked r37.1 (0 : Int32) v1 c_codes c_read c_isOpen c_hash r37.2 c_left c_other c_signs c_text c_z) := hD
      refine lv_aload_n hx hb dX6_read_45 rfl (lv_at hl 0 rfl) ?_
      refine get_X6_7 hx hb hts hown hK hP 0 rfl rfl dX6_read_46 ?_
      refine lv_iconst (v := 0) hx hb dX6_read_49 (by decide) ?_
      refine lv_aload_n hx hb dX6_read_50 rfl (lv_at hl 0 rfl) ?_
      refine get_X6_145 hx hb hts hown hK hP 0 rfl rfl dX6_read_51 ?_
      obtain ⟨g54, hF⟩ := gdb hF
      refine va_iast hx hb hK hP hD hS 6 0 rfl rfl (vinb g54) dX6_read_54 (fun H locs hP hD hS => ?_)
      have hP : va_P D vwCl (wd_X6_read cI a_t a_z a_history a_text a_left a_other a_smooth a_weights a_signs a_worked r37.1 (0 : Int32) v1 c_codes c_read c_isOpen c_hash r37.2 c_left c_other c_signs c_text (upd c_z ((0 : Int32)).toNatClampNeg c_read)) H := hP
      have hD : va_D A (wd_X6_read cI a_t a_z a_history a_text a_left a_other a_smooth a_weights a_signs a_worked r37.1 (0 : Int32) v1 c_codes c_read c_isOpen c_hash r37.2 c_left c_other c_signs c_text (upd c_z ((0 : Int32)).toNatClampNeg c_read)) := hD
      refine lv_iconst (v := 0) hx hb dX6_read_55 (by decide) ?_
      refine lv_istore_n (lv' := [(1, .int (0 : Int32)), (0, .ref a_t)]) hx hb dX6_read_56 rfl hl (by decide) rfl (fun ls hl => ?_)
      exact K57 FU r37.1 (0 : Int32) v1 c_read c_isOpen r37.2 c_left c_other c_signs (upd c_z ((0 : Int32)).toNatClampNeg c_read) (0 : Int32) H locs ls hP hD hS (lv_sub hl [1, 0] rfl) hF
    · replace hF := (if_neg k31).symm.trans hF
      refine lv_iconst (v := 0) hx hb dX6_read_34 (by decide) ?_
      have ho := Option.some.inj hF
      exact hret H locs ls 35 (0 : Int32) _ hP hS (by rw [← ho]) (by rw [← ho]) dX6_read_35
  unfold F_X6_read at hF
  have hP : va_P D vwCl (wd_X6_read cI a_t a_z a_history a_text a_left a_other a_smooth a_weights a_signs a_worked c_states c_length c_thrown c_codes c_read c_isOpen c_hash c_history c_left c_other c_signs c_text c_z) s.heap := hP
  obtain ⟨H, hH⟩ : ∃ H, H = s.heap := ⟨_, rfl⟩
  rw [← hH]
  rw [← hH] at hP
  obtain ⟨locs, hlo⟩ : ∃ z : List Loc, z = [] := ⟨_, rfl⟩
  rw [← hlo]
  have hS : va_S A s.heap H locs := by rw [hH, hlo]; exact hS
  refine lv_aload_n hx hb dX6_read_0 rfl (lv_at hl 0 rfl) ?_
  refine lv_aload_n hx hb dX6_read_1 rfl (lv_at hl 0 rfl) ?_
  obtain ⟨r2, hr2, hF⟩ := opb hF
  refine kVI (As := []) (rest := [.ref a_t]) (ws' := (wd_X6_read cI a_t a_z a_history a_text a_left a_other a_smooth a_weights a_signs a_worked c_states c_length c_thrown c_codes r2.2.1 r2.2.2.1 c_hash c_history c_left c_other r2.2.2.2 c_text c_z)) ⟨hx, hb, hml, hown, hts⟩ (c_X6_rightUpTo l D cI a_t a_z a_history a_text a_left a_other a_smooth a_weights a_signs a_worked H.size c_states c_length c_thrown c_codes c_read c_isOpen c_hash c_signs c_text  r2 hr2) (cwV 0 hts mw_X6_155 rfl rfl rfl hd_X6_rightUpTo ⟨Nat.le_of_ble_eq_true rfl, Nat.le_of_ble_eq_true rfl⟩) hS hA hG hK hP hD [0, 4, 5] rfl rfl rfl rfl rfl ⟨Nat.zero_le _, Nat.zero_le _⟩ 6 0 rfl rfl rfl rfl hl.1 rfl (Nat.le_of_ble_eq_true rfl) dX6_read_2 (fun H locs hP hD hS => ?_)
  refine lv_aload_n hx hb dX6_read_5 rfl (lv_at hl 0 rfl) ?_
  refine get_X6_142 hx hb hts hown hK hP 0 rfl rfl dX6_read_6 ?_
  refine lv_icmp_ne (tgt := 23) hx hb dX6_read_9 (by decide) (fun k9 => ?_) (fun k9 => ?_)
  · (try simp only [if_neg k9] at hF)
    refine lv_iconst (v := 1) hx hb dX6_read_23 (by decide) ?_
    exact K24 c_states c_length c_thrown r2.2.1 r2.2.2.1 c_history c_left c_other r2.2.2.2 c_z (1 : Int32) H locs ls hP hD hS (lv_sub hl [0] rfl) hF
  · (try simp only [if_pos k9] at hF)
    refine lv_aload_n hx hb dX6_read_12 rfl (lv_at hl 0 rfl) ?_
    refine get_X6_142 hx hb hts hown hK hP 0 rfl rfl dX6_read_13 ?_
    refine lv_if_le (tgt := 23) hx hb dX6_read_16 (by decide) (fun k16 => ?_) (fun k16 => ?_)
    · (try simp only [if_pos k16] at hF)
      refine lv_iconst (v := 1) hx hb dX6_read_23 (by decide) ?_
      exact K24 c_states c_length c_thrown r2.2.1 r2.2.2.1 c_history c_left c_other r2.2.2.2 c_z (1 : Int32) H locs ls hP hD hS (lv_sub hl [0] rfl) hF
    · (try simp only [if_neg k16] at hF)
      refine lv_iconst (v := 0) hx hb dX6_read_19 (by decide) ?_
      refine lv_goto (tgt := 24) hx hb dX6_read_20 (by decide) ?_
      exact K24 c_states c_length c_thrown r2.2.1 r2.2.2.1 c_history c_left c_other r2.2.2.2 c_z (0 : Int32) H locs ls hP hD hS (lv_sub hl [0] rfl) hF
abbrev wd_X6_undo (cI : ClassId) (a_t a_z a_history a_text a_left a_other a_smooth a_weights a_signs a_worked : Nat) (c_states : Int32) (c_length : Int32) (c_thrown : Int32) (c_codes : Int32) (c_read : Int32) (c_isOpen : Int32) (c_hash : Int64) (c_history : Nat → Int32) (c_z : Nat → Int32) : va_W := [(a_t, .inr (6, [.ref a_z, .int c_states, .ref a_history, .int c_length, .ref a_text, .int c_thrown, .ref a_left, .ref a_other, .ref a_smooth, .ref a_weights, .int c_codes, .ref a_signs, .int c_read, .int c_isOpen, .ref a_worked, .long c_hash])), (a_history, .inl (cI, 78, .inl c_history)), (a_z, .inl (cI, 13, .inl c_z))]
def rm_X6_undo : Room := { frames := 0, cells := 0, slots := 0, locals := 0 }
set_option maxHeartbeats 4000000 in
set_option maxRecDepth 100000 in
theorem c_X6_undo (l : Launch) (D : va_G) (cI : ClassId) (a_t a_z a_history a_text a_left a_other a_smooth a_weights a_signs a_worked : Nat) (sz : Nat) (c_states : Int32) (c_length : Int32) (c_thrown : Int32) (c_codes : Int32) (c_read : Int32) (c_isOpen : Int32) (c_hash : Int64) (c_history : Nat → Int32) (c_z : Nat → Int32) (o : Int32 × Int32 × Int32 × (Nat → Int32)) (hF : F_X6_undo c_states c_thrown c_history c_z = some o) : Met l yX6_undo (Cond.code yX6_undo cX6_undo 2 (some .int) :: WL) rm_X6_undo (preM D [(cI, .int)] (wd_X6_undo cI a_t a_z a_history a_text a_left a_other a_smooth a_weights a_signs a_worked c_states c_length c_thrown c_codes c_read c_isOpen c_hash c_history c_z) sz [.ref a_t]) (postI D o.1 (wd_X6_undo cI a_t a_z a_history a_text a_left a_other a_smooth a_weights a_signs a_worked o.2.1 c_length o.2.2.1 c_codes c_read c_isOpen c_hash c_history o.2.2.2) (wd_X6_undo cI a_t a_z a_history a_text a_left a_other a_smooth a_weights a_signs a_worked c_states c_length c_thrown c_codes c_read c_isOpen c_hash c_history c_z) sz) 0 0 (va_A (wd_X6_undo cI a_t a_z a_history a_text a_left a_other a_smooth a_weights a_signs a_worked c_states c_length c_thrown c_codes c_read c_isOpen c_hash c_history c_z) sz) := by
  refine mofI (by decide +kernel) (Nat.le_of_ble_eq_true rfl) ?_
  intro p e s m args below meth c Q A ls hx hb hml hown hts hK hP hD hS hA hG hl hret hsz0
  have hl : lv_has ls 2 [(0, .ref a_t)] := hl
  have K37 : ∀ (n37 : Nat) (c_states : Int32) (c_thrown : Int32) (c_z : Nat → Int32) (x1 : Int32) (H : Heap) (locs : List Loc) (ls : Array Slot), va_P D vwCl (wd_X6_undo cI a_t a_z a_history a_text a_left a_other a_smooth a_weights a_signs a_worked c_states c_length c_thrown c_codes c_read c_isOpen c_hash c_history c_z) H → va_D A (wd_X6_undo cI a_t a_z a_history a_text a_left a_other a_smooth a_weights a_signs a_worked c_states c_length c_thrown c_codes c_read c_isOpen c_hash c_history c_z) → va_S A s.heap H locs → lv_has ls 2 [(0, .ref a_t), (1, .int x1)] → F_X6_undo_L37 c_history n37 c_states c_thrown c_z x1 = some o → W p l e rm_X6_undo s m args below meth c H locs 0 0 Q (F0 m 37 ls []) := by
    intro n37
    induction n37 with
    | zero => intro c_states c_thrown c_z x1 H locs ls hP hD hS hl hF; exact nos hF
    | succ n37 ih37 =>
      intro c_states c_thrown c_z x1 H locs ls hP hD hS hl hF
      rw [F_X6_undo_L37] at hF
      refine lv_iload_n hx hb dX6_undo_37 rfl (lv_at hl 1 rfl) ?_
      refine lv_bipush (v := 13) hx hb dX6_undo_38 (by decide) ?_
      refine lv_icmp_ge (tgt := 69) hx hb dX6_undo_40 (by decide) (fun k40 => ?_) (fun k40 => ?_)
      · replace hF := (if_pos k40).symm.trans hF
        refine lv_aload_n hx hb dX6_undo_69 rfl (lv_at hl 0 rfl) ?_
        refine get_X6_41 hx hb hts hown hK hP 0 rfl rfl dX6_undo_70 ?_
        have ho := Option.some.inj hF
        exact hret H locs ls 73 c_states _ hP hS (by rw [← ho]) (by rw [← ho]) dX6_undo_73
      · replace hF := (if_neg k40).symm.trans hF
        refine lv_aload_n hx hb dX6_undo_43 rfl (lv_at hl 0 rfl) ?_
        refine get_X6_7 hx hb hts hown hK hP 0 rfl rfl dX6_undo_44 ?_
        refine lv_iload_n hx hb dX6_undo_47 rfl (lv_at hl 1 rfl) ?_
        refine lv_aload_n hx hb dX6_undo_48 rfl (lv_at hl 0 rfl) ?_
        refine get_X6_13 hx hb hts hown hK hP 0 rfl rfl dX6_undo_49 ?_
        refine lv_bipush (v := 13) hx hb dX6_undo_52 (by decide) ?_
        refine lv_aload_n hx hb dX6_undo_54 rfl (lv_at hl 0 rfl) ?_
        refine get_X6_41 hx hb hts hown hK hP 0 rfl rfl dX6_undo_55 ?_
        refine lv_imul hx hb dX6_undo_58 ?_
        refine lv_iload_n hx hb dX6_undo_59 rfl (lv_at hl 1 rfl) ?_
        refine lv_iadd hx hb dX6_undo_60 ?_
        obtain ⟨g61, hF⟩ := gdb hF
        refine va_iald hx hb hK hP 1 0 rfl rfl (vinb g61) dX6_undo_61 ?_
        obtain ⟨g62, hF⟩ := gdb hF
        refine va_iast hx hb hK hP hD hS 2 0 rfl rfl (vinb g62) dX6_undo_62 (fun H locs hP hD hS => ?_)
        have hP : va_P D vwCl (wd_X6_undo cI a_t a_z a_history a_text a_left a_other a_smooth a_weights a_signs a_worked c_states c_length c_thrown c_codes c_read c_isOpen c_hash c_history (upd c_z (x1).toNatClampNeg (c_history (((13 : Int32) * c_states) + x1).toNatClampNeg))) H := hP
        have hD : va_D A (wd_X6_undo cI a_t a_z a_history a_text a_left a_other a_smooth a_weights a_signs a_worked c_states c_length c_thrown c_codes c_read c_isOpen c_hash c_history (upd c_z (x1).toNatClampNeg (c_history (((13 : Int32) * c_states) + x1).toNatClampNeg))) := hD
        refine lv_iinc (v := x1 + 1) (lv' := [(1, .int (x1 + 1)), (0, .ref a_t)]) hx hb dX6_undo_63 hl (k := 1) rfl rfl (by decide) rfl (fun ls hl => ?_)
        refine lv_goto (tgt := 37) hx hb dX6_undo_66 (by decide) ?_
        exact ih37 c_states c_thrown (upd c_z (x1).toNatClampNeg (c_history (((13 : Int32) * c_states) + x1).toNatClampNeg)) (x1 + 1) H locs ls hP hD hS (lv_sub hl [1, 0] rfl) hF
  have K13 : ∀ (c_states : Int32) (c_thrown : Int32) (c_z : Nat → Int32) (v1 : Int32)  (H : Heap) (locs : List Loc) (ls : Array Slot), va_P D vwCl (wd_X6_undo cI a_t a_z a_history a_text a_left a_other a_smooth a_weights a_signs a_worked c_states c_length c_thrown c_codes c_read c_isOpen c_hash c_history c_z) H → va_D A (wd_X6_undo cI a_t a_z a_history a_text a_left a_other a_smooth a_weights a_signs a_worked c_states c_length c_thrown c_codes c_read c_isOpen c_hash c_history c_z) → va_S A s.heap H locs → lv_has ls 2 [(0, .ref a_t)] → F_X6_undo_J13 c_history c_states c_thrown c_z v1 = some o → W p l e rm_X6_undo s m args below meth c H locs 0 0 Q (F0 m 13 ls [.int v1, .ref a_t]) := by
    intro c_states c_thrown c_z v1 H locs ls hP hD hS hl hF
    unfold F_X6_undo_J13 at hF
    refine put_X6_37 hx hb hts hown hK hP hD hS 0 rfl rfl rfl (Nat.le_of_ble_eq_true rfl) dX6_undo_13 (fun H locs hP hD hS => ?_)
    have hP : va_P D vwCl (wd_X6_undo cI a_t a_z a_history a_text a_left a_other a_smooth a_weights a_signs a_worked c_states c_length v1 c_codes c_read c_isOpen c_hash c_history c_z) H := hP
    have hD : va_D A (wd_X6_undo cI a_t a_z a_history a_text a_left a_other a_smooth a_weights a_signs a_worked c_states c_length v1 c_codes c_read c_isOpen c_hash c_history c_z) := hD
    refine lv_aload_n hx hb dX6_undo_16 rfl (lv_at hl 0 rfl) ?_
    refine get_X6_37 hx hb hts hown hK hP 0 rfl rfl dX6_undo_17 ?_
    refine lv_if_le (tgt := 25) hx hb dX6_undo_20 (by decide) (fun k20 => ?_) (fun k20 => ?_)
    · replace hF := (if_pos k20).symm.trans hF
      refine lv_aload_n hx hb dX6_undo_25 rfl (lv_at hl 0 rfl) ?_
      refine lv_dup hx hb dX6_undo_26 rfl ?_
      refine get_X6_41 hx hb hts hown hK hP 0 rfl rfl dX6_undo_27 ?_
      refine lv_iconst (v := 1) hx hb dX6_undo_30 (by decide) ?_
      refine lv_isub hx hb dX6_undo_31 ?_
      refine put_X6_41 hx hb hts hown hK hP hD hS 0 rfl rfl rfl (Nat.le_of_ble_eq_true rfl) dX6_undo_32 (fun H locs hP hD hS => ?_)
      have hP : va_P D vwCl (wd_X6_undo cI a_t a_z a_history a_text a_left a_other a_smooth a_weights a_signs a_worked (c_states - (1 : Int32)) c_length v1 c_codes c_read c_isOpen c_hash c_history c_z) H := hP
      have hD : va_D A (wd_X6_undo cI a_t a_z a_history a_text a_left a_other a_smooth a_weights a_signs a_worked (c_states - (1 : Int32)) c_length v1 c_codes c_read c_isOpen c_hash c_history c_z) := hD
      refine lv_iconst (v := 0) hx hb dX6_undo_35 (by decide) ?_
      refine lv_istore_n (lv' := [(1, .int (0 : Int32)), (0, .ref a_t)]) hx hb dX6_undo_36 rfl hl (by decide) rfl (fun ls hl => ?_)
      exact K37 FU (c_states - (1 : Int32)) v1 c_z (0 : Int32) H locs ls hP hD hS (lv_sub hl [1, 0] rfl) hF
    · replace hF := (if_neg k20).symm.trans hF
      refine lv_iconst (v := 0) hx hb dX6_undo_23 (by decide) ?_
      have ho := Option.some.inj hF
      exact hret H locs ls 24 (0 : Int32) _ hP hS (by rw [← ho]) (by rw [← ho]) dX6_undo_24
  unfold F_X6_undo at hF
  have hP : va_P D vwCl (wd_X6_undo cI a_t a_z a_history a_text a_left a_other a_smooth a_weights a_signs a_worked c_states c_length c_thrown c_codes c_read c_isOpen c_hash c_history c_z) s.heap := hP
  obtain ⟨H, hH⟩ : ∃ H, H = s.heap := ⟨_, rfl⟩
  rw [← hH]
  rw [← hH] at hP
  obtain ⟨locs, hlo⟩ : ∃ z : List Loc, z = [] := ⟨_, rfl⟩
  rw [← hlo]
  have hS : va_S A s.heap H locs := by rw [hH, hlo]; exact hS
  refine lv_aload_n hx hb dX6_undo_0 rfl (lv_at hl 0 rfl) ?_
  refine lv_aload_n hx hb dX6_undo_1 rfl (lv_at hl 0 rfl) ?_
  refine get_X6_41 hx hb hts hown hK hP 0 rfl rfl dX6_undo_2 ?_
  refine lv_if_le (tgt := 12) hx hb dX6_undo_5 (by decide) (fun k5 => ?_) (fun k5 => ?_)
  · (try simp only [if_pos k5] at hF)
    refine lv_iconst (v := 1) hx hb dX6_undo_12 (by decide) ?_
    exact K13 c_states c_thrown c_z (1 : Int32) H locs ls hP hD hS (lv_sub hl [0] rfl) hF
  · (try simp only [if_neg k5] at hF)
    refine lv_iconst (v := 0) hx hb dX6_undo_8 (by decide) ?_
    refine lv_goto (tgt := 13) hx hb dX6_undo_9 (by decide) ?_
    exact K13 c_states c_thrown c_z (0 : Int32) H locs ls hP hD hS (lv_sub hl [0] rfl) hF
abbrev wd_X6_sign (cI : ClassId) (a_t a_z a_history a_text a_left a_other a_smooth a_weights a_signs a_worked : Nat) (c_states : Int32) (c_length : Int32) (c_thrown : Int32) (c_codes : Int32) (c_read : Int32) (c_isOpen : Int32) (c_hash : Int64) (c_z : Nat → Int32) : va_W := [(a_t, .inr (6, [.ref a_z, .int c_states, .ref a_history, .int c_length, .ref a_text, .int c_thrown, .ref a_left, .ref a_other, .ref a_smooth, .ref a_weights, .int c_codes, .ref a_signs, .int c_read, .int c_isOpen, .ref a_worked, .long c_hash])), (a_z, .inl (cI, 13, .inl c_z))]
def rm_X6_sign : Room := { frames := 2, cells := 0, slots := 0, locals := 43 }
set_option maxHeartbeats 4000000 in
set_option maxRecDepth 100000 in
theorem c_X6_sign (l : Launch) (D : va_G) (cI : ClassId) (a_t a_z a_history a_text a_left a_other a_smooth a_weights a_signs a_worked : Nat) (sz : Nat) (c_states : Int32) (c_length : Int32) (c_thrown : Int32) (c_codes : Int32) (c_read : Int32) (c_isOpen : Int32) (c_hash : Int64) (c_z : Nat → Int32) (x1 : Int32) (o : Int32 × Int32) (hF : F_X6_sign c_thrown c_z x1 = some o) : Met l yX6_sign (Cond.code yX6_sign cX6_sign 2 (some .int) :: WL) rm_X6_sign (preM D [(cI, .int)] (wd_X6_sign cI a_t a_z a_history a_text a_left a_other a_smooth a_weights a_signs a_worked c_states c_length c_thrown c_codes c_read c_isOpen c_hash c_z) sz [.ref a_t, .int x1]) (postI D o.1 (wd_X6_sign cI a_t a_z a_history a_text a_left a_other a_smooth a_weights a_signs a_worked c_states c_length o.2 c_codes c_read c_isOpen c_hash c_z) (wd_X6_sign cI a_t a_z a_history a_text a_left a_other a_smooth a_weights a_signs a_worked c_states c_length c_thrown c_codes c_read c_isOpen c_hash c_z) sz) 0 0 (va_A (wd_X6_sign cI a_t a_z a_history a_text a_left a_other a_smooth a_weights a_signs a_worked c_states c_length c_thrown c_codes c_read c_isOpen c_hash c_z) sz) := by
  refine mofI (by decide +kernel) (Nat.le_of_ble_eq_true rfl) ?_
  intro p e s m args below meth c Q A ls hx hb hml hown hts hK hP hD hS hA hG hl hret hsz0
  have hl : lv_has ls 2 [(0, .ref a_t), (1, .int x1)] := hl
  have K14 : ∀ (c_thrown : Int32) (v1 : Int32)  (H : Heap) (locs : List Loc) (ls : Array Slot), va_P D vwCl (wd_X6_sign cI a_t a_z a_history a_text a_left a_other a_smooth a_weights a_signs a_worked c_states c_length c_thrown c_codes c_read c_isOpen c_hash c_z) H → va_D A (wd_X6_sign cI a_t a_z a_history a_text a_left a_other a_smooth a_weights a_signs a_worked c_states c_length c_thrown c_codes c_read c_isOpen c_hash c_z) → va_S A s.heap H locs → lv_has ls 2 [(0, .ref a_t), (1, .int x1)] → F_X6_sign_J14 c_z x1 c_thrown v1 = some o → W p l e rm_X6_sign s m args below meth c H locs 0 0 Q (F0 m 14 ls [.int v1, .ref a_t]) := by
    intro c_thrown v1 H locs ls hP hD hS hl hF
    unfold F_X6_sign_J14 at hF
    refine put_X6_37 hx hb hts hown hK hP hD hS 0 rfl rfl rfl (Nat.le_of_ble_eq_true rfl) dX6_sign_14 (fun H locs hP hD hS => ?_)
    have hP : va_P D vwCl (wd_X6_sign cI a_t a_z a_history a_text a_left a_other a_smooth a_weights a_signs a_worked c_states c_length v1 c_codes c_read c_isOpen c_hash c_z) H := hP
    have hD : va_D A (wd_X6_sign cI a_t a_z a_history a_text a_left a_other a_smooth a_weights a_signs a_worked c_states c_length v1 c_codes c_read c_isOpen c_hash c_z) := hD
    refine lv_aload_n hx hb dX6_sign_17 rfl (lv_at hl 0 rfl) ?_
    refine get_X6_37 hx hb hts hown hK hP 0 rfl rfl dX6_sign_18 ?_
    refine lv_if_le (tgt := 28) hx hb dX6_sign_21 (by decide) (fun k21 => ?_) (fun k21 => ?_)
    · replace hF := (if_pos k21).symm.trans hF
      refine lv_aload_n hx hb dX6_sign_28 rfl (lv_at hl 0 rfl) ?_
      refine get_X6_7 hx hb hts hown hK hP 0 rfl rfl dX6_sign_29 ?_
      refine lv_iconst (v := 2) hx hb dX6_sign_32 (by decide) ?_
      refine lv_iload_n hx hb dX6_sign_33 rfl (lv_at hl 1 rfl) ?_
      refine lv_iadd hx hb dX6_sign_34 ?_
      obtain ⟨g35, hF⟩ := gdb hF
      refine va_iald hx hb hK hP 1 0 rfl rfl (vinb g35) dX6_sign_35 ?_
      have ho := Option.some.inj hF
      exact hret H locs ls 36 (c_z ((2 : Int32) + x1).toNatClampNeg) _ hP hS (by rw [← ho]) (by rw [← ho]) dX6_sign_36
    · replace hF := (if_neg k21).symm.trans hF
      refine lv_iconst (v := 0) hx hb dX6_sign_24 (by decide) ?_
      refine lv_goto (tgt := 36) hx hb dX6_sign_25 (by decide) ?_
      have ho := Option.some.inj hF
      exact hret H locs ls 36 (0 : Int32) _ hP hS (by rw [← ho]) (by rw [← ho]) dX6_sign_36
  unfold F_X6_sign at hF
  have hP : va_P D vwCl (wd_X6_sign cI a_t a_z a_history a_text a_left a_other a_smooth a_weights a_signs a_worked c_states c_length c_thrown c_codes c_read c_isOpen c_hash c_z) s.heap := hP
  obtain ⟨H, hH⟩ : ∃ H, H = s.heap := ⟨_, rfl⟩
  rw [← hH]
  rw [← hH] at hP
  obtain ⟨locs, hlo⟩ : ∃ z : List Loc, z = [] := ⟨_, rfl⟩
  rw [← hlo]
  have hS : va_S A s.heap H locs := by rw [hH, hlo]; exact hS
  refine lv_aload_n hx hb dX6_sign_0 rfl (lv_at hl 0 rfl) ?_
  refine lv_aload_n hx hb dX6_sign_1 rfl (lv_at hl 0 rfl) ?_
  refine lv_iload_n hx hb dX6_sign_2 rfl (lv_at hl 1 rfl) ?_
  obtain ⟨r3, hr3, hF⟩ := opb hF
  refine kVI (As := [.int x1]) (rest := [.ref a_t]) (ws' := (wd_X6_sign cI a_t a_z a_history a_text a_left a_other a_smooth a_weights a_signs a_worked c_states c_length c_thrown c_codes c_read c_isOpen c_hash c_z)) ⟨hx, hb, hml, hown, hts⟩ (c_X6_isPlace l D cI a_t a_z a_history a_text a_left a_other a_smooth a_weights a_signs a_worked H.size c_states c_length c_thrown c_codes c_read c_isOpen c_hash c_z x1 r3 hr3) (cwV 1 hts mw_X6_126 rfl rfl rfl hd_X6_isPlace ⟨Nat.le_of_ble_eq_true rfl, Nat.le_of_ble_eq_true rfl⟩) hS hA hG hK hP hD [0, 1] rfl rfl rfl rfl rfl ⟨Nat.zero_le _, Nat.zero_le _⟩ 6 0 rfl rfl rfl rfl hl.1 rfl (Nat.le_of_ble_eq_true rfl) dX6_sign_3 (fun H locs hP hD hS => ?_)
  refine lv_if_eq (tgt := 13) hx hb dX6_sign_6 (by decide) (fun k6 => ?_) (fun k6 => ?_)
  · (try simp only [if_pos k6] at hF)
    refine lv_iconst (v := 1) hx hb dX6_sign_13 (by decide) ?_
    exact K14 c_thrown (1 : Int32) H locs ls hP hD hS (lv_sub hl [0, 1] rfl) hF
  · (try simp only [if_neg k6] at hF)
    refine lv_iconst (v := 0) hx hb dX6_sign_9 (by decide) ?_
    refine lv_goto (tgt := 14) hx hb dX6_sign_10 (by decide) ?_
    exact K14 c_thrown (0 : Int32) H locs ls hP hD hS (lv_sub hl [0, 1] rfl) hF
abbrev wd_X6_digitAt (cI : ClassId) (a_t a_z a_history a_text a_left a_other a_smooth a_weights a_signs a_worked : Nat) (c_states : Int32) (c_length : Int32) (c_thrown : Int32) (c_codes : Int32) (c_read : Int32) (c_isOpen : Int32) (c_hash : Int64) (c_z : Nat → Int32) : va_W := [(a_t, .inr (6, [.ref a_z, .int c_states, .ref a_history, .int c_length, .ref a_text, .int c_thrown, .ref a_left, .ref a_other, .ref a_smooth, .ref a_weights, .int c_codes, .ref a_signs, .int c_read, .int c_isOpen, .ref a_worked, .long c_hash])), (a_z, .inl (cI, 13, .inl c_z))]
def rm_X6_digitAt : Room := { frames := 0, cells := 0, slots := 0, locals := 0 }
set_option maxHeartbeats 4000000 in
set_option maxRecDepth 100000 in
theorem c_X6_digitAt (l : Launch) (D : va_G) (cI : ClassId) (a_t a_z a_history a_text a_left a_other a_smooth a_weights a_signs a_worked : Nat) (sz : Nat) (c_states : Int32) (c_length : Int32) (c_thrown : Int32) (c_codes : Int32) (c_read : Int32) (c_isOpen : Int32) (c_hash : Int64) (c_z : Nat → Int32) (x1 : Int32) (o : Int32) (hF : F_X6_digitAt c_z x1 = some o) : Met l yX6_digitAt (Cond.code yX6_digitAt cX6_digitAt 6 (some .int) :: WL) rm_X6_digitAt (preM D [(cI, .int)] (wd_X6_digitAt cI a_t a_z a_history a_text a_left a_other a_smooth a_weights a_signs a_worked c_states c_length c_thrown c_codes c_read c_isOpen c_hash c_z) sz [.ref a_t, .int x1]) (postI D o (wd_X6_digitAt cI a_t a_z a_history a_text a_left a_other a_smooth a_weights a_signs a_worked c_states c_length c_thrown c_codes c_read c_isOpen c_hash c_z) (wd_X6_digitAt cI a_t a_z a_history a_text a_left a_other a_smooth a_weights a_signs a_worked c_states c_length c_thrown c_codes c_read c_isOpen c_hash c_z) sz) 0 0 (va_A (wd_X6_digitAt cI a_t a_z a_history a_text a_left a_other a_smooth a_weights a_signs a_worked c_states c_length c_thrown c_codes c_read c_isOpen c_hash c_z) sz) := by
  refine mofI (by decide +kernel) (Nat.le_of_ble_eq_true rfl) ?_
  intro p e s m args below meth c Q A ls hx hb hml hown hts hK hP hD hS hA hG hl hret hsz0
  have hl : lv_has ls 6 [(0, .ref a_t), (1, .int x1)] := hl
  have K7 : ∀ (n7 : Nat) (x2 : Int32) (x3 : Int32) (x4 : Int32) (H : Heap) (locs : List Loc) (ls : Array Slot), va_P D vwCl (wd_X6_digitAt cI a_t a_z a_history a_text a_left a_other a_smooth a_weights a_signs a_worked c_states c_length c_thrown c_codes c_read c_isOpen c_hash c_z) H → va_D A (wd_X6_digitAt cI a_t a_z a_history a_text a_left a_other a_smooth a_weights a_signs a_worked c_states c_length c_thrown c_codes c_read c_isOpen c_hash c_z) → va_S A s.heap H locs → lv_has ls 6 [(0, .ref a_t), (1, .int x1), (2, .int x2), (3, .int x3), (4, .int x4)] → F_X6_digitAt_L7 c_z x1 n7 x2 x3 x4 = some o → W p l e rm_X6_digitAt s m args below meth c H locs 0 0 Q (F0 m 7 ls []) := by
    intro n7
    induction n7 with
    | zero => intro x2 x3 x4 H locs ls hP hD hS hl hF; exact nos hF
    | succ n7 ih7 =>
      have K57 : ∀ (x2 : Int32) (x4 : Int32) (x5 : Int32) (v0 : Int32) (v1 : Int32)  (H : Heap) (locs : List Loc) (ls : Array Slot), va_P D vwCl (wd_X6_digitAt cI a_t a_z a_history a_text a_left a_other a_smooth a_weights a_signs a_worked c_states c_length c_thrown c_codes c_read c_isOpen c_hash c_z) H → va_D A (wd_X6_digitAt cI a_t a_z a_history a_text a_left a_other a_smooth a_weights a_signs a_worked c_states c_length c_thrown c_codes c_read c_isOpen c_hash c_z) → va_S A s.heap H locs → lv_has ls 6 [(0, .ref a_t), (1, .int x1), (2, .int x2), (4, .int x4), (5, .int x5)] → F_X6_digitAt_J57 (F_X6_digitAt_L7 c_z x1 n7) c_z x1 x2 x4 x5 v0 v1 = some o → W p l e rm_X6_digitAt s m args below meth c H locs 0 0 Q (F0 m 57 ls [.int v1, .int v0]) := by
        intro x2 x4 x5 v0 v1 H locs ls hP hD hS hl hF
        unfold F_X6_digitAt_J57 at hF
        refine lv_iadd hx hb dX6_digitAt_57 ?_
        refine lv_istore_n (lv' := [(3, .int (v0 + v1)), (0, .ref a_t), (1, .int x1), (2, .int x2), (4, .int x4), (5, .int x5)]) hx hb dX6_digitAt_58 rfl hl (by decide) rfl (fun ls hl => ?_)
        refine lv_iload_n hx hb dX6_digitAt_59 rfl (lv_at hl 3 rfl) ?_
        refine lv_iconst (v := 1) hx hb dX6_digitAt_60 (by decide) ?_
        refine lv_iload hx hb dX6_digitAt_61 (lv_at hl 5 rfl) ?_
        refine lv_ishl hx hb dX6_digitAt_63 ?_
        refine lv_ior hx hb dX6_digitAt_64 ?_
        refine lv_istore_n (lv' := [(2, .int (x2 ||| ((1 : Int32) <<< (x5 &&& 31)))), (3, .int (v0 + v1)), (0, .ref a_t), (1, .int x1), (4, .int x4), (5, .int x5)]) hx hb dX6_digitAt_65 rfl hl (by decide) rfl (fun ls hl => ?_)
        refine lv_iinc (v := x4 + 1) (lv' := [(4, .int (x4 + 1)), (2, .int (x2 ||| ((1 : Int32) <<< (x5 &&& 31)))), (3, .int (v0 + v1)), (0, .ref a_t), (1, .int x1), (5, .int x5)]) hx hb dX6_digitAt_66 hl (k := 4) rfl rfl (by decide) rfl (fun ls hl => ?_)
        refine lv_goto (tgt := 7) hx hb dX6_digitAt_69 (by decide) ?_
        exact ih7 (x2 ||| ((1 : Int32) <<< (x5 &&& 31))) (v0 + v1) (x4 + 1) H locs ls hP hD hS (lv_sub hl [3, 4, 1, 2, 0] rfl) hF
      intro x2 x3 x4 H locs ls hP hD hS hl hF
      rw [F_X6_digitAt_L7] at hF
      refine lv_iload hx hb dX6_digitAt_7 (lv_at hl 4 rfl) ?_
      refine lv_aload_n hx hb dX6_digitAt_9 rfl (lv_at hl 0 rfl) ?_
      refine get_X6_7 hx hb hts hown hK hP 0 rfl rfl dX6_digitAt_10 ?_
      refine lv_iconst (v := 0) hx hb dX6_digitAt_13 (by decide) ?_
      obtain ⟨g14, hF⟩ := gdb hF
      refine va_iald hx hb hK hP 1 0 rfl rfl (vinb g14) dX6_digitAt_14 ?_
      refine lv_icmp_ge (tgt := 72) hx hb dX6_digitAt_15 (by decide) (fun k15 => ?_) (fun k15 => ?_)
      · replace hF := (if_pos k15).symm.trans hF
        refine lv_iload_n hx hb dX6_digitAt_72 rfl (lv_at hl 3 rfl) ?_
        have ho := Option.some.inj hF
        exact hret H locs ls 73 x3 _ hP hS rfl ho dX6_digitAt_73
      · replace hF := (if_neg k15).symm.trans hF
        refine lv_aload_n hx hb dX6_digitAt_18 rfl (lv_at hl 0 rfl) ?_
        refine get_X6_7 hx hb hts hown hK hP 0 rfl rfl dX6_digitAt_19 ?_
        refine lv_iconst (v := 2) hx hb dX6_digitAt_22 (by decide) ?_
        refine lv_iload hx hb dX6_digitAt_23 (lv_at hl 4 rfl) ?_
        refine lv_iadd hx hb dX6_digitAt_25 ?_
        obtain ⟨g26, hF⟩ := gdb hF
        refine va_iald hx hb hK hP 1 0 rfl rfl (vinb g26) dX6_digitAt_26 ?_
        refine lv_istore (lv' := [(5, .int (c_z ((2 : Int32) + x4).toNatClampNeg)), (0, .ref a_t), (1, .int x1), (2, .int x2), (3, .int x3), (4, .int x4)]) hx hb dX6_digitAt_27 hl (by decide) rfl (fun ls hl => ?_)
        refine lv_iload_n hx hb dX6_digitAt_29 rfl (lv_at hl 4 rfl) ?_
        refine lv_iload hx hb dX6_digitAt_30 (lv_at hl 0 rfl) ?_
        refine lv_aload_n hx hb dX6_digitAt_32 rfl (lv_at hl 1 rfl) ?_
        refine get_X6_7 hx hb hts hown hK hP 0 rfl rfl dX6_digitAt_33 ?_
        refine lv_iconst (v := 2) hx hb dX6_digitAt_36 (by decide) ?_
        refine lv_iload_n hx hb dX6_digitAt_37 rfl (lv_at hl 2 rfl) ?_
        refine lv_iadd hx hb dX6_digitAt_38 ?_
        obtain ⟨g39, hF⟩ := gdb hF
        refine va_iald hx hb hK hP 1 0 rfl rfl (vinb g39) dX6_digitAt_39 ?_
        refine lv_icmp_ge (tgt := 56) hx hb dX6_digitAt_40 (by decide) (fun k40 => ?_) (fun k40 => ?_)
        · (try simp only [if_pos k40] at hF)
          refine lv_iconst (v := 0) hx hb dX6_digitAt_56 (by decide) ?_
          exact K57 x2 x4 (c_z ((2 : Int32) + x4).toNatClampNeg) x3 (0 : Int32) H locs ls hP hD hS (lv_sub hl [1, 2, 3, 5, 0] rfl) hF
        · (try simp only [if_neg k40] at hF)
          refine lv_iload_n hx hb dX6_digitAt_43 rfl (lv_at hl 3 rfl) ?_
          refine lv_iload hx hb dX6_digitAt_44 (lv_at hl 0 rfl) ?_
          refine lv_ishr hx hb dX6_digitAt_46 ?_
          refine lv_iconst (v := 1) hx hb dX6_digitAt_47 (by decide) ?_
          refine lv_iand hx hb dX6_digitAt_48 ?_
          refine lv_if_ne (tgt := 56) hx hb dX6_digitAt_49 (by decide) (fun k49 => ?_) (fun k49 => ?_)
          · (try simp only [if_neg k49] at hF)
            refine lv_iconst (v := 0) hx hb dX6_digitAt_56 (by decide) ?_
            exact K57 x2 x4 (c_z ((2 : Int32) + x4).toNatClampNeg) x3 (0 : Int32) H locs ls hP hD hS (lv_sub hl [1, 2, 3, 5, 0] rfl) hF
          · (try simp only [if_pos k49] at hF)
            refine lv_iconst (v := 1) hx hb dX6_digitAt_52 (by decide) ?_
            refine lv_goto (tgt := 57) hx hb dX6_digitAt_53 (by decide) ?_
            exact K57 x2 x4 (c_z ((2 : Int32) + x4).toNatClampNeg) x3 (1 : Int32) H locs ls hP hD hS (lv_sub hl [1, 2, 3, 5, 0] rfl) hF
  unfold F_X6_digitAt at hF
  have hP : va_P D vwCl (wd_X6_digitAt cI a_t a_z a_history a_text a_left a_other a_smooth a_weights a_signs a_worked c_states c_length c_thrown c_codes c_read c_isOpen c_hash c_z) s.heap := hP
  obtain ⟨H, hH⟩ : ∃ H, H = s.heap := ⟨_, rfl⟩
  rw [← hH]
  rw [← hH] at hP
  obtain ⟨locs, hlo⟩ : ∃ z : List Loc, z = [] := ⟨_, rfl⟩
  rw [← hlo]
  have hS : va_S A s.heap H locs := by rw [hH, hlo]; exact hS
  refine lv_iconst (v := 0) hx hb dX6_digitAt_0 (by decide) ?_
  refine lv_istore_n (lv' := [(2, .int (0 : Int32)), (0, .ref a_t), (1, .int x1)]) hx hb dX6_digitAt_1 rfl hl (by decide) rfl (fun ls hl => ?_)
  refine lv_iconst (v := 0) hx hb dX6_digitAt_2 (by decide) ?_
  refine lv_istore_n (lv' := [(3, .int (0 : Int32)), (2, .int (0 : Int32)), (0, .ref a_t), (1, .int x1)]) hx hb dX6_digitAt_3 rfl hl (by decide) rfl (fun ls hl => ?_)
  refine lv_iload_n hx hb dX6_digitAt_4 rfl (lv_at hl 3 rfl) ?_
  refine lv_istore (lv' := [(4, .int x1), (3, .int (0 : Int32)), (2, .int (0 : Int32)), (0, .ref a_t), (1, .int x1)]) hx hb dX6_digitAt_5 hl (by decide) rfl (fun ls hl => ?_)
  exact K7 FU (0 : Int32) (0 : Int32) x1 H locs ls hP hD hS (lv_sub hl [3, 4, 2, 1, 0] rfl) hF
abbrev wd_X6_digit (cI : ClassId) (a_t a_z a_history a_text a_left a_other a_smooth a_weights a_signs a_worked : Nat) (c_states : Int32) (c_length : Int32) (c_thrown : Int32) (c_codes : Int32) (c_read : Int32) (c_isOpen : Int32) (c_hash : Int64) (c_z : Nat → Int32) : va_W := [(a_t, .inr (6, [.ref a_z, .int c_states, .ref a_history, .int c_length, .ref a_text, .int c_thrown, .ref a_left, .ref a_other, .ref a_smooth, .ref a_weights, .int c_codes, .ref a_signs, .int c_read, .int c_isOpen, .ref a_worked, .long c_hash])), (a_z, .inl (cI, 13, .inl c_z))]
def rm_X6_digit : Room := { frames := 2, cells := 0, slots := 0, locals := 43 }
set_option maxHeartbeats 4000000 in
set_option maxRecDepth 100000 in
theorem c_X6_digit (l : Launch) (D : va_G) (cI : ClassId) (a_t a_z a_history a_text a_left a_other a_smooth a_weights a_signs a_worked : Nat) (sz : Nat) (c_states : Int32) (c_length : Int32) (c_thrown : Int32) (c_codes : Int32) (c_read : Int32) (c_isOpen : Int32) (c_hash : Int64) (c_z : Nat → Int32) (x1 : Int32) (o : Int32 × Int32) (hF : F_X6_digit c_thrown c_z x1 = some o) : Met l yX6_digit (Cond.code yX6_digit cX6_digit 2 (some .int) :: WL) rm_X6_digit (preM D [(cI, .int)] (wd_X6_digit cI a_t a_z a_history a_text a_left a_other a_smooth a_weights a_signs a_worked c_states c_length c_thrown c_codes c_read c_isOpen c_hash c_z) sz [.ref a_t, .int x1]) (postI D o.1 (wd_X6_digit cI a_t a_z a_history a_text a_left a_other a_smooth a_weights a_signs a_worked c_states c_length o.2 c_codes c_read c_isOpen c_hash c_z) (wd_X6_digit cI a_t a_z a_history a_text a_left a_other a_smooth a_weights a_signs a_worked c_states c_length c_thrown c_codes c_read c_isOpen c_hash c_z) sz) 0 0 (va_A (wd_X6_digit cI a_t a_z a_history a_text a_left a_other a_smooth a_weights a_signs a_worked c_states c_length c_thrown c_codes c_read c_isOpen c_hash c_z) sz) := by
  refine mofI (by decide +kernel) (Nat.le_of_ble_eq_true rfl) ?_
  intro p e s m args below meth c Q A ls hx hb hml hown hts hK hP hD hS hA hG hl hret hsz0
  have hl : lv_has ls 2 [(0, .ref a_t), (1, .int x1)] := hl
  have K14 : ∀ (c_thrown : Int32) (v1 : Int32)  (H : Heap) (locs : List Loc) (ls : Array Slot), va_P D vwCl (wd_X6_digit cI a_t a_z a_history a_text a_left a_other a_smooth a_weights a_signs a_worked c_states c_length c_thrown c_codes c_read c_isOpen c_hash c_z) H → va_D A (wd_X6_digit cI a_t a_z a_history a_text a_left a_other a_smooth a_weights a_signs a_worked c_states c_length c_thrown c_codes c_read c_isOpen c_hash c_z) → va_S A s.heap H locs → lv_has ls 2 [(0, .ref a_t), (1, .int x1)] → F_X6_digit_J14 c_z x1 c_thrown v1 = some o → W p l e rm_X6_digit s m args below meth c H locs 0 0 Q (F0 m 14 ls [.int v1, .ref a_t]) := by
    intro c_thrown v1 H locs ls hP hD hS hl hF
    unfold F_X6_digit_J14 at hF
    refine put_X6_37 hx hb hts hown hK hP hD hS 0 rfl rfl rfl (Nat.le_of_ble_eq_true rfl) dX6_digit_14 (fun H locs hP hD hS => ?_)
    have hP : va_P D vwCl (wd_X6_digit cI a_t a_z a_history a_text a_left a_other a_smooth a_weights a_signs a_worked c_states c_length v1 c_codes c_read c_isOpen c_hash c_z) H := hP
    have hD : va_D A (wd_X6_digit cI a_t a_z a_history a_text a_left a_other a_smooth a_weights a_signs a_worked c_states c_length v1 c_codes c_read c_isOpen c_hash c_z) := hD
    refine lv_aload_n hx hb dX6_digit_17 rfl (lv_at hl 0 rfl) ?_
    refine get_X6_37 hx hb hts hown hK hP 0 rfl rfl dX6_digit_18 ?_
    refine lv_if_le (tgt := 28) hx hb dX6_digit_21 (by decide) (fun k21 => ?_) (fun k21 => ?_)
    · replace hF := (if_pos k21).symm.trans hF
      refine lv_aload_n hx hb dX6_digit_28 rfl (lv_at hl 0 rfl) ?_
      refine lv_iload_n hx hb dX6_digit_29 rfl (lv_at hl 1 rfl) ?_
      obtain ⟨r30, hr30, hF⟩ := opb hF
      refine kVI (As := [.int x1]) (rest := []) (ws' := (wd_X6_digit cI a_t a_z a_history a_text a_left a_other a_smooth a_weights a_signs a_worked c_states c_length v1 c_codes c_read c_isOpen c_hash c_z)) ⟨hx, hb, hml, hown, hts⟩ (c_X6_digitAt l D cI a_t a_z a_history a_text a_left a_other a_smooth a_weights a_signs a_worked H.size c_states c_length v1 c_codes c_read c_isOpen c_hash c_z x1 r30 hr30) (cwV 1 hts mw_X6_158 rfl rfl rfl hd_X6_digitAt ⟨Nat.le_of_ble_eq_true rfl, Nat.le_of_ble_eq_true rfl⟩) hS hA hG hK hP hD [0, 1] rfl rfl rfl rfl rfl ⟨Nat.zero_le _, Nat.zero_le _⟩ 6 0 rfl rfl rfl rfl hl.1 rfl (Nat.le_of_ble_eq_true rfl) dX6_digit_30 (fun H locs hP hD hS => ?_)
      have ho := Option.some.inj hF
      exact hret H locs ls 33 r30 _ hP hS (by rw [← ho]) (by rw [← ho]) dX6_digit_33
    · replace hF := (if_neg k21).symm.trans hF
      refine lv_iconst (v := 0) hx hb dX6_digit_24 (by decide) ?_
      refine lv_goto (tgt := 33) hx hb dX6_digit_25 (by decide) ?_
      have ho := Option.some.inj hF
      exact hret H locs ls 33 (0 : Int32) _ hP hS (by rw [← ho]) (by rw [← ho]) dX6_digit_33
  unfold F_X6_digit at hF
  have hP : va_P D vwCl (wd_X6_digit cI a_t a_z a_history a_text a_left a_other a_smooth a_weights a_signs a_worked c_states c_length c_thrown c_codes c_read c_isOpen c_hash c_z) s.heap := hP
  obtain ⟨H, hH⟩ : ∃ H, H = s.heap := ⟨_, rfl⟩
  rw [← hH]
  rw [← hH] at hP
  obtain ⟨locs, hlo⟩ : ∃ z : List Loc, z = [] := ⟨_, rfl⟩
  rw [← hlo]
  have hS : va_S A s.heap H locs := by rw [hH, hlo]; exact hS
  refine lv_aload_n hx hb dX6_digit_0 rfl (lv_at hl 0 rfl) ?_
  refine lv_aload_n hx hb dX6_digit_1 rfl (lv_at hl 0 rfl) ?_
  refine lv_iload_n hx hb dX6_digit_2 rfl (lv_at hl 1 rfl) ?_
  obtain ⟨r3, hr3, hF⟩ := opb hF
  refine kVI (As := [.int x1]) (rest := [.ref a_t]) (ws' := (wd_X6_digit cI a_t a_z a_history a_text a_left a_other a_smooth a_weights a_signs a_worked c_states c_length c_thrown c_codes c_read c_isOpen c_hash c_z)) ⟨hx, hb, hml, hown, hts⟩ (c_X6_isPlace l D cI a_t a_z a_history a_text a_left a_other a_smooth a_weights a_signs a_worked H.size c_states c_length c_thrown c_codes c_read c_isOpen c_hash c_z x1 r3 hr3) (cwV 1 hts mw_X6_126 rfl rfl rfl hd_X6_isPlace ⟨Nat.le_of_ble_eq_true rfl, Nat.le_of_ble_eq_true rfl⟩) hS hA hG hK hP hD [0, 1] rfl rfl rfl rfl rfl ⟨Nat.zero_le _, Nat.zero_le _⟩ 6 0 rfl rfl rfl rfl hl.1 rfl (Nat.le_of_ble_eq_true rfl) dX6_digit_3 (fun H locs hP hD hS => ?_)
  refine lv_if_eq (tgt := 13) hx hb dX6_digit_6 (by decide) (fun k6 => ?_) (fun k6 => ?_)
  · (try simp only [if_pos k6] at hF)
    refine lv_iconst (v := 1) hx hb dX6_digit_13 (by decide) ?_
    exact K14 c_thrown (1 : Int32) H locs ls hP hD hS (lv_sub hl [0, 1] rfl) hF
  · (try simp only [if_neg k6] at hF)
    refine lv_iconst (v := 0) hx hb dX6_digit_9 (by decide) ?_
    refine lv_goto (tgt := 14) hx hb dX6_digit_10 (by decide) ?_
    exact K14 c_thrown (0 : Int32) H locs ls hP hD hS (lv_sub hl [0, 1] rfl) hF
abbrev wd_X6_manyOf (cI : ClassId) (a_t a_z a_history a_text a_left a_other a_smooth a_weights a_signs a_worked : Nat) (c_states : Int32) (c_length : Int32) (c_thrown : Int32) (c_codes : Int32) (c_read : Int32) (c_isOpen : Int32) (c_hash : Int64) (c_left : Nat → Int32) (c_z : Nat → Int32) : va_W := [(a_t, .inr (6, [.ref a_z, .int c_states, .ref a_history, .int c_length, .ref a_text, .int c_thrown, .ref a_left, .ref a_other, .ref a_smooth, .ref a_weights, .int c_codes, .ref a_signs, .int c_read, .int c_isOpen, .ref a_worked, .long c_hash])), (a_left, .inl (cI, 6, .inl c_left)), (a_z, .inl (cI, 13, .inl c_z))]
def rm_X6_manyOf : Room := { frames := 1, cells := 0, slots := 0, locals := 21 }
set_option maxHeartbeats 4000000 in
set_option maxRecDepth 100000 in
theorem c_X6_manyOf (l : Launch) (D : va_G) (cI : ClassId) (a_t a_z a_history a_text a_left a_other a_smooth a_weights a_signs a_worked : Nat) (sz : Nat) (c_states : Int32) (c_length : Int32) (c_thrown : Int32) (c_codes : Int32) (c_read : Int32) (c_isOpen : Int32) (c_hash : Int64) (c_left : Nat → Int32) (c_z : Nat → Int32) (x1 : Int32) (o : Int32 × (Nat → Int32)) (hF : F_X6_manyOf c_left c_z x1 = some o) : Met l yX6_manyOf (Cond.code yX6_manyOf cX6_manyOf 2 (some .int) :: WL) rm_X6_manyOf (preM D [(cI, .int)] (wd_X6_manyOf cI a_t a_z a_history a_text a_left a_other a_smooth a_weights a_signs a_worked c_states c_length c_thrown c_codes c_read c_isOpen c_hash c_left c_z) sz [.ref a_t, .int x1]) (postI D o.1 (wd_X6_manyOf cI a_t a_z a_history a_text a_left a_other a_smooth a_weights a_signs a_worked c_states c_length c_thrown c_codes c_read c_isOpen c_hash o.2 c_z) (wd_X6_manyOf cI a_t a_z a_history a_text a_left a_other a_smooth a_weights a_signs a_worked c_states c_length c_thrown c_codes c_read c_isOpen c_hash c_left c_z) sz) 0 0 (va_A (wd_X6_manyOf cI a_t a_z a_history a_text a_left a_other a_smooth a_weights a_signs a_worked c_states c_length c_thrown c_codes c_read c_isOpen c_hash c_left c_z) sz) := by
  refine mofI (by decide +kernel) (Nat.le_of_ble_eq_true rfl) ?_
  intro p e s m args below meth c Q A ls hx hb hml hown hts hK hP hD hS hA hG hl hret hsz0
  have hl : lv_has ls 2 [(0, .ref a_t), (1, .int x1)] := hl
  unfold F_X6_manyOf at hF
  have hP : va_P D vwCl (wd_X6_manyOf cI a_t a_z a_history a_text a_left a_other a_smooth a_weights a_signs a_worked c_states c_length c_thrown c_codes c_read c_isOpen c_hash c_left c_z) s.heap := hP
  obtain ⟨H, hH⟩ : ∃ H, H = s.heap := ⟨_, rfl⟩
  rw [← hH]
  rw [← hH] at hP
  obtain ⟨locs, hlo⟩ : ∃ z : List Loc, z = [] := ⟨_, rfl⟩
  rw [← hlo]
  have hS : va_S A s.heap H locs := by rw [hH, hlo]; exact hS
  refine lv_aload_n hx hb dX6_manyOf_0 rfl (lv_at hl 0 rfl) ?_
  obtain ⟨r1, hr1, hF⟩ := opb hF
  refine kVV (As := []) (rest := []) (ws' := (wd_X6_manyOf cI a_t a_z a_history a_text a_left a_other a_smooth a_weights a_signs a_worked c_states c_length c_thrown c_codes c_read c_isOpen c_hash r1 c_z)) ⟨hx, hb, hml, hown, hts⟩ (c_X6_countAll l D cI a_t a_z a_history a_text a_left a_other a_smooth a_weights a_signs a_worked H.size c_states c_length c_thrown c_codes c_read c_isOpen c_hash c_left c_z  r1 hr1) (cwV 0 hts mw_X6_56 rfl rfl rfl hd_X6_countAll ⟨Nat.le_of_ble_eq_true rfl, Nat.le_of_ble_eq_true rfl⟩) hS hA hG hK hP hD [0, 1, 2] rfl rfl rfl rfl rfl ⟨Nat.zero_le _, Nat.zero_le _⟩ 6 0 rfl rfl rfl rfl hl.1 rfl (Nat.le_of_ble_eq_true rfl) dX6_manyOf_1 (fun H locs hP hD hS => ?_)
  refine lv_aload_n hx hb dX6_manyOf_4 rfl (lv_at hl 0 rfl) ?_
  refine get_X6_19 hx hb hts hown hK hP 0 rfl rfl dX6_manyOf_5 ?_
  refine lv_iload_n hx hb dX6_manyOf_8 rfl (lv_at hl 1 rfl) ?_
  obtain ⟨g9, hF⟩ := gdb hF
  refine va_iald hx hb hK hP 1 0 rfl rfl (vinb g9) dX6_manyOf_9 ?_
  have ho := Option.some.inj hF
  exact hret H locs ls 10 (r1 (x1).toNatClampNeg) _ hP hS (by rw [← ho]) (by rw [← ho]) dX6_manyOf_10
abbrev wd_X6_many (cI : ClassId) (a_t a_z a_history a_text a_left a_other a_smooth a_weights a_signs a_worked : Nat) (c_states : Int32) (c_length : Int32) (c_thrown : Int32) (c_codes : Int32) (c_read : Int32) (c_isOpen : Int32) (c_hash : Int64) (c_left : Nat → Int32) (c_z : Nat → Int32) : va_W := [(a_t, .inr (6, [.ref a_z, .int c_states, .ref a_history, .int c_length, .ref a_text, .int c_thrown, .ref a_left, .ref a_other, .ref a_smooth, .ref a_weights, .int c_codes, .ref a_signs, .int c_read, .int c_isOpen, .ref a_worked, .long c_hash])), (a_left, .inl (cI, 6, .inl c_left)), (a_z, .inl (cI, 13, .inl c_z))]
def rm_X6_many : Room := { frames := 2, cells := 0, slots := 0, locals := 42 }
set_option maxHeartbeats 4000000 in
set_option maxRecDepth 100000 in
theorem c_X6_many (l : Launch) (D : va_G) (cI : ClassId) (a_t a_z a_history a_text a_left a_other a_smooth a_weights a_signs a_worked : Nat) (sz : Nat) (c_states : Int32) (c_length : Int32) (c_thrown : Int32) (c_codes : Int32) (c_read : Int32) (c_isOpen : Int32) (c_hash : Int64) (c_left : Nat → Int32) (c_z : Nat → Int32) (x1 : Int32) (o : Int32 × Int32 × (Nat → Int32)) (hF : F_X6_many c_thrown c_left c_z x1 = some o) : Met l yX6_many (Cond.code yX6_many cX6_many 2 (some .int) :: WL) rm_X6_many (preM D [(cI, .int)] (wd_X6_many cI a_t a_z a_history a_text a_left a_other a_smooth a_weights a_signs a_worked c_states c_length c_thrown c_codes c_read c_isOpen c_hash c_left c_z) sz [.ref a_t, .int x1]) (postI D o.1 (wd_X6_many cI a_t a_z a_history a_text a_left a_other a_smooth a_weights a_signs a_worked c_states c_length o.2.1 c_codes c_read c_isOpen c_hash o.2.2 c_z) (wd_X6_many cI a_t a_z a_history a_text a_left a_other a_smooth a_weights a_signs a_worked c_states c_length c_thrown c_codes c_read c_isOpen c_hash c_left c_z) sz) 0 0 (va_A (wd_X6_many cI a_t a_z a_history a_text a_left a_other a_smooth a_weights a_signs a_worked c_states c_length c_thrown c_codes c_read c_isOpen c_hash c_left c_z) sz) := by
  refine mofI (by decide +kernel) (Nat.le_of_ble_eq_true rfl) ?_
  intro p e s m args below meth c Q A ls hx hb hml hown hts hK hP hD hS hA hG hl hret hsz0
  have hl : lv_has ls 2 [(0, .ref a_t), (1, .int x1)] := hl
  have K13 : ∀ (c_thrown : Int32) (c_left : Nat → Int32) (v1 : Int32)  (H : Heap) (locs : List Loc) (ls : Array Slot), va_P D vwCl (wd_X6_many cI a_t a_z a_history a_text a_left a_other a_smooth a_weights a_signs a_worked c_states c_length c_thrown c_codes c_read c_isOpen c_hash c_left c_z) H → va_D A (wd_X6_many cI a_t a_z a_history a_text a_left a_other a_smooth a_weights a_signs a_worked c_states c_length c_thrown c_codes c_read c_isOpen c_hash c_left c_z) → va_S A s.heap H locs → lv_has ls 2 [(0, .ref a_t), (1, .int x1)] → F_X6_many_J13 c_z x1 c_thrown c_left v1 = some o → W p l e rm_X6_many s m args below meth c H locs 0 0 Q (F0 m 13 ls [.int v1, .ref a_t]) := by
    intro c_thrown c_left v1 H locs ls hP hD hS hl hF
    unfold F_X6_many_J13 at hF
    refine put_X6_37 hx hb hts hown hK hP hD hS 0 rfl rfl rfl (Nat.le_of_ble_eq_true rfl) dX6_many_13 (fun H locs hP hD hS => ?_)
    have hP : va_P D vwCl (wd_X6_many cI a_t a_z a_history a_text a_left a_other a_smooth a_weights a_signs a_worked c_states c_length v1 c_codes c_read c_isOpen c_hash c_left c_z) H := hP
    have hD : va_D A (wd_X6_many cI a_t a_z a_history a_text a_left a_other a_smooth a_weights a_signs a_worked c_states c_length v1 c_codes c_read c_isOpen c_hash c_left c_z) := hD
    refine lv_aload_n hx hb dX6_many_16 rfl (lv_at hl 0 rfl) ?_
    refine get_X6_37 hx hb hts hown hK hP 0 rfl rfl dX6_many_17 ?_
    refine lv_if_le (tgt := 27) hx hb dX6_many_20 (by decide) (fun k20 => ?_) (fun k20 => ?_)
    · replace hF := (if_pos k20).symm.trans hF
      refine lv_aload_n hx hb dX6_many_27 rfl (lv_at hl 0 rfl) ?_
      refine lv_iload_n hx hb dX6_many_28 rfl (lv_at hl 1 rfl) ?_
      obtain ⟨r29, hr29, hF⟩ := opb hF
      refine kVI (As := [.int x1]) (rest := []) (ws' := (wd_X6_many cI a_t a_z a_history a_text a_left a_other a_smooth a_weights a_signs a_worked c_states c_length v1 c_codes c_read c_isOpen c_hash r29.2 c_z)) ⟨hx, hb, hml, hown, hts⟩ (c_X6_manyOf l D cI a_t a_z a_history a_text a_left a_other a_smooth a_weights a_signs a_worked H.size c_states c_length v1 c_codes c_read c_isOpen c_hash c_left c_z x1 r29 hr29) (cwV 1 hts mw_X6_161 rfl rfl rfl hd_X6_manyOf ⟨Nat.le_of_ble_eq_true rfl, Nat.le_of_ble_eq_true rfl⟩) hS hA hG hK hP hD [0, 1, 2] rfl rfl rfl rfl rfl ⟨Nat.zero_le _, Nat.zero_le _⟩ 6 0 rfl rfl rfl rfl hl.1 rfl (Nat.le_of_ble_eq_true rfl) dX6_many_29 (fun H locs hP hD hS => ?_)
      have ho := Option.some.inj hF
      exact hret H locs ls 32 r29.1 _ hP hS (by rw [← ho]) (by rw [← ho]) dX6_many_32
    · replace hF := (if_neg k20).symm.trans hF
      refine lv_iconst (v := 0) hx hb dX6_many_23 (by decide) ?_
      refine lv_goto (tgt := 32) hx hb dX6_many_24 (by decide) ?_
      have ho := Option.some.inj hF
      exact hret H locs ls 32 (0 : Int32) _ hP hS (by rw [← ho]) (by rw [← ho]) dX6_many_32
  unfold F_X6_many at hF
  have hP : va_P D vwCl (wd_X6_many cI a_t a_z a_history a_text a_left a_other a_smooth a_weights a_signs a_worked c_states c_length c_thrown c_codes c_read c_isOpen c_hash c_left c_z) s.heap := hP
  obtain ⟨H, hH⟩ : ∃ H, H = s.heap := ⟨_, rfl⟩
  rw [← hH]
  rw [← hH] at hP
  obtain ⟨locs, hlo⟩ : ∃ z : List Loc, z = [] := ⟨_, rfl⟩
  rw [← hlo]
  have hS : va_S A s.heap H locs := by rw [hH, hlo]; exact hS
  refine lv_aload_n hx hb dX6_many_0 rfl (lv_at hl 0 rfl) ?_
  refine lv_iload_n hx hb dX6_many_1 rfl (lv_at hl 1 rfl) ?_
  obtain ⟨r2, hr2, hF⟩ := opb hF
  refine kSI (As := [.int x1]) (rest := [.ref a_t]) (ws' := (wd_X6_many cI a_t a_z a_history a_text a_left a_other a_smooth a_weights a_signs a_worked c_states c_length c_thrown c_codes c_read c_isOpen c_hash c_left c_z)) ⟨hx, hb, hml, hown, hts⟩ (c_X6_isSign l D cI  H.size  x1 r2 hr2) (va_cwS 1 hts mw_X6_139 rfl rfl rfl hd_X6_isSign ⟨Nat.le_of_ble_eq_true rfl, Nat.le_of_ble_eq_true rfl⟩) hS hA hG hK hP hD [] rfl rfl rfl rfl rfl ⟨Nat.zero_le _, Nat.zero_le _⟩ rfl hl.1 rfl (Nat.le_of_ble_eq_true rfl) dX6_many_2 (fun H locs hP hD hS => ?_)
  refine lv_if_eq (tgt := 12) hx hb dX6_many_5 (by decide) (fun k5 => ?_) (fun k5 => ?_)
  · (try simp only [if_pos k5] at hF)
    refine lv_iconst (v := 1) hx hb dX6_many_12 (by decide) ?_
    exact K13 c_thrown c_left (1 : Int32) H locs ls hP hD hS (lv_sub hl [0, 1] rfl) hF
  · (try simp only [if_neg k5] at hF)
    refine lv_iconst (v := 0) hx hb dX6_many_8 (by decide) ?_
    refine lv_goto (tgt := 13) hx hb dX6_many_9 (by decide) ?_
    exact K13 c_thrown c_left (0 : Int32) H locs ls hP hD hS (lv_sub hl [0, 1] rfl) hF
abbrev wd_X6_blockNow (cI : ClassId) (a_t a_z a_history a_text a_left a_other a_smooth a_weights a_signs a_worked : Nat) (c_states : Int32) (c_length : Int32) (c_thrown : Int32) (c_codes : Int32) (c_read : Int32) (c_isOpen : Int32) (c_hash : Int64) (c_left : Nat → Int32) (c_other : Nat → Int32) (c_smooth : Nat → Int32) (c_weights : Nat → Int32) (c_z : Nat → Int32) : va_W := [(a_t, .inr (6, [.ref a_z, .int c_states, .ref a_history, .int c_length, .ref a_text, .int c_thrown, .ref a_left, .ref a_other, .ref a_smooth, .ref a_weights, .int c_codes, .ref a_signs, .int c_read, .int c_isOpen, .ref a_worked, .long c_hash])), (a_left, .inl (cI, 6, .inl c_left)), (a_other, .inl (cI, 11, .inl c_other)), (a_smooth, .inl (cI, 4200, .inl c_smooth)), (a_weights, .inl (cI, 6, .inl c_weights)), (a_z, .inl (cI, 13, .inl c_z))]
def rm_X6_blockNow : Room := { frames := 4, cells := 0, slots := 0, locals := 91 }
set_option maxHeartbeats 4000000 in
set_option maxRecDepth 100000 in
theorem c_X6_blockNow (l : Launch) (D : va_G) (cI : ClassId) (a_t a_z a_history a_text a_left a_other a_smooth a_weights a_signs a_worked : Nat) (sz : Nat) (c_states : Int32) (c_length : Int32) (c_thrown : Int32) (c_codes : Int32) (c_read : Int32) (c_isOpen : Int32) (c_hash : Int64) (c_left : Nat → Int32) (c_other : Nat → Int32) (c_smooth : Nat → Int32) (c_weights : Nat → Int32) (c_z : Nat → Int32) (x1 : Int32) (x2 : Int32) (o : Int32 × Int32 × (Nat → Int32) × (Nat → Int32) × (Nat → Int32) × (Nat → Int32)) (hF : F_X6_blockNow c_codes c_left c_other c_smooth c_weights c_z x1 x2 = some o) : Met l yX6_blockNow (Cond.code yX6_blockNow cX6_blockNow 4 (some .int) :: WL) rm_X6_blockNow (preM D [(cI, .int)] (wd_X6_blockNow cI a_t a_z a_history a_text a_left a_other a_smooth a_weights a_signs a_worked c_states c_length c_thrown c_codes c_read c_isOpen c_hash c_left c_other c_smooth c_weights c_z) sz [.ref a_t, .int x1, .int x2]) (postI D o.1 (wd_X6_blockNow cI a_t a_z a_history a_text a_left a_other a_smooth a_weights a_signs a_worked c_states c_length c_thrown o.2.1 c_read c_isOpen c_hash o.2.2.1 o.2.2.2.1 o.2.2.2.2.1 o.2.2.2.2.2 c_z) (wd_X6_blockNow cI a_t a_z a_history a_text a_left a_other a_smooth a_weights a_signs a_worked c_states c_length c_thrown c_codes c_read c_isOpen c_hash c_left c_other c_smooth c_weights c_z) sz) 0 0 (va_A (wd_X6_blockNow cI a_t a_z a_history a_text a_left a_other a_smooth a_weights a_signs a_worked c_states c_length c_thrown c_codes c_read c_isOpen c_hash c_left c_other c_smooth c_weights c_z) sz) := by
  refine mofI (by decide +kernel) (Nat.le_of_ble_eq_true rfl) ?_
  intro p e s m args below meth c Q A ls hx hb hml hown hts hK hP hD hS hA hG hl hret hsz0
  have hl : lv_has ls 4 [(0, .ref a_t), (1, .int x1), (2, .int x2)] := hl
  unfold F_X6_blockNow at hF
  have hP : va_P D vwCl (wd_X6_blockNow cI a_t a_z a_history a_text a_left a_other a_smooth a_weights a_signs a_worked c_states c_length c_thrown c_codes c_read c_isOpen c_hash c_left c_other c_smooth c_weights c_z) s.heap := hP
  obtain ⟨H, hH⟩ : ∃ H, H = s.heap := ⟨_, rfl⟩
  rw [← hH]
  rw [← hH] at hP
  obtain ⟨locs, hlo⟩ : ∃ z : List Loc, z = [] := ⟨_, rfl⟩
  rw [← hlo]
  have hS : va_S A s.heap H locs := by rw [hH, hlo]; exact hS
  refine lv_iload_n hx hb dX6_blockNow_0 rfl (lv_at hl 2 rfl) ?_
  refine lv_iconst (v := 2) hx hb dX6_blockNow_1 (by decide) ?_
  refine lv_icmp_ne (tgt := 11) hx hb dX6_blockNow_2 (by decide) (fun k2 => ?_) (fun k2 => ?_)
  · replace hF := (if_neg k2).symm.trans hF
    refine lv_aload_n hx hb dX6_blockNow_11 rfl (lv_at hl 0 rfl) ?_
    obtain ⟨r12, hr12, hF⟩ := opb hF
    refine kVV (As := []) (rest := []) (ws' := (wd_X6_blockNow cI a_t a_z a_history a_text a_left a_other a_smooth a_weights a_signs a_worked c_states c_length c_thrown c_codes c_read c_isOpen c_hash c_left r12 c_smooth c_weights c_z)) ⟨hx, hb, hml, hown, hts⟩ (c_X6_copyRow l D cI a_t a_z a_history a_text a_left a_other a_smooth a_weights a_signs a_worked H.size c_states c_length c_thrown c_codes c_read c_isOpen c_hash c_other c_z  r12 hr12) (cwV 0 hts mw_X6_65 rfl rfl rfl hd_X6_copyRow ⟨Nat.le_of_ble_eq_true rfl, Nat.le_of_ble_eq_true rfl⟩) hS hA hG hK hP hD [0, 2, 5] rfl rfl rfl rfl rfl ⟨Nat.zero_le _, Nat.zero_le _⟩ 6 0 rfl rfl rfl rfl hl.1 rfl (Nat.le_of_ble_eq_true rfl) dX6_blockNow_12 (fun H locs hP hD hS => ?_)
    refine lv_aload_n hx hb dX6_blockNow_15 rfl (lv_at hl 0 rfl) ?_
    refine lv_iload_n hx hb dX6_blockNow_16 rfl (lv_at hl 1 rfl) ?_
    obtain ⟨r17, hr17, hF⟩ := opb hF
    refine kVI (As := [.int x1]) (rest := []) (ws' := (wd_X6_blockNow cI a_t a_z a_history a_text a_left a_other a_smooth a_weights a_signs a_worked c_states c_length c_thrown c_codes c_read c_isOpen c_hash r17.2 r12 c_smooth c_weights c_z)) ⟨hx, hb, hml, hown, hts⟩ (c_X6_lowestRank l D cI a_t a_z a_history a_text a_left a_other a_smooth a_weights a_signs a_worked H.size c_states c_length c_thrown c_codes c_read c_isOpen c_hash c_left r12 c_z x1 r17 hr17) (cwV 1 hts mw_X6_62 rfl rfl rfl hd_X6_lowestRank ⟨Nat.le_of_ble_eq_true rfl, Nat.le_of_ble_eq_true rfl⟩) hS hA hG hK hP hD [0, 1, 2, 5] rfl rfl rfl rfl rfl ⟨Nat.zero_le _, Nat.zero_le _⟩ 6 0 rfl rfl rfl rfl hl.1 rfl (Nat.le_of_ble_eq_true rfl) dX6_blockNow_17 (fun H locs hP hD hS => ?_)
    refine lv_istore_n (lv' := [(3, .int r17.1), (0, .ref a_t), (1, .int x1), (2, .int x2)]) hx hb dX6_blockNow_20 rfl hl (by decide) rfl (fun ls hl => ?_)
    refine lv_iload_n hx hb dX6_blockNow_21 rfl (lv_at hl 3 rfl) ?_
    refine lv_if_ne (tgt := 29) hx hb dX6_blockNow_22 (by decide) (fun k22 => ?_) (fun k22 => ?_)
    · replace hF := (if_neg k22).symm.trans hF
      refine lv_aload_n hx hb dX6_blockNow_29 rfl (lv_at hl 1 rfl) ?_
      obtain ⟨r30, hr30, hF⟩ := opb hF
      refine kVI (As := []) (rest := []) (ws' := (wd_X6_blockNow cI a_t a_z a_history a_text a_left a_other a_smooth a_weights a_signs a_worked c_states c_length c_thrown c_codes c_read c_isOpen c_hash r17.2 r12 c_smooth c_weights c_z)) ⟨hx, hb, hml, hown, hts⟩ (c_X6_rows l D cI a_t a_z a_history a_text a_left a_other a_smooth a_weights a_signs a_worked H.size c_states c_length c_thrown c_codes c_read c_isOpen c_hash r17.2  r30 hr30) (cwV 0 hts mw_X6_52 rfl rfl rfl hd_X6_rows ⟨Nat.le_of_ble_eq_true rfl, Nat.le_of_ble_eq_true rfl⟩) hS hA hG hK hP hD [0, 1] rfl rfl rfl rfl rfl ⟨Nat.zero_le _, Nat.zero_le _⟩ 6 0 rfl rfl rfl rfl hl.1 rfl (Nat.le_of_ble_eq_true rfl) dX6_blockNow_30 (fun H locs hP hD hS => ?_)
      have ho := Option.some.inj hF
      exact hret H locs ls 33 r30 _ hP hS (by rw [← ho]) (by rw [← ho]) dX6_blockNow_33
    · replace hF := (if_pos k22).symm.trans hF
      refine lv_iload_n hx hb dX6_blockNow_25 rfl (lv_at hl 0 rfl) ?_
      refine lv_goto (tgt := 33) hx hb dX6_blockNow_26 (by decide) ?_
      have ho := Option.some.inj hF
      exact hret H locs ls 33 r17.1 _ hP hS (by rw [← ho]) (by rw [← ho]) dX6_blockNow_33
  · replace hF := (if_pos k2).symm.trans hF
    refine lv_aload_n hx hb dX6_blockNow_5 rfl (lv_at hl 0 rfl) ?_
    refine lv_iload_n hx hb dX6_blockNow_6 rfl (lv_at hl 1 rfl) ?_
    obtain ⟨r7, hr7, hF⟩ := opb hF
    refine kVI (As := [.int x1]) (rest := []) (ws' := (wd_X6_blockNow cI a_t a_z a_history a_text a_left a_other a_smooth a_weights a_signs a_worked c_states c_length c_thrown r7.2.1 c_read c_isOpen c_hash r7.2.2.1 c_other r7.2.2.2.1 r7.2.2.2.2 c_z)) ⟨hx, hb, hml, hown, hts⟩ (c_X6_smoothWith l D cI a_t a_z a_history a_text a_left a_other a_smooth a_weights a_signs a_worked H.size c_states c_length c_thrown c_codes c_read c_isOpen c_hash c_left c_smooth c_weights c_z x1 r7 hr7) (cwV 1 hts mw_X6_83 rfl rfl rfl hd_X6_smoothWith ⟨Nat.le_of_ble_eq_true rfl, Nat.le_of_ble_eq_true rfl⟩) hS hA hG hK hP hD [0, 1, 3, 4, 5] rfl rfl rfl rfl rfl ⟨Nat.zero_le _, Nat.zero_le _⟩ 6 0 rfl rfl rfl rfl hl.1 rfl (Nat.le_of_ble_eq_true rfl) dX6_blockNow_7 (fun H locs hP hD hS => ?_)
    have ho := Option.some.inj hF
    exact hret H locs ls 10 r7.1 _ hP hS (by rw [← ho]) (by rw [← ho]) dX6_blockNow_10
abbrev wd_X6_block (cI : ClassId) (a_t a_z a_history a_text a_left a_other a_smooth a_weights a_signs a_worked : Nat) (c_states : Int32) (c_length : Int32) (c_thrown : Int32) (c_codes : Int32) (c_read : Int32) (c_isOpen : Int32) (c_hash : Int64) (c_left : Nat → Int32) (c_other : Nat → Int32) (c_smooth : Nat → Int32) (c_weights : Nat → Int32) (c_z : Nat → Int32) : va_W := [(a_t, .inr (6, [.ref a_z, .int c_states, .ref a_history, .int c_length, .ref a_text, .int c_thrown, .ref a_left, .ref a_other, .ref a_smooth, .ref a_weights, .int c_codes, .ref a_signs, .int c_read, .int c_isOpen, .ref a_worked, .long c_hash])), (a_left, .inl (cI, 6, .inl c_left)), (a_other, .inl (cI, 11, .inl c_other)), (a_smooth, .inl (cI, 4200, .inl c_smooth)), (a_weights, .inl (cI, 6, .inl c_weights)), (a_z, .inl (cI, 13, .inl c_z))]
def rm_X6_block : Room := { frames := 5, cells := 0, slots := 0, locals := 114 }
set_option maxHeartbeats 4000000 in
set_option maxRecDepth 100000 in
theorem c_X6_block (l : Launch) (D : va_G) (cI : ClassId) (a_t a_z a_history a_text a_left a_other a_smooth a_weights a_signs a_worked : Nat) (sz : Nat) (c_states : Int32) (c_length : Int32) (c_thrown : Int32) (c_codes : Int32) (c_read : Int32) (c_isOpen : Int32) (c_hash : Int64) (c_left : Nat → Int32) (c_other : Nat → Int32) (c_smooth : Nat → Int32) (c_weights : Nat → Int32) (c_z : Nat → Int32) (x1 : Int32) (x2 : Int32) (o : Int32 × Int32 × Int32 × (Nat → Int32) × (Nat → Int32) × (Nat → Int32) × (Nat → Int32)) (hF : F_X6_block c_thrown c_codes c_left c_other c_smooth c_weights c_z x1 x2 = some o) : Met l yX6_block (Cond.code yX6_block cX6_block 3 (some .int) :: WL) rm_X6_block (preM D [(cI, .int)] (wd_X6_block cI a_t a_z a_history a_text a_left a_other a_smooth a_weights a_signs a_worked c_states c_length c_thrown c_codes c_read c_isOpen c_hash c_left c_other c_smooth c_weights c_z) sz [.ref a_t, .int x1, .int x2]) (postI D o.1 (wd_X6_block cI a_t a_z a_history a_text a_left a_other a_smooth a_weights a_signs a_worked c_states c_length o.2.1 o.2.2.1 c_read c_isOpen c_hash o.2.2.2.1 o.2.2.2.2.1 o.2.2.2.2.2.1 o.2.2.2.2.2.2 c_z) (wd_X6_block cI a_t a_z a_history a_text a_left a_other a_smooth a_weights a_signs a_worked c_states c_length c_thrown c_codes c_read c_isOpen c_hash c_left c_other c_smooth c_weights c_z) sz) 0 0 (va_A (wd_X6_block cI a_t a_z a_history a_text a_left a_other a_smooth a_weights a_signs a_worked c_states c_length c_thrown c_codes c_read c_isOpen c_hash c_left c_other c_smooth c_weights c_z) sz) := by
  refine mofI (by decide +kernel) (Nat.le_of_ble_eq_true rfl) ?_
  intro p e s m args below meth c Q A ls hx hb hml hown hts hK hP hD hS hA hG hl hret hsz0
  have hl : lv_has ls 3 [(0, .ref a_t), (1, .int x1), (2, .int x2)] := hl
  have K29 : ∀ (c_thrown : Int32) (c_codes : Int32) (c_left : Nat → Int32) (c_other : Nat → Int32) (c_smooth : Nat → Int32) (c_weights : Nat → Int32) (v1 : Int32)  (H : Heap) (locs : List Loc) (ls : Array Slot), va_P D vwCl (wd_X6_block cI a_t a_z a_history a_text a_left a_other a_smooth a_weights a_signs a_worked c_states c_length c_thrown c_codes c_read c_isOpen c_hash c_left c_other c_smooth c_weights c_z) H → va_D A (wd_X6_block cI a_t a_z a_history a_text a_left a_other a_smooth a_weights a_signs a_worked c_states c_length c_thrown c_codes c_read c_isOpen c_hash c_left c_other c_smooth c_weights c_z) → va_S A s.heap H locs → lv_has ls 3 [(0, .ref a_t), (1, .int x1), (2, .int x2)] → F_X6_block_J29 c_z x1 x2 c_thrown c_codes c_left c_other c_smooth c_weights v1 = some o → W p l e rm_X6_block s m args below meth c H locs 0 0 Q (F0 m 29 ls [.int v1, .ref a_t]) := by
    intro c_thrown c_codes c_left c_other c_smooth c_weights v1 H locs ls hP hD hS hl hF
    unfold F_X6_block_J29 at hF
    refine put_X6_37 hx hb hts hown hK hP hD hS 0 rfl rfl rfl (Nat.le_of_ble_eq_true rfl) dX6_block_29 (fun H locs hP hD hS => ?_)
    have hP : va_P D vwCl (wd_X6_block cI a_t a_z a_history a_text a_left a_other a_smooth a_weights a_signs a_worked c_states c_length v1 c_codes c_read c_isOpen c_hash c_left c_other c_smooth c_weights c_z) H := hP
    have hD : va_D A (wd_X6_block cI a_t a_z a_history a_text a_left a_other a_smooth a_weights a_signs a_worked c_states c_length v1 c_codes c_read c_isOpen c_hash c_left c_other c_smooth c_weights c_z) := hD
    refine lv_aload_n hx hb dX6_block_32 rfl (lv_at hl 0 rfl) ?_
    refine get_X6_37 hx hb hts hown hK hP 0 rfl rfl dX6_block_33 ?_
    refine lv_if_le (tgt := 43) hx hb dX6_block_36 (by decide) (fun k36 => ?_) (fun k36 => ?_)
    · replace hF := (if_pos k36).symm.trans hF
      refine lv_aload_n hx hb dX6_block_43 rfl (lv_at hl 0 rfl) ?_
      refine lv_iload_n hx hb dX6_block_44 rfl (lv_at hl 1 rfl) ?_
      refine lv_iload_n hx hb dX6_block_45 rfl (lv_at hl 2 rfl) ?_
      obtain ⟨r46, hr46, hF⟩ := opb hF
      refine kVI (As := [.int x1, .int x2]) (rest := []) (ws' := (wd_X6_block cI a_t a_z a_history a_text a_left a_other a_smooth a_weights a_signs a_worked c_states c_length v1 r46.2.1 c_read c_isOpen c_hash r46.2.2.1 r46.2.2.2.1 r46.2.2.2.2.1 r46.2.2.2.2.2 c_z)) ⟨hx, hb, hml, hown, hts⟩ (c_X6_blockNow l D cI a_t a_z a_history a_text a_left a_other a_smooth a_weights a_signs a_worked H.size c_states c_length v1 c_codes c_read c_isOpen c_hash c_left c_other c_smooth c_weights c_z x1 x2 r46 hr46) (cwV 2 hts mw_X6_164 rfl rfl rfl hd_X6_blockNow ⟨Nat.le_of_ble_eq_true rfl, Nat.le_of_ble_eq_true rfl⟩) hS hA hG hK hP hD [0, 1, 2, 3, 4, 5] rfl rfl rfl rfl rfl ⟨Nat.zero_le _, Nat.zero_le _⟩ 6 0 rfl rfl rfl rfl hl.1 rfl (Nat.le_of_ble_eq_true rfl) dX6_block_46 (fun H locs hP hD hS => ?_)
      have ho := Option.some.inj hF
      exact hret H locs ls 49 r46.1 _ hP hS (by rw [← ho]) (by rw [← ho]) dX6_block_49
    · replace hF := (if_neg k36).symm.trans hF
      refine lv_iconst (v := 0) hx hb dX6_block_39 (by decide) ?_
      refine lv_goto (tgt := 49) hx hb dX6_block_40 (by decide) ?_
      have ho := Option.some.inj hF
      exact hret H locs ls 49 (0 : Int32) _ hP hS (by rw [← ho]) (by rw [← ho]) dX6_block_49
  unfold F_X6_block at hF
  have hP : va_P D vwCl (wd_X6_block cI a_t a_z a_history a_text a_left a_other a_smooth a_weights a_signs a_worked c_states c_length c_thrown c_codes c_read c_isOpen c_hash c_left c_other c_smooth c_weights c_z) s.heap := hP
  obtain ⟨H, hH⟩ : ∃ H, H = s.heap := ⟨_, rfl⟩
  rw [← hH]
  rw [← hH] at hP
  obtain ⟨locs, hlo⟩ : ∃ z : List Loc, z = [] := ⟨_, rfl⟩
  rw [← hlo]
  have hS : va_S A s.heap H locs := by rw [hH, hlo]; exact hS
  refine lv_aload_n hx hb dX6_block_0 rfl (lv_at hl 0 rfl) ?_
  refine lv_iload_n hx hb dX6_block_1 rfl (lv_at hl 1 rfl) ?_
  refine lv_iconst (v := 0) hx hb dX6_block_2 (by decide) ?_
  refine lv_aload_n hx hb dX6_block_3 rfl (lv_at hl 0 rfl) ?_
  refine get_X6_7 hx hb hts hown hK hP 0 rfl rfl dX6_block_4 ?_
  refine lv_iconst (v := 0) hx hb dX6_block_7 (by decide) ?_
  obtain ⟨g8, hF⟩ := gdb hF
  refine va_iald hx hb hK hP 5 0 rfl rfl (vinb g8) dX6_block_8 ?_
  obtain ⟨r9, hr9, hF⟩ := opb hF
  refine kSI (As := [.int x1, .int (0 : Int32), .int (c_z ((0 : Int32)).toNatClampNeg)]) (rest := [.ref a_t]) (ws' := (wd_X6_block cI a_t a_z a_history a_text a_left a_other a_smooth a_weights a_signs a_worked c_states c_length c_thrown c_codes c_read c_isOpen c_hash c_left c_other c_smooth c_weights c_z)) ⟨hx, hb, hml, hown, hts⟩ (c_X6_within l D cI  H.size  x1 (0 : Int32) (c_z ((0 : Int32)).toNatClampNeg) r9 hr9) (va_cwS 3 hts mw_X6_44 rfl rfl rfl hd_X6_within ⟨Nat.le_of_ble_eq_true rfl, Nat.le_of_ble_eq_true rfl⟩) hS hA hG hK hP hD [] rfl rfl rfl rfl rfl ⟨Nat.zero_le _, Nat.zero_le _⟩ rfl hl.1 rfl (Nat.le_of_ble_eq_true rfl) dX6_block_9 (fun H locs hP hD hS => ?_)
  refine lv_if_eq (tgt := 28) hx hb dX6_block_12 (by decide) (fun k12 => ?_) (fun k12 => ?_)
  · replace hF := (if_pos k12).symm.trans hF
    refine lv_iconst (v := 1) hx hb dX6_block_28 (by decide) ?_
    exact K29 c_thrown c_codes c_left c_other c_smooth c_weights (1 : Int32) H locs ls hP hD hS (lv_sub hl [0, 1, 2] rfl) hF
  · replace hF := (if_neg k12).symm.trans hF
    refine lv_iload_n hx hb dX6_block_15 rfl (lv_at hl 2 rfl) ?_
    refine lv_iconst (v := 0) hx hb dX6_block_16 (by decide) ?_
    refine lv_iconst (v := 2) hx hb dX6_block_17 (by decide) ?_
    obtain ⟨r18, hr18, hF⟩ := opb hF
    refine kSI (As := [.int x2, .int (0 : Int32), .int (2 : Int32)]) (rest := [.ref a_t]) (ws' := (wd_X6_block cI a_t a_z a_history a_text a_left a_other a_smooth a_weights a_signs a_worked c_states c_length c_thrown c_codes c_read c_isOpen c_hash c_left c_other c_smooth c_weights c_z)) ⟨hx, hb, hml, hown, hts⟩ (c_X6_within l D cI  H.size  x2 (0 : Int32) (2 : Int32) r18 hr18) (va_cwS 3 hts mw_X6_44 rfl rfl rfl hd_X6_within ⟨Nat.le_of_ble_eq_true rfl, Nat.le_of_ble_eq_true rfl⟩) hS hA hG hK hP hD [] rfl rfl rfl rfl rfl ⟨Nat.zero_le _, Nat.zero_le _⟩ rfl hl.1 rfl (Nat.le_of_ble_eq_true rfl) dX6_block_18 (fun H locs hP hD hS => ?_)
    refine lv_if_eq (tgt := 28) hx hb dX6_block_21 (by decide) (fun k21 => ?_) (fun k21 => ?_)
    · (try simp only [if_pos k21] at hF)
      refine lv_iconst (v := 1) hx hb dX6_block_28 (by decide) ?_
      exact K29 c_thrown c_codes c_left c_other c_smooth c_weights (1 : Int32) H locs ls hP hD hS (lv_sub hl [0, 1, 2] rfl) hF
    · (try simp only [if_neg k21] at hF)
      refine lv_iconst (v := 0) hx hb dX6_block_24 (by decide) ?_
      refine lv_goto (tgt := 29) hx hb dX6_block_25 (by decide) ?_
      exact K29 c_thrown c_codes c_left c_other c_smooth c_weights (0 : Int32) H locs ls hP hD hS (lv_sub hl [0, 1, 2] rfl) hF
abbrev wd_X6_unlike (cI : ClassId) (a_t a_z a_history a_text a_left a_other a_smooth a_weights a_signs a_worked : Nat) (c_states : Int32) (c_length : Int32) (c_thrown : Int32) (c_codes : Int32) (c_read : Int32) (c_isOpen : Int32) (c_hash : Int64) (c_left : Nat → Int32) (c_z : Nat → Int32) : va_W := [(a_t, .inr (6, [.ref a_z, .int c_states, .ref a_history, .int c_length, .ref a_text, .int c_thrown, .ref a_left, .ref a_other, .ref a_smooth, .ref a_weights, .int c_codes, .ref a_signs, .int c_read, .int c_isOpen, .ref a_worked, .long c_hash])), (a_left, .inl (cI, 6, .inl c_left)), (a_z, .inl (cI, 13, .inl c_z))]
def rm_X6_unlike : Room := { frames := 1, cells := 0, slots := 0, locals := 21 }
set_option maxHeartbeats 4000000 in
set_option maxRecDepth 100000 in
theorem c_X6_unlike (l : Launch) (D : va_G) (cI : ClassId) (a_t a_z a_history a_text a_left a_other a_smooth a_weights a_signs a_worked : Nat) (sz : Nat) (c_states : Int32) (c_length : Int32) (c_thrown : Int32) (c_codes : Int32) (c_read : Int32) (c_isOpen : Int32) (c_hash : Int64) (c_left : Nat → Int32) (c_z : Nat → Int32) (o : Int32 × (Nat → Int32)) (hF : F_X6_unlike c_left c_z = some o) : Met l yX6_unlike (Cond.code yX6_unlike cX6_unlike 3 (some .int) :: WL) rm_X6_unlike (preM D [(cI, .int)] (wd_X6_unlike cI a_t a_z a_history a_text a_left a_other a_smooth a_weights a_signs a_worked c_states c_length c_thrown c_codes c_read c_isOpen c_hash c_left c_z) sz [.ref a_t]) (postI D o.1 (wd_X6_unlike cI a_t a_z a_history a_text a_left a_other a_smooth a_weights a_signs a_worked c_states c_length c_thrown c_codes c_read c_isOpen c_hash o.2 c_z) (wd_X6_unlike cI a_t a_z a_history a_text a_left a_other a_smooth a_weights a_signs a_worked c_states c_length c_thrown c_codes c_read c_isOpen c_hash c_left c_z) sz) 0 0 (va_A (wd_X6_unlike cI a_t a_z a_history a_text a_left a_other a_smooth a_weights a_signs a_worked c_states c_length c_thrown c_codes c_read c_isOpen c_hash c_left c_z) sz) := by
  refine mofI (by decide +kernel) (Nat.le_of_ble_eq_true rfl) ?_
  intro p e s m args below meth c Q A ls hx hb hml hown hts hK hP hD hS hA hG hl hret hsz0
  have hl : lv_has ls 3 [(0, .ref a_t)] := hl
  have K8 : ∀ (n8 : Nat) (c_left : Nat → Int32) (x1 : Int32) (x2 : Int32) (H : Heap) (locs : List Loc) (ls : Array Slot), va_P D vwCl (wd_X6_unlike cI a_t a_z a_history a_text a_left a_other a_smooth a_weights a_signs a_worked c_states c_length c_thrown c_codes c_read c_isOpen c_hash c_left c_z) H → va_D A (wd_X6_unlike cI a_t a_z a_history a_text a_left a_other a_smooth a_weights a_signs a_worked c_states c_length c_thrown c_codes c_read c_isOpen c_hash c_left c_z) → va_S A s.heap H locs → lv_has ls 3 [(0, .ref a_t), (1, .int x1), (2, .int x2)] → F_X6_unlike_L8 c_z n8 c_left x1 x2 = some o → W p l e rm_X6_unlike s m args below meth c H locs 0 0 Q (F0 m 8 ls []) := by
    intro n8
    induction n8 with
    | zero => intro c_left x1 x2 H locs ls hP hD hS hl hF; exact nos hF
    | succ n8 ih8 =>
      intro c_left x1 x2 H locs ls hP hD hS hl hF
      rw [F_X6_unlike_L8] at hF
      refine lv_iload_n hx hb dX6_unlike_8 rfl (lv_at hl 2 rfl) ?_
      refine lv_bipush (v := 6) hx hb dX6_unlike_9 (by decide) ?_
      refine lv_icmp_ge (tgt := 37) hx hb dX6_unlike_11 (by decide) (fun k11 => ?_) (fun k11 => ?_)
      · replace hF := (if_pos k11).symm.trans hF
        refine lv_iload_n hx hb dX6_unlike_37 rfl (lv_at hl 1 rfl) ?_
        have ho := Option.some.inj hF
        exact hret H locs ls 38 x1 _ hP hS (by rw [← ho]) (by rw [← ho]) dX6_unlike_38
      · replace hF := (if_neg k11).symm.trans hF
        refine lv_iload_n hx hb dX6_unlike_14 rfl (lv_at hl 1 rfl) ?_
        refine lv_aload_n hx hb dX6_unlike_15 rfl (lv_at hl 0 rfl) ?_
        refine get_X6_19 hx hb hts hown hK hP 0 rfl rfl dX6_unlike_16 ?_
        refine lv_iload_n hx hb dX6_unlike_19 rfl (lv_at hl 2 rfl) ?_
        obtain ⟨g20, hF⟩ := gdb hF
        refine va_iald hx hb hK hP 1 0 rfl rfl (vinb g20) dX6_unlike_20 ?_
        refine lv_if_le (tgt := 28) hx hb dX6_unlike_21 (by decide) (fun k21 => ?_) (fun k21 => ?_)
        · (try simp only [if_pos k21] at hF)
          refine lv_iconst (v := 0) hx hb dX6_unlike_28 (by decide) ?_
          refine lv_iadd hx hb dX6_unlike_29 ?_
          refine lv_istore_n (lv' := [(1, .int (x1 + (0 : Int32))), (0, .ref a_t), (2, .int x2)]) hx hb dX6_unlike_30 rfl hl (by decide) rfl (fun ls hl => ?_)
          refine lv_iinc (v := x2 + 1) (lv' := [(2, .int (x2 + 1)), (1, .int (x1 + (0 : Int32))), (0, .ref a_t)]) hx hb dX6_unlike_31 hl (k := 2) rfl rfl (by decide) rfl (fun ls hl => ?_)
          refine lv_goto (tgt := 8) hx hb dX6_unlike_34 (by decide) ?_
          exact ih8 c_left (x1 + (0 : Int32)) (x2 + 1) H locs ls hP hD hS (lv_sub hl [2, 1, 0] rfl) hF
        · (try simp only [if_neg k21] at hF)
          refine lv_iconst (v := 1) hx hb dX6_unlike_24 (by decide) ?_
          refine lv_goto (tgt := 29) hx hb dX6_unlike_25 (by decide) ?_
          refine lv_iadd hx hb dX6_unlike_29 ?_
          refine lv_istore_n (lv' := [(1, .int (x1 + (1 : Int32))), (0, .ref a_t), (2, .int x2)]) hx hb dX6_unlike_30 rfl hl (by decide) rfl (fun ls hl => ?_)
          refine lv_iinc (v := x2 + 1) (lv' := [(2, .int (x2 + 1)), (1, .int (x1 + (1 : Int32))), (0, .ref a_t)]) hx hb dX6_unlike_31 hl (k := 2) rfl rfl (by decide) rfl (fun ls hl => ?_)
          refine lv_goto (tgt := 8) hx hb dX6_unlike_34 (by decide) ?_
          exact ih8 c_left (x1 + (1 : Int32)) (x2 + 1) H locs ls hP hD hS (lv_sub hl [2, 1, 0] rfl) hF
  unfold F_X6_unlike at hF
  have hP : va_P D vwCl (wd_X6_unlike cI a_t a_z a_history a_text a_left a_other a_smooth a_weights a_signs a_worked c_states c_length c_thrown c_codes c_read c_isOpen c_hash c_left c_z) s.heap := hP
  obtain ⟨H, hH⟩ : ∃ H, H = s.heap := ⟨_, rfl⟩
  rw [← hH]
  rw [← hH] at hP
  obtain ⟨locs, hlo⟩ : ∃ z : List Loc, z = [] := ⟨_, rfl⟩
  rw [← hlo]
  have hS : va_S A s.heap H locs := by rw [hH, hlo]; exact hS
  refine lv_aload_n hx hb dX6_unlike_0 rfl (lv_at hl 0 rfl) ?_
  obtain ⟨r1, hr1, hF⟩ := opb hF
  refine kVV (As := []) (rest := []) (ws' := (wd_X6_unlike cI a_t a_z a_history a_text a_left a_other a_smooth a_weights a_signs a_worked c_states c_length c_thrown c_codes c_read c_isOpen c_hash r1 c_z)) ⟨hx, hb, hml, hown, hts⟩ (c_X6_countAll l D cI a_t a_z a_history a_text a_left a_other a_smooth a_weights a_signs a_worked H.size c_states c_length c_thrown c_codes c_read c_isOpen c_hash c_left c_z  r1 hr1) (cwV 0 hts mw_X6_56 rfl rfl rfl hd_X6_countAll ⟨Nat.le_of_ble_eq_true rfl, Nat.le_of_ble_eq_true rfl⟩) hS hA hG hK hP hD [0, 1, 2] rfl rfl rfl rfl rfl ⟨Nat.zero_le _, Nat.zero_le _⟩ 6 0 rfl rfl rfl rfl hl.1 rfl (Nat.le_of_ble_eq_true rfl) dX6_unlike_1 (fun H locs hP hD hS => ?_)
  refine lv_iconst (v := 0) hx hb dX6_unlike_4 (by decide) ?_
  refine lv_istore_n (lv' := [(1, .int (0 : Int32)), (0, .ref a_t)]) hx hb dX6_unlike_5 rfl hl (by decide) rfl (fun ls hl => ?_)
  refine lv_iconst (v := 0) hx hb dX6_unlike_6 (by decide) ?_
  refine lv_istore_n (lv' := [(2, .int (0 : Int32)), (1, .int (0 : Int32)), (0, .ref a_t)]) hx hb dX6_unlike_7 rfl hl (by decide) rfl (fun ls hl => ?_)
  exact K8 FU r1 (0 : Int32) (0 : Int32) H locs ls hP hD hS (lv_sub hl [2, 1, 0] rfl) hF
abbrev wd_X6_inversions (cI : ClassId) (a_t a_z a_history a_text a_left a_other a_smooth a_weights a_signs a_worked : Nat) (c_states : Int32) (c_length : Int32) (c_thrown : Int32) (c_codes : Int32) (c_read : Int32) (c_isOpen : Int32) (c_hash : Int64) (c_z : Nat → Int32) : va_W := [(a_t, .inr (6, [.ref a_z, .int c_states, .ref a_history, .int c_length, .ref a_text, .int c_thrown, .ref a_left, .ref a_other, .ref a_smooth, .ref a_weights, .int c_codes, .ref a_signs, .int c_read, .int c_isOpen, .ref a_worked, .long c_hash])), (a_z, .inl (cI, 13, .inl c_z))]
def rm_X6_inversions : Room := { frames := 0, cells := 0, slots := 0, locals := 0 }
set_option maxHeartbeats 4000000 in
set_option maxRecDepth 100000 in
theorem c_X6_inversions (l : Launch) (D : va_G) (cI : ClassId) (a_t a_z a_history a_text a_left a_other a_smooth a_weights a_signs a_worked : Nat) (sz : Nat) (c_states : Int32) (c_length : Int32) (c_thrown : Int32) (c_codes : Int32) (c_read : Int32) (c_isOpen : Int32) (c_hash : Int64) (c_z : Nat → Int32) (o : Int32) (hF : F_X6_inversions c_z = some o) : Met l yX6_inversions (Cond.code yX6_inversions cX6_inversions 4 (some .int) :: WL) rm_X6_inversions (preM D [(cI, .int)] (wd_X6_inversions cI a_t a_z a_history a_text a_left a_other a_smooth a_weights a_signs a_worked c_states c_length c_thrown c_codes c_read c_isOpen c_hash c_z) sz [.ref a_t]) (postI D o (wd_X6_inversions cI a_t a_z a_history a_text a_left a_other a_smooth a_weights a_signs a_worked c_states c_length c_thrown c_codes c_read c_isOpen c_hash c_z) (wd_X6_inversions cI a_t a_z a_history a_text a_left a_other a_smooth a_weights a_signs a_worked c_states c_length c_thrown c_codes c_read c_isOpen c_hash c_z) sz) 0 0 (va_A (wd_X6_inversions cI a_t a_z a_history a_text a_left a_other a_smooth a_weights a_signs a_worked c_states c_length c_thrown c_codes c_read c_isOpen c_hash c_z) sz) := by
  refine mofI (by decide +kernel) (Nat.le_of_ble_eq_true rfl) ?_
  intro p e s m args below meth c Q A ls hx hb hml hown hts hK hP hD hS hA hG hl hret hsz0
  have hl : lv_has ls 4 [(0, .ref a_t)] := hl
  have K4 : ∀ (n4 : Nat) (x1 : Int32) (x2 : Int32) (H : Heap) (locs : List Loc) (ls : Array Slot), va_P D vwCl (wd_X6_inversions cI a_t a_z a_history a_text a_left a_other a_smooth a_weights a_signs a_worked c_states c_length c_thrown c_codes c_read c_isOpen c_hash c_z) H → va_D A (wd_X6_inversions cI a_t a_z a_history a_text a_left a_other a_smooth a_weights a_signs a_worked c_states c_length c_thrown c_codes c_read c_isOpen c_hash c_z) → va_S A s.heap H locs → lv_has ls 4 [(0, .ref a_t), (1, .int x1), (2, .int x2)] → F_X6_inversions_L4 c_z n4 x1 x2 = some o → W p l e rm_X6_inversions s m args below meth c H locs 0 0 Q (F0 m 4 ls []) := by
    intro n4
    induction n4 with
    | zero => intro x1 x2 H locs ls hP hD hS hl hF; exact nos hF
    | succ n4 ih4 =>
      have K18 : ∀ (n18 : Nat) (x1 : Int32) (x2 : Int32) (x3 : Int32) (H : Heap) (locs : List Loc) (ls : Array Slot), va_P D vwCl (wd_X6_inversions cI a_t a_z a_history a_text a_left a_other a_smooth a_weights a_signs a_worked c_states c_length c_thrown c_codes c_read c_isOpen c_hash c_z) H → va_D A (wd_X6_inversions cI a_t a_z a_history a_text a_left a_other a_smooth a_weights a_signs a_worked c_states c_length c_thrown c_codes c_read c_isOpen c_hash c_z) → va_S A s.heap H locs → lv_has ls 4 [(0, .ref a_t), (1, .int x1), (2, .int x2), (3, .int x3)] → F_X6_inversions_L18 (F_X6_inversions_L4 c_z n4) c_z n18 x1 x2 x3 = some o → W p l e rm_X6_inversions s m args below meth c H locs 0 0 Q (F0 m 18 ls []) := by
        intro n18
        induction n18 with
        | zero => intro x1 x2 x3 H locs ls hP hD hS hl hF; exact nos hF
        | succ n18 ih18 =>
          intro x1 x2 x3 H locs ls hP hD hS hl hF
          rw [F_X6_inversions_L18] at hF
          refine lv_iload_n hx hb dX6_inversions_18 rfl (lv_at hl 3 rfl) ?_
          refine lv_aload_n hx hb dX6_inversions_19 rfl (lv_at hl 0 rfl) ?_
          refine get_X6_7 hx hb hts hown hK hP 0 rfl rfl dX6_inversions_20 ?_
          refine lv_iconst (v := 0) hx hb dX6_inversions_23 (by decide) ?_
          obtain ⟨g24, hF⟩ := gdb hF
          refine va_iald hx hb hK hP 1 0 rfl rfl (vinb g24) dX6_inversions_24 ?_
          refine lv_icmp_ge (tgt := 61) hx hb dX6_inversions_25 (by decide) (fun k25 => ?_) (fun k25 => ?_)
          · replace hF := (if_pos k25).symm.trans hF
            refine lv_iinc (v := x2 + 1) (lv' := [(2, .int (x2 + 1)), (0, .ref a_t), (1, .int x1), (3, .int x3)]) hx hb dX6_inversions_61 hl (k := 2) rfl rfl (by decide) rfl (fun ls hl => ?_)
            refine lv_goto (tgt := 4) hx hb dX6_inversions_64 (by decide) ?_
            exact ih4 x1 (x2 + 1) H locs ls hP hD hS (lv_sub hl [1, 2, 0] rfl) hF
          · replace hF := (if_neg k25).symm.trans hF
            refine lv_iload_n hx hb dX6_inversions_28 rfl (lv_at hl 1 rfl) ?_
            refine lv_aload_n hx hb dX6_inversions_29 rfl (lv_at hl 0 rfl) ?_
            refine get_X6_7 hx hb hts hown hK hP 0 rfl rfl dX6_inversions_30 ?_
            refine lv_iconst (v := 2) hx hb dX6_inversions_33 (by decide) ?_
            refine lv_iload_n hx hb dX6_inversions_34 rfl (lv_at hl 2 rfl) ?_
            refine lv_iadd hx hb dX6_inversions_35 ?_
            obtain ⟨g36, hF⟩ := gdb hF
            refine va_iald hx hb hK hP 1 0 rfl rfl (vinb g36) dX6_inversions_36 ?_
            refine lv_aload_n hx hb dX6_inversions_37 rfl (lv_at hl 0 rfl) ?_
            refine get_X6_7 hx hb hts hown hK hP 0 rfl rfl dX6_inversions_38 ?_
            refine lv_iconst (v := 2) hx hb dX6_inversions_41 (by decide) ?_
            refine lv_iload_n hx hb dX6_inversions_42 rfl (lv_at hl 3 rfl) ?_
            refine lv_iadd hx hb dX6_inversions_43 ?_
            obtain ⟨g44, hF⟩ := gdb hF
            refine va_iald hx hb hK hP 1 0 rfl rfl (vinb g44) dX6_inversions_44 ?_
            refine lv_icmp_le (tgt := 52) hx hb dX6_inversions_45 (by decide) (fun k45 => ?_) (fun k45 => ?_)
            · (try simp only [if_pos k45] at hF)
              refine lv_iconst (v := 0) hx hb dX6_inversions_52 (by decide) ?_
              refine lv_iadd hx hb dX6_inversions_53 ?_
              refine lv_istore_n (lv' := [(1, .int (x1 + (0 : Int32))), (0, .ref a_t), (2, .int x2), (3, .int x3)]) hx hb dX6_inversions_54 rfl hl (by decide) rfl (fun ls hl => ?_)
              refine lv_iinc (v := x3 + 1) (lv' := [(3, .int (x3 + 1)), (1, .int (x1 + (0 : Int32))), (0, .ref a_t), (2, .int x2)]) hx hb dX6_inversions_55 hl (k := 3) rfl rfl (by decide) rfl (fun ls hl => ?_)
              refine lv_goto (tgt := 18) hx hb dX6_inversions_58 (by decide) ?_
              exact ih18 (x1 + (0 : Int32)) x2 (x3 + 1) H locs ls hP hD hS (lv_sub hl [2, 1, 3, 0] rfl) hF
            · (try simp only [if_neg k45] at hF)
              refine lv_iconst (v := 1) hx hb dX6_inversions_48 (by decide) ?_
              refine lv_goto (tgt := 53) hx hb dX6_inversions_49 (by decide) ?_
              refine lv_iadd hx hb dX6_inversions_53 ?_
              refine lv_istore_n (lv' := [(1, .int (x1 + (1 : Int32))), (0, .ref a_t), (2, .int x2), (3, .int x3)]) hx hb dX6_inversions_54 rfl hl (by decide) rfl (fun ls hl => ?_)
              refine lv_iinc (v := x3 + 1) (lv' := [(3, .int (x3 + 1)), (1, .int (x1 + (1 : Int32))), (0, .ref a_t), (2, .int x2)]) hx hb dX6_inversions_55 hl (k := 3) rfl rfl (by decide) rfl (fun ls hl => ?_)
              refine lv_goto (tgt := 18) hx hb dX6_inversions_58 (by decide) ?_
              exact ih18 (x1 + (1 : Int32)) x2 (x3 + 1) H locs ls hP hD hS (lv_sub hl [2, 1, 3, 0] rfl) hF
      intro x1 x2 H locs ls hP hD hS hl hF
      rw [F_X6_inversions_L4] at hF
      refine lv_iload_n hx hb dX6_inversions_4 rfl (lv_at hl 2 rfl) ?_
      refine lv_aload_n hx hb dX6_inversions_5 rfl (lv_at hl 0 rfl) ?_
      refine get_X6_7 hx hb hts hown hK hP 0 rfl rfl dX6_inversions_6 ?_
      refine lv_iconst (v := 0) hx hb dX6_inversions_9 (by decide) ?_
      obtain ⟨g10, hF⟩ := gdb hF
      refine va_iald hx hb hK hP 1 0 rfl rfl (vinb g10) dX6_inversions_10 ?_
      refine lv_icmp_ge (tgt := 67) hx hb dX6_inversions_11 (by decide) (fun k11 => ?_) (fun k11 => ?_)
      · replace hF := (if_pos k11).symm.trans hF
        refine lv_iload_n hx hb dX6_inversions_67 rfl (lv_at hl 1 rfl) ?_
        have ho := Option.some.inj hF
        exact hret H locs ls 68 x1 _ hP hS rfl ho dX6_inversions_68
      · replace hF := (if_neg k11).symm.trans hF
        refine lv_iload_n hx hb dX6_inversions_14 rfl (lv_at hl 2 rfl) ?_
        refine lv_iconst (v := 1) hx hb dX6_inversions_15 (by decide) ?_
        refine lv_iadd hx hb dX6_inversions_16 ?_
        refine lv_istore_n (lv' := [(3, .int (x2 + (1 : Int32))), (0, .ref a_t), (1, .int x1), (2, .int x2)]) hx hb dX6_inversions_17 rfl hl (by decide) rfl (fun ls hl => ?_)
        exact K18 FU x1 x2 (x2 + (1 : Int32)) H locs ls hP hD hS (lv_sub hl [1, 2, 3, 0] rfl) hF
  unfold F_X6_inversions at hF
  have hP : va_P D vwCl (wd_X6_inversions cI a_t a_z a_history a_text a_left a_other a_smooth a_weights a_signs a_worked c_states c_length c_thrown c_codes c_read c_isOpen c_hash c_z) s.heap := hP
  obtain ⟨H, hH⟩ : ∃ H, H = s.heap := ⟨_, rfl⟩
  rw [← hH]
  rw [← hH] at hP
  obtain ⟨locs, hlo⟩ : ∃ z : List Loc, z = [] := ⟨_, rfl⟩
  rw [← hlo]
  have hS : va_S A s.heap H locs := by rw [hH, hlo]; exact hS
  refine lv_iconst (v := 0) hx hb dX6_inversions_0 (by decide) ?_
  refine lv_istore_n (lv' := [(1, .int (0 : Int32)), (0, .ref a_t)]) hx hb dX6_inversions_1 rfl hl (by decide) rfl (fun ls hl => ?_)
  refine lv_iconst (v := 0) hx hb dX6_inversions_2 (by decide) ?_
  refine lv_istore_n (lv' := [(2, .int (0 : Int32)), (1, .int (0 : Int32)), (0, .ref a_t)]) hx hb dX6_inversions_3 rfl hl (by decide) rfl (fun ls hl => ?_)
  exact K4 FU (0 : Int32) (0 : Int32) H locs ls hP hD hS (lv_sub hl [2, 1, 0] rfl) hF
abbrev wd_X6_descents (cI : ClassId) (a_t a_z a_history a_text a_left a_other a_smooth a_weights a_signs a_worked : Nat) (c_states : Int32) (c_length : Int32) (c_thrown : Int32) (c_codes : Int32) (c_read : Int32) (c_isOpen : Int32) (c_hash : Int64) (c_z : Nat → Int32) : va_W := [(a_t, .inr (6, [.ref a_z, .int c_states, .ref a_history, .int c_length, .ref a_text, .int c_thrown, .ref a_left, .ref a_other, .ref a_smooth, .ref a_weights, .int c_codes, .ref a_signs, .int c_read, .int c_isOpen, .ref a_worked, .long c_hash])), (a_z, .inl (cI, 13, .inl c_z))]
def rm_X6_descents : Room := { frames := 0, cells := 0, slots := 0, locals := 0 }
set_option maxHeartbeats 4000000 in
set_option maxRecDepth 100000 in
theorem c_X6_descents (l : Launch) (D : va_G) (cI : ClassId) (a_t a_z a_history a_text a_left a_other a_smooth a_weights a_signs a_worked : Nat) (sz : Nat) (c_states : Int32) (c_length : Int32) (c_thrown : Int32) (c_codes : Int32) (c_read : Int32) (c_isOpen : Int32) (c_hash : Int64) (c_z : Nat → Int32) (x1 : Int32) (o : Int32) (hF : F_X6_descents c_z x1 = some o) : Met l yX6_descents (Cond.code yX6_descents cX6_descents 5 (some .int) :: WL) rm_X6_descents (preM D [(cI, .int)] (wd_X6_descents cI a_t a_z a_history a_text a_left a_other a_smooth a_weights a_signs a_worked c_states c_length c_thrown c_codes c_read c_isOpen c_hash c_z) sz [.ref a_t, .int x1]) (postI D o (wd_X6_descents cI a_t a_z a_history a_text a_left a_other a_smooth a_weights a_signs a_worked c_states c_length c_thrown c_codes c_read c_isOpen c_hash c_z) (wd_X6_descents cI a_t a_z a_history a_text a_left a_other a_smooth a_weights a_signs a_worked c_states c_length c_thrown c_codes c_read c_isOpen c_hash c_z) sz) 0 0 (va_A (wd_X6_descents cI a_t a_z a_history a_text a_left a_other a_smooth a_weights a_signs a_worked c_states c_length c_thrown c_codes c_read c_isOpen c_hash c_z) sz) := by
  refine mofI (by decide +kernel) (Nat.le_of_ble_eq_true rfl) ?_
  intro p e s m args below meth c Q A ls hx hb hml hown hts hK hP hD hS hA hG hl hret hsz0
  have hl : lv_has ls 5 [(0, .ref a_t), (1, .int x1)] := hl
  have K4 : ∀ (n4 : Nat) (x2 : Int32) (x3 : Int32) (H : Heap) (locs : List Loc) (ls : Array Slot), va_P D vwCl (wd_X6_descents cI a_t a_z a_history a_text a_left a_other a_smooth a_weights a_signs a_worked c_states c_length c_thrown c_codes c_read c_isOpen c_hash c_z) H → va_D A (wd_X6_descents cI a_t a_z a_history a_text a_left a_other a_smooth a_weights a_signs a_worked c_states c_length c_thrown c_codes c_read c_isOpen c_hash c_z) → va_S A s.heap H locs → lv_has ls 5 [(0, .ref a_t), (1, .int x1), (2, .int x2), (3, .int x3)] → F_X6_descents_L4 c_z x1 n4 x2 x3 = some o → W p l e rm_X6_descents s m args below meth c H locs 0 0 Q (F0 m 4 ls []) := by
    intro n4
    induction n4 with
    | zero => intro x2 x3 H locs ls hP hD hS hl hF; exact nos hF
    | succ n4 ih4 =>
      have K42 : ∀ (x2 : Int32) (x3 : Int32) (v0 : Int32)  (H : Heap) (locs : List Loc) (ls : Array Slot), va_P D vwCl (wd_X6_descents cI a_t a_z a_history a_text a_left a_other a_smooth a_weights a_signs a_worked c_states c_length c_thrown c_codes c_read c_isOpen c_hash c_z) H → va_D A (wd_X6_descents cI a_t a_z a_history a_text a_left a_other a_smooth a_weights a_signs a_worked c_states c_length c_thrown c_codes c_read c_isOpen c_hash c_z) → va_S A s.heap H locs → lv_has ls 5 [(0, .ref a_t), (1, .int x1), (2, .int x2), (3, .int x3)] → F_X6_descents_J42 (F_X6_descents_L4 c_z x1 n4) c_z x1 x2 x3 v0 = some o → W p l e rm_X6_descents s m args below meth c H locs 0 0 Q (F0 m 42 ls [.int v0]) := by
        intro x2 x3 v0 H locs ls hP hD hS hl hF
        unfold F_X6_descents_J42 at hF
        refine lv_istore (lv' := [(4, .int v0), (0, .ref a_t), (1, .int x1), (2, .int x2), (3, .int x3)]) hx hb dX6_descents_42 hl (by decide) rfl (fun ls hl => ?_)
        refine lv_iload_n hx hb dX6_descents_44 rfl (lv_at hl 3 rfl) ?_
        refine lv_iload hx hb dX6_descents_45 (lv_at hl 0 rfl) ?_
        refine lv_if_ne (tgt := 54) hx hb dX6_descents_47 (by decide) (fun k47 => ?_) (fun k47 => ?_)
        · (try simp only [if_neg k47] at hF)
          refine lv_iload_n hx hb dX6_descents_54 rfl (lv_at hl 2 rfl) ?_
          refine lv_if_eq (tgt := 64) hx hb dX6_descents_55 (by decide) (fun k55 => ?_) (fun k55 => ?_)
          · (try simp only [if_pos k55] at hF)
            refine lv_iconst (v := 1) hx hb dX6_descents_64 (by decide) ?_
            refine lv_iadd hx hb dX6_descents_65 ?_
            refine lv_istore_n (lv' := [(2, .int (x2 + (1 : Int32))), (4, .int v0), (0, .ref a_t), (1, .int x1), (3, .int x3)]) hx hb dX6_descents_66 rfl hl (by decide) rfl (fun ls hl => ?_)
            refine lv_iinc (v := x3 + 1) (lv' := [(3, .int (x3 + 1)), (2, .int (x2 + (1 : Int32))), (4, .int v0), (0, .ref a_t), (1, .int x1)]) hx hb dX6_descents_67 hl (k := 4) rfl rfl (by decide) rfl (fun ls hl => ?_)
            refine lv_goto (tgt := 4) hx hb dX6_descents_70 (by decide) ?_
            exact ih4 (x2 + (1 : Int32)) (x3 + 1) H locs ls hP hD hS (lv_sub hl [3, 4, 1, 0] rfl) hF
          · (try simp only [if_neg k55] at hF)
            refine lv_iload_n hx hb dX6_descents_58 rfl (lv_at hl 4 rfl) ?_
            refine lv_iconst (v := 1) hx hb dX6_descents_59 (by decide) ?_
            refine lv_iadd hx hb dX6_descents_60 ?_
            refine lv_goto (tgt := 65) hx hb dX6_descents_61 (by decide) ?_
            refine lv_iadd hx hb dX6_descents_65 ?_
            refine lv_istore_n (lv' := [(2, .int (x2 + (x3 + (1 : Int32)))), (4, .int v0), (0, .ref a_t), (1, .int x1), (3, .int x3)]) hx hb dX6_descents_66 rfl hl (by decide) rfl (fun ls hl => ?_)
            refine lv_iinc (v := x3 + 1) (lv' := [(3, .int (x3 + 1)), (2, .int (x2 + (x3 + (1 : Int32)))), (4, .int v0), (0, .ref a_t), (1, .int x1)]) hx hb dX6_descents_67 hl (k := 4) rfl rfl (by decide) rfl (fun ls hl => ?_)
            refine lv_goto (tgt := 4) hx hb dX6_descents_70 (by decide) ?_
            exact ih4 (x2 + (x3 + (1 : Int32))) (x3 + 1) H locs ls hP hD hS (lv_sub hl [3, 4, 1, 0] rfl) hF
        · (try simp only [if_pos k47] at hF)
          refine lv_iconst (v := 0) hx hb dX6_descents_50 (by decide) ?_
          refine lv_goto (tgt := 65) hx hb dX6_descents_51 (by decide) ?_
          refine lv_iadd hx hb dX6_descents_65 ?_
          refine lv_istore_n (lv' := [(2, .int (x2 + (0 : Int32))), (4, .int v0), (0, .ref a_t), (1, .int x1), (3, .int x3)]) hx hb dX6_descents_66 rfl hl (by decide) rfl (fun ls hl => ?_)
          refine lv_iinc (v := x3 + 1) (lv' := [(3, .int (x3 + 1)), (2, .int (x2 + (0 : Int32))), (4, .int v0), (0, .ref a_t), (1, .int x1)]) hx hb dX6_descents_67 hl (k := 4) rfl rfl (by decide) rfl (fun ls hl => ?_)
          refine lv_goto (tgt := 4) hx hb dX6_descents_70 (by decide) ?_
          exact ih4 (x2 + (0 : Int32)) (x3 + 1) H locs ls hP hD hS (lv_sub hl [3, 4, 1, 0] rfl) hF
      intro x2 x3 H locs ls hP hD hS hl hF
      rw [F_X6_descents_L4] at hF
      refine lv_iload_n hx hb dX6_descents_4 rfl (lv_at hl 3 rfl) ?_
      refine lv_iconst (v := 1) hx hb dX6_descents_5 (by decide) ?_
      refine lv_iadd hx hb dX6_descents_6 ?_
      refine lv_aload_n hx hb dX6_descents_7 rfl (lv_at hl 0 rfl) ?_
      refine get_X6_7 hx hb hts hown hK hP 0 rfl rfl dX6_descents_8 ?_
      refine lv_iconst (v := 0) hx hb dX6_descents_11 (by decide) ?_
      obtain ⟨g12, hF⟩ := gdb hF
      refine va_iald hx hb hK hP 1 0 rfl rfl (vinb g12) dX6_descents_12 ?_
      refine lv_icmp_ge (tgt := 73) hx hb dX6_descents_13 (by decide) (fun k13 => ?_) (fun k13 => ?_)
      · replace hF := (if_pos k13).symm.trans hF
        refine lv_iload_n hx hb dX6_descents_73 rfl (lv_at hl 2 rfl) ?_
        have ho := Option.some.inj hF
        exact hret H locs ls 74 x2 _ hP hS rfl ho dX6_descents_74
      · replace hF := (if_neg k13).symm.trans hF
        refine lv_aload_n hx hb dX6_descents_16 rfl (lv_at hl 0 rfl) ?_
        refine get_X6_7 hx hb hts hown hK hP 0 rfl rfl dX6_descents_17 ?_
        refine lv_iconst (v := 2) hx hb dX6_descents_20 (by decide) ?_
        refine lv_iload_n hx hb dX6_descents_21 rfl (lv_at hl 3 rfl) ?_
        refine lv_iadd hx hb dX6_descents_22 ?_
        obtain ⟨g23, hF⟩ := gdb hF
        refine va_iald hx hb hK hP 1 0 rfl rfl (vinb g23) dX6_descents_23 ?_
        refine lv_aload_n hx hb dX6_descents_24 rfl (lv_at hl 0 rfl) ?_
        refine get_X6_7 hx hb hts hown hK hP 0 rfl rfl dX6_descents_25 ?_
        refine lv_iconst (v := 2) hx hb dX6_descents_28 (by decide) ?_
        refine lv_iload_n hx hb dX6_descents_29 rfl (lv_at hl 3 rfl) ?_
        refine lv_iadd hx hb dX6_descents_30 ?_
        refine lv_iconst (v := 1) hx hb dX6_descents_31 (by decide) ?_
        refine lv_iadd hx hb dX6_descents_32 ?_
        obtain ⟨g33, hF⟩ := gdb hF
        refine va_iald hx hb hK hP 1 0 rfl rfl (vinb g33) dX6_descents_33 ?_
        refine lv_icmp_le (tgt := 41) hx hb dX6_descents_34 (by decide) (fun k34 => ?_) (fun k34 => ?_)
        · (try simp only [if_pos k34] at hF)
          refine lv_iconst (v := 0) hx hb dX6_descents_41 (by decide) ?_
          exact K42 x2 x3 (0 : Int32) H locs ls hP hD hS (lv_sub hl [0, 1, 2, 3] rfl) hF
        · (try simp only [if_neg k34] at hF)
          refine lv_iconst (v := 1) hx hb dX6_descents_37 (by decide) ?_
          refine lv_goto (tgt := 42) hx hb dX6_descents_38 (by decide) ?_
          exact K42 x2 x3 (1 : Int32) H locs ls hP hD hS (lv_sub hl [0, 1, 2, 3] rfl) hF
  unfold F_X6_descents at hF
  have hP : va_P D vwCl (wd_X6_descents cI a_t a_z a_history a_text a_left a_other a_smooth a_weights a_signs a_worked c_states c_length c_thrown c_codes c_read c_isOpen c_hash c_z) s.heap := hP
  obtain ⟨H, hH⟩ : ∃ H, H = s.heap := ⟨_, rfl⟩
  rw [← hH]
  rw [← hH] at hP
  obtain ⟨locs, hlo⟩ : ∃ z : List Loc, z = [] := ⟨_, rfl⟩
  rw [← hlo]
  have hS : va_S A s.heap H locs := by rw [hH, hlo]; exact hS
  refine lv_iconst (v := 0) hx hb dX6_descents_0 (by decide) ?_
  refine lv_istore_n (lv' := [(2, .int (0 : Int32)), (0, .ref a_t), (1, .int x1)]) hx hb dX6_descents_1 rfl hl (by decide) rfl (fun ls hl => ?_)
  refine lv_iconst (v := 0) hx hb dX6_descents_2 (by decide) ?_
  refine lv_istore_n (lv' := [(3, .int (0 : Int32)), (2, .int (0 : Int32)), (0, .ref a_t), (1, .int x1)]) hx hb dX6_descents_3 rfl hl (by decide) rfl (fun ls hl => ?_)
  exact K4 FU (0 : Int32) (0 : Int32) H locs ls hP hD hS (lv_sub hl [2, 3, 1, 0] rfl) hF
abbrev wd_X6_turnedRank (cI : ClassId) (a_t a_z a_history a_text a_left a_other a_smooth a_weights a_signs a_worked : Nat) (c_states : Int32) (c_length : Int32) (c_thrown : Int32) (c_codes : Int32) (c_read : Int32) (c_isOpen : Int32) (c_hash : Int64) (c_left : Nat → Int32) (c_other : Nat → Int32) (c_z : Nat → Int32) : va_W := [(a_t, .inr (6, [.ref a_z, .int c_states, .ref a_history, .int c_length, .ref a_text, .int c_thrown, .ref a_left, .ref a_other, .ref a_smooth, .ref a_weights, .int c_codes, .ref a_signs, .int c_read, .int c_isOpen, .ref a_worked, .long c_hash])), (a_left, .inl (cI, 6, .inl c_left)), (a_other, .inl (cI, 11, .inl c_other)), (a_z, .inl (cI, 13, .inl c_z))]
def rm_X6_turnedRank : Room := { frames := 5, cells := 0, slots := 0, locals := 111 }
set_option maxHeartbeats 4000000 in
set_option maxRecDepth 100000 in
theorem c_X6_turnedRank (l : Launch) (D : va_G) (cI : ClassId) (a_t a_z a_history a_text a_left a_other a_smooth a_weights a_signs a_worked : Nat) (sz : Nat) (c_states : Int32) (c_length : Int32) (c_thrown : Int32) (c_codes : Int32) (c_read : Int32) (c_isOpen : Int32) (c_hash : Int64) (c_left : Nat → Int32) (c_other : Nat → Int32) (c_z : Nat → Int32) (o : Int32 × (Nat → Int32) × (Nat → Int32)) (hF : F_X6_turnedRank c_left c_other c_z = some o) : Met l yX6_turnedRank (Cond.code yX6_turnedRank cX6_turnedRank 2 (some .int) :: WL) rm_X6_turnedRank (preM D [(cI, .int)] (wd_X6_turnedRank cI a_t a_z a_history a_text a_left a_other a_smooth a_weights a_signs a_worked c_states c_length c_thrown c_codes c_read c_isOpen c_hash c_left c_other c_z) sz [.ref a_t]) (postI D o.1 (wd_X6_turnedRank cI a_t a_z a_history a_text a_left a_other a_smooth a_weights a_signs a_worked c_states c_length c_thrown c_codes c_read c_isOpen c_hash o.2.1 o.2.2 c_z) (wd_X6_turnedRank cI a_t a_z a_history a_text a_left a_other a_smooth a_weights a_signs a_worked c_states c_length c_thrown c_codes c_read c_isOpen c_hash c_left c_other c_z) sz) 0 0 (va_A (wd_X6_turnedRank cI a_t a_z a_history a_text a_left a_other a_smooth a_weights a_signs a_worked c_states c_length c_thrown c_codes c_read c_isOpen c_hash c_left c_other c_z) sz) := by
  refine mofI (by decide +kernel) (Nat.le_of_ble_eq_true rfl) ?_
  intro p e s m args below meth c Q A ls hx hb hml hown hts hK hP hD hS hA hG hl hret hsz0
  have hl : lv_has ls 2 [(0, .ref a_t)] := hl
  have K2 : ∀ (n2 : Nat) (c_left : Nat → Int32) (c_other : Nat → Int32) (x1 : Int32) (H : Heap) (locs : List Loc) (ls : Array Slot), va_P D vwCl (wd_X6_turnedRank cI a_t a_z a_history a_text a_left a_other a_smooth a_weights a_signs a_worked c_states c_length c_thrown c_codes c_read c_isOpen c_hash c_left c_other c_z) H → va_D A (wd_X6_turnedRank cI a_t a_z a_history a_text a_left a_other a_smooth a_weights a_signs a_worked c_states c_length c_thrown c_codes c_read c_isOpen c_hash c_left c_other c_z) → va_S A s.heap H locs → lv_has ls 2 [(0, .ref a_t), (1, .int x1)] → F_X6_turnedRank_L2 c_z n2 c_left c_other x1 = some o → W p l e rm_X6_turnedRank s m args below meth c H locs 0 0 Q (F0 m 2 ls []) := by
    intro n2
    induction n2 with
    | zero => intro c_left c_other x1 H locs ls hP hD hS hl hF; exact nos hF
    | succ n2 ih2 =>
      intro c_left c_other x1 H locs ls hP hD hS hl hF
      rw [F_X6_turnedRank_L2] at hF
      refine lv_iload_n hx hb dX6_turnedRank_2 rfl (lv_at hl 1 rfl) ?_
      refine lv_aload_n hx hb dX6_turnedRank_3 rfl (lv_at hl 0 rfl) ?_
      refine get_X6_7 hx hb hts hown hK hP 0 rfl rfl dX6_turnedRank_4 ?_
      refine lv_iconst (v := 0) hx hb dX6_turnedRank_7 (by decide) ?_
      obtain ⟨g8, hF⟩ := gdb hF
      refine va_iald hx hb hK hP 3 0 rfl rfl (vinb g8) dX6_turnedRank_8 ?_
      refine lv_icmp_ge (tgt := 41) hx hb dX6_turnedRank_9 (by decide) (fun k9 => ?_) (fun k9 => ?_)
      · replace hF := (if_pos k9).symm.trans hF
        refine lv_aload_n hx hb dX6_turnedRank_41 rfl (lv_at hl 0 rfl) ?_
        obtain ⟨r42, hr42, hF⟩ := opb hF
        refine kVI (As := []) (rest := []) (ws' := (wd_X6_turnedRank cI a_t a_z a_history a_text a_left a_other a_smooth a_weights a_signs a_worked c_states c_length c_thrown c_codes c_read c_isOpen c_hash r42.2 c_other c_z)) ⟨hx, hb, hml, hown, hts⟩ (c_X6_rankOfOther l D cI a_t a_z a_history a_text a_left a_other a_smooth a_weights a_signs a_worked H.size c_states c_length c_thrown c_codes c_read c_isOpen c_hash c_left c_other c_z  r42 hr42) (cwV 0 hts mw_X6_68 rfl rfl rfl hd_X6_rankOfOther ⟨Nat.le_of_ble_eq_true rfl, Nat.le_of_ble_eq_true rfl⟩) hS hA hG hK hP hD [0, 1, 2, 3] rfl rfl rfl rfl rfl ⟨Nat.zero_le _, Nat.zero_le _⟩ 6 0 rfl rfl rfl rfl hl.1 rfl (Nat.le_of_ble_eq_true rfl) dX6_turnedRank_42 (fun H locs hP hD hS => ?_)
        have ho := Option.some.inj hF
        exact hret H locs ls 45 r42.1 _ hP hS (by rw [← ho]) (by rw [← ho]) dX6_turnedRank_45
      · replace hF := (if_neg k9).symm.trans hF
        refine lv_aload_n hx hb dX6_turnedRank_12 rfl (lv_at hl 0 rfl) ?_
        refine get_X6_22 hx hb hts hown hK hP 0 rfl rfl dX6_turnedRank_13 ?_
        refine lv_iload_n hx hb dX6_turnedRank_16 rfl (lv_at hl 1 rfl) ?_
        refine lv_aload_n hx hb dX6_turnedRank_17 rfl (lv_at hl 0 rfl) ?_
        refine get_X6_7 hx hb hts hown hK hP 0 rfl rfl dX6_turnedRank_18 ?_
        refine lv_iconst (v := 2) hx hb dX6_turnedRank_21 (by decide) ?_
        refine lv_aload_n hx hb dX6_turnedRank_22 rfl (lv_at hl 0 rfl) ?_
        refine get_X6_7 hx hb hts hown hK hP 0 rfl rfl dX6_turnedRank_23 ?_
        refine lv_iconst (v := 0) hx hb dX6_turnedRank_26 (by decide) ?_
        obtain ⟨g27, hF⟩ := gdb hF
        refine va_iald hx hb hK hP 3 0 rfl rfl (vinb g27) dX6_turnedRank_27 ?_
        refine lv_iadd hx hb dX6_turnedRank_28 ?_
        refine lv_iconst (v := 1) hx hb dX6_turnedRank_29 (by decide) ?_
        refine lv_isub hx hb dX6_turnedRank_30 ?_
        refine lv_iload_n hx hb dX6_turnedRank_31 rfl (lv_at hl 1 rfl) ?_
        refine lv_isub hx hb dX6_turnedRank_32 ?_
        obtain ⟨g33, hF⟩ := gdb hF
        refine va_iald hx hb hK hP 3 0 rfl rfl (vinb g33) dX6_turnedRank_33 ?_
        obtain ⟨g34, hF⟩ := gdb hF
        refine va_iast hx hb hK hP hD hS 2 0 rfl rfl (vinb g34) dX6_turnedRank_34 (fun H locs hP hD hS => ?_)
        have hP : va_P D vwCl (wd_X6_turnedRank cI a_t a_z a_history a_text a_left a_other a_smooth a_weights a_signs a_worked c_states c_length c_thrown c_codes c_read c_isOpen c_hash c_left (upd c_other (x1).toNatClampNeg (c_z ((((2 : Int32) + (c_z ((0 : Int32)).toNatClampNeg)) - (1 : Int32)) - x1).toNatClampNeg)) c_z) H := hP
        have hD : va_D A (wd_X6_turnedRank cI a_t a_z a_history a_text a_left a_other a_smooth a_weights a_signs a_worked c_states c_length c_thrown c_codes c_read c_isOpen c_hash c_left (upd c_other (x1).toNatClampNeg (c_z ((((2 : Int32) + (c_z ((0 : Int32)).toNatClampNeg)) - (1 : Int32)) - x1).toNatClampNeg)) c_z) := hD
        refine lv_iinc (v := x1 + 1) (lv' := [(1, .int (x1 + 1)), (0, .ref a_t)]) hx hb dX6_turnedRank_35 hl (k := 1) rfl rfl (by decide) rfl (fun ls hl => ?_)
        refine lv_goto (tgt := 2) hx hb dX6_turnedRank_38 (by decide) ?_
        exact ih2 c_left (upd c_other (x1).toNatClampNeg (c_z ((((2 : Int32) + (c_z ((0 : Int32)).toNatClampNeg)) - (1 : Int32)) - x1).toNatClampNeg)) (x1 + 1) H locs ls hP hD hS (lv_sub hl [1, 0] rfl) hF
  unfold F_X6_turnedRank at hF
  have hP : va_P D vwCl (wd_X6_turnedRank cI a_t a_z a_history a_text a_left a_other a_smooth a_weights a_signs a_worked c_states c_length c_thrown c_codes c_read c_isOpen c_hash c_left c_other c_z) s.heap := hP
  obtain ⟨H, hH⟩ : ∃ H, H = s.heap := ⟨_, rfl⟩
  rw [← hH]
  rw [← hH] at hP
  obtain ⟨locs, hlo⟩ : ∃ z : List Loc, z = [] := ⟨_, rfl⟩
  rw [← hlo]
  have hS : va_S A s.heap H locs := by rw [hH, hlo]; exact hS
  refine lv_iconst (v := 0) hx hb dX6_turnedRank_0 (by decide) ?_
  refine lv_istore_n (lv' := [(1, .int (0 : Int32)), (0, .ref a_t)]) hx hb dX6_turnedRank_1 rfl hl (by decide) rfl (fun ls hl => ?_)
  exact K2 FU c_left c_other (0 : Int32) H locs ls hP hD hS (lv_sub hl [1, 0] rfl) hF
abbrev wd_X6_counted (cI : ClassId) (a_t a_z a_history a_text a_left a_other a_smooth a_weights a_signs a_worked : Nat) (c_states : Int32) (c_length : Int32) (c_thrown : Int32) (c_codes : Int32) (c_read : Int32) (c_isOpen : Int32) (c_hash : Int64) (c_left : Nat → Int32) (c_other : Nat → Int32) (c_smooth : Nat → Int32) (c_weights : Nat → Int32) (c_z : Nat → Int32) : va_W := [(a_t, .inr (6, [.ref a_z, .int c_states, .ref a_history, .int c_length, .ref a_text, .int c_thrown, .ref a_left, .ref a_other, .ref a_smooth, .ref a_weights, .int c_codes, .ref a_signs, .int c_read, .int c_isOpen, .ref a_worked, .long c_hash])), (a_left, .inl (cI, 6, .inl c_left)), (a_other, .inl (cI, 11, .inl c_other)), (a_smooth, .inl (cI, 4200, .inl c_smooth)), (a_weights, .inl (cI, 6, .inl c_weights)), (a_z, .inl (cI, 13, .inl c_z))]
def rm_X6_counted : Room := { frames := 6, cells := 0, slots := 0, locals := 132 }
set_option maxHeartbeats 4000000 in
set_option maxRecDepth 100000 in
theorem c_X6_counted (l : Launch) (D : va_G) (cI : ClassId) (a_t a_z a_history a_text a_left a_other a_smooth a_weights a_signs a_worked : Nat) (sz : Nat) (c_states : Int32) (c_length : Int32) (c_thrown : Int32) (c_codes : Int32) (c_read : Int32) (c_isOpen : Int32) (c_hash : Int64) (c_left : Nat → Int32) (c_other : Nat → Int32) (c_smooth : Nat → Int32) (c_weights : Nat → Int32) (c_z : Nat → Int32) (x1 : Int32) (o : Int32 × Int32 × (Nat → Int32) × (Nat → Int32) × (Nat → Int32) × (Nat → Int32)) (hF : F_X6_counted c_states c_codes c_left c_other c_smooth c_weights c_z x1 = some o) : Met l yX6_counted (Cond.code yX6_counted cX6_counted 2 (some .int) :: WL) rm_X6_counted (preM D [(cI, .int)] (wd_X6_counted cI a_t a_z a_history a_text a_left a_other a_smooth a_weights a_signs a_worked c_states c_length c_thrown c_codes c_read c_isOpen c_hash c_left c_other c_smooth c_weights c_z) sz [.ref a_t, .int x1]) (postI D o.1 (wd_X6_counted cI a_t a_z a_history a_text a_left a_other a_smooth a_weights a_signs a_worked c_states c_length c_thrown o.2.1 c_read c_isOpen c_hash o.2.2.1 o.2.2.2.1 o.2.2.2.2.1 o.2.2.2.2.2 c_z) (wd_X6_counted cI a_t a_z a_history a_text a_left a_other a_smooth a_weights a_signs a_worked c_states c_length c_thrown c_codes c_read c_isOpen c_hash c_left c_other c_smooth c_weights c_z) sz) 0 0 (va_A (wd_X6_counted cI a_t a_z a_history a_text a_left a_other a_smooth a_weights a_signs a_worked c_states c_length c_thrown c_codes c_read c_isOpen c_hash c_left c_other c_smooth c_weights c_z) sz) := by
  refine mofI (by decide +kernel) (Nat.le_of_ble_eq_true rfl) ?_
  intro p e s m args below meth c Q A ls hx hb hml hown hts hK hP hD hS hA hG hl hret hsz0
  have hl : lv_has ls 2 [(0, .ref a_t), (1, .int x1)] := hl
  have K85 : ∀ (c_codes : Int32) (c_left : Nat → Int32) (c_other : Nat → Int32) (c_smooth : Nat → Int32) (c_weights : Nat → Int32)  (H : Heap) (locs : List Loc) (ls : Array Slot), va_P D vwCl (wd_X6_counted cI a_t a_z a_history a_text a_left a_other a_smooth a_weights a_signs a_worked c_states c_length c_thrown c_codes c_read c_isOpen c_hash c_left c_other c_smooth c_weights c_z) H → va_D A (wd_X6_counted cI a_t a_z a_history a_text a_left a_other a_smooth a_weights a_signs a_worked c_states c_length c_thrown c_codes c_read c_isOpen c_hash c_left c_other c_smooth c_weights c_z) → va_S A s.heap H locs → lv_has ls 2 [(0, .ref a_t)] → F_X6_counted_J85 c_states c_z x1 c_codes c_left c_other c_smooth c_weights = some o → W p l e rm_X6_counted s m args below meth c H locs 0 0 Q (F0 m 85 ls []) := by
    intro c_codes c_left c_other c_smooth c_weights H locs ls hP hD hS hl hF
    unfold F_X6_counted_J85 at hF
    refine lv_aload_n hx hb dX6_counted_85 rfl (lv_at hl 0 rfl) ?_
    obtain ⟨r86, hr86, hF⟩ := opb hF
    refine kVI (As := []) (rest := []) (ws' := (wd_X6_counted cI a_t a_z a_history a_text a_left a_other a_smooth a_weights a_signs a_worked c_states c_length c_thrown c_codes c_read c_isOpen c_hash r86.2.1 r86.2.2 c_smooth c_weights c_z)) ⟨hx, hb, hml, hown, hts⟩ (c_X6_rankNow l D cI a_t a_z a_history a_text a_left a_other a_smooth a_weights a_signs a_worked H.size c_states c_length c_thrown c_codes c_read c_isOpen c_hash c_left c_other c_z  r86 hr86) (cwV 0 hts mw_X6_97 rfl rfl rfl hd_X6_rankNow ⟨Nat.le_of_ble_eq_true rfl, Nat.le_of_ble_eq_true rfl⟩) hS hA hG hK hP hD [0, 1, 2, 5] rfl rfl rfl rfl rfl ⟨Nat.zero_le _, Nat.zero_le _⟩ 6 0 rfl rfl rfl rfl hl.1 rfl (Nat.le_of_ble_eq_true rfl) dX6_counted_86 (fun H locs hP hD hS => ?_)
    have ho := Option.some.inj hF
    exact hret H locs ls 89 r86.1 _ hP hS (by rw [← ho]) (by rw [← ho]) dX6_counted_89
  have K130 : ∀ (c_codes : Int32) (c_left : Nat → Int32) (c_other : Nat → Int32) (c_smooth : Nat → Int32) (c_weights : Nat → Int32) (v1 : Int32)  (H : Heap) (locs : List Loc) (ls : Array Slot), va_P D vwCl (wd_X6_counted cI a_t a_z a_history a_text a_left a_other a_smooth a_weights a_signs a_worked c_states c_length c_thrown c_codes c_read c_isOpen c_hash c_left c_other c_smooth c_weights c_z) H → va_D A (wd_X6_counted cI a_t a_z a_history a_text a_left a_other a_smooth a_weights a_signs a_worked c_states c_length c_thrown c_codes c_read c_isOpen c_hash c_left c_other c_smooth c_weights c_z) → va_S A s.heap H locs → lv_has ls 2 [] → F_X6_counted_J130 c_states c_z x1 c_codes c_left c_other c_smooth c_weights v1 = some o → W p l e rm_X6_counted s m args below meth c H locs 0 0 Q (F0 m 130 ls [.int v1, .ref a_t]) := by
    intro c_codes c_left c_other c_smooth c_weights v1 H locs ls hP hD hS hl hF
    unfold F_X6_counted_J130 at hF
    obtain ⟨r130, hr130, hF⟩ := opb hF
    refine kVI (As := [.int v1]) (rest := []) (ws' := (wd_X6_counted cI a_t a_z a_history a_text a_left a_other a_smooth a_weights a_signs a_worked c_states c_length c_thrown c_codes c_read c_isOpen c_hash c_left c_other c_smooth c_weights c_z)) ⟨hx, hb, hml, hown, hts⟩ (c_X6_descents l D cI a_t a_z a_history a_text a_left a_other a_smooth a_weights a_signs a_worked H.size c_states c_length c_thrown c_codes c_read c_isOpen c_hash c_z v1 r130 hr130) (cwV 1 hts mw_X6_174 rfl rfl rfl hd_X6_descents ⟨Nat.le_of_ble_eq_true rfl, Nat.le_of_ble_eq_true rfl⟩) hS hA hG hK hP hD [0, 5] rfl rfl rfl rfl rfl ⟨Nat.zero_le _, Nat.zero_le _⟩ 6 0 rfl rfl rfl rfl hl.1 rfl (Nat.le_of_ble_eq_true rfl) dX6_counted_130 (fun H locs hP hD hS => ?_)
    have ho := Option.some.inj hF
    exact hret H locs ls 133 r130 _ hP hS (by rw [← ho]) (by rw [← ho]) dX6_counted_133
  have K118 : ∀ (c_codes : Int32) (c_left : Nat → Int32) (c_other : Nat → Int32) (c_smooth : Nat → Int32) (c_weights : Nat → Int32)  (H : Heap) (locs : List Loc) (ls : Array Slot), va_P D vwCl (wd_X6_counted cI a_t a_z a_history a_text a_left a_other a_smooth a_weights a_signs a_worked c_states c_length c_thrown c_codes c_read c_isOpen c_hash c_left c_other c_smooth c_weights c_z) H → va_D A (wd_X6_counted cI a_t a_z a_history a_text a_left a_other a_smooth a_weights a_signs a_worked c_states c_length c_thrown c_codes c_read c_isOpen c_hash c_left c_other c_smooth c_weights c_z) → va_S A s.heap H locs → lv_has ls 2 [(0, .ref a_t), (1, .int x1)] → F_X6_counted_J118 c_states c_z x1 c_codes c_left c_other c_smooth c_weights = some o → W p l e rm_X6_counted s m args below meth c H locs 0 0 Q (F0 m 118 ls []) := by
    intro c_codes c_left c_other c_smooth c_weights H locs ls hP hD hS hl hF
    unfold F_X6_counted_J118 at hF
    refine lv_aload_n hx hb dX6_counted_118 rfl (lv_at hl 0 rfl) ?_
    refine lv_iload_n hx hb dX6_counted_119 rfl (lv_at hl 1 rfl) ?_
    refine lv_bipush (v := 9) hx hb dX6_counted_120 (by decide) ?_
    refine lv_icmp_ne (tgt := 129) hx hb dX6_counted_122 (by decide) (fun k122 => ?_) (fun k122 => ?_)
    · (try simp only [if_neg k122] at hF)
      refine lv_iconst (v := 0) hx hb dX6_counted_129 (by decide) ?_
      exact K130 c_codes c_left c_other c_smooth c_weights (0 : Int32) H locs ls hP hD hS (lv_sub hl [] rfl) hF
    · (try simp only [if_pos k122] at hF)
      refine lv_iconst (v := 1) hx hb dX6_counted_125 (by decide) ?_
      refine lv_goto (tgt := 130) hx hb dX6_counted_126 (by decide) ?_
      exact K130 c_codes c_left c_other c_smooth c_weights (1 : Int32) H locs ls hP hD hS (lv_sub hl [] rfl) hF
  unfold F_X6_counted at hF
  have hP : va_P D vwCl (wd_X6_counted cI a_t a_z a_history a_text a_left a_other a_smooth a_weights a_signs a_worked c_states c_length c_thrown c_codes c_read c_isOpen c_hash c_left c_other c_smooth c_weights c_z) s.heap := hP
  obtain ⟨H, hH⟩ : ∃ H, H = s.heap := ⟨_, rfl⟩
  rw [← hH]
  rw [← hH] at hP
  obtain ⟨locs, hlo⟩ : ∃ z : List Loc, z = [] := ⟨_, rfl⟩
  rw [← hlo]
  have hS : va_S A s.heap H locs := by rw [hH, hlo]; exact hS
  refine lv_iload_n hx hb dX6_counted_0 rfl (lv_at hl 1 rfl) ?_
  by_cases k1_0 : x1 = 0
  · refine lv_tableIn (tgt := 68) (off := 67) hx hb dX6_counted_1 (by rw [k1_0]; decide) (by rw [k1_0]; decide) (by rw [k1_0]; decide) (by decide) ?_
    replace hF := (if_pos k1_0).symm.trans hF
    refine lv_aload_n hx hb dX6_counted_68 rfl (lv_at hl 0 rfl) ?_
    refine get_X6_7 hx hb hts hown hK hP 0 rfl rfl dX6_counted_69 ?_
    refine lv_iconst (v := 0) hx hb dX6_counted_72 (by decide) ?_
    obtain ⟨g73, hF⟩ := gdb hF
    refine va_iald hx hb hK hP 5 0 rfl rfl (vinb g73) dX6_counted_73 ?_
    have ho := Option.some.inj hF
    exact hret H locs ls 74 (c_z ((0 : Int32)).toNatClampNeg) _ hP hS (by rw [← ho]) (by rw [← ho]) dX6_counted_74
  replace hF := (if_neg k1_0).symm.trans hF
  by_cases k1_1 : x1 = 1
  · refine lv_tableIn (tgt := 75) (off := 74) hx hb dX6_counted_1 (by rw [k1_1]; decide) (by rw [k1_1]; decide) (by rw [k1_1]; decide) (by decide) ?_
    replace hF := (if_pos k1_1).symm.trans hF
    refine lv_aload_n hx hb dX6_counted_75 rfl (lv_at hl 0 rfl) ?_
    obtain ⟨r76, hr76, hF⟩ := opb hF
    refine kVI (As := []) (rest := []) (ws' := (wd_X6_counted cI a_t a_z a_history a_text a_left a_other a_smooth a_weights a_signs a_worked c_states c_length c_thrown c_codes c_read c_isOpen c_hash r76.2 c_other c_smooth c_weights c_z)) ⟨hx, hb, hml, hown, hts⟩ (c_X6_unlike l D cI a_t a_z a_history a_text a_left a_other a_smooth a_weights a_signs a_worked H.size c_states c_length c_thrown c_codes c_read c_isOpen c_hash c_left c_z  r76 hr76) (cwV 0 hts mw_X6_168 rfl rfl rfl hd_X6_unlike ⟨Nat.le_of_ble_eq_true rfl, Nat.le_of_ble_eq_true rfl⟩) hS hA hG hK hP hD [0, 1, 5] rfl rfl rfl rfl rfl ⟨Nat.zero_le _, Nat.zero_le _⟩ 6 0 rfl rfl rfl rfl hl.1 rfl (Nat.le_of_ble_eq_true rfl) dX6_counted_76 (fun H locs hP hD hS => ?_)
    have ho := Option.some.inj hF
    exact hret H locs ls 79 r76.1 _ hP hS (by rw [← ho]) (by rw [← ho]) dX6_counted_79
  replace hF := (if_neg k1_1).symm.trans hF
  by_cases k1_2 : x1 = 2
  · refine lv_tableIn (tgt := 80) (off := 79) hx hb dX6_counted_1 (by rw [k1_2]; decide) (by rw [k1_2]; decide) (by rw [k1_2]; decide) (by decide) ?_
    replace hF := (if_pos k1_2).symm.trans hF
    refine lv_aload_n hx hb dX6_counted_80 rfl (lv_at hl 0 rfl) ?_
    obtain ⟨r81, hr81, hF⟩ := opb hF
    refine kVI (As := []) (rest := []) (ws' := (wd_X6_counted cI a_t a_z a_history a_text a_left a_other a_smooth a_weights a_signs a_worked c_states c_length c_thrown c_codes c_read c_isOpen c_hash r81.2 c_other c_smooth c_weights c_z)) ⟨hx, hb, hml, hown, hts⟩ (c_X6_allRows l D cI a_t a_z a_history a_text a_left a_other a_smooth a_weights a_signs a_worked H.size c_states c_length c_thrown c_codes c_read c_isOpen c_hash c_left c_z  r81 hr81) (cwV 0 hts mw_X6_71 rfl rfl rfl hd_X6_allRows ⟨Nat.le_of_ble_eq_true rfl, Nat.le_of_ble_eq_true rfl⟩) hS hA hG hK hP hD [0, 1, 5] rfl rfl rfl rfl rfl ⟨Nat.zero_le _, Nat.zero_le _⟩ 6 0 rfl rfl rfl rfl hl.1 rfl (Nat.le_of_ble_eq_true rfl) dX6_counted_81 (fun H locs hP hD hS => ?_)
    have ho := Option.some.inj hF
    exact hret H locs ls 84 r81.1 _ hP hS (by rw [← ho]) (by rw [← ho]) dX6_counted_84
  replace hF := (if_neg k1_2).symm.trans hF
  by_cases k1_3 : x1 = 3
  · refine lv_tableIn (tgt := 85) (off := 84) hx hb dX6_counted_1 (by rw [k1_3]; decide) (by rw [k1_3]; decide) (by rw [k1_3]; decide) (by decide) ?_
    replace hF := (if_pos k1_3).symm.trans hF
    exact K85 c_codes c_left c_other c_smooth c_weights H locs ls hP hD hS (lv_sub hl [0] rfl) hF
  replace hF := (if_neg k1_3).symm.trans hF
  by_cases k1_4 : x1 = 4
  · refine lv_tableIn (tgt := 90) (off := 89) hx hb dX6_counted_1 (by rw [k1_4]; decide) (by rw [k1_4]; decide) (by rw [k1_4]; decide) (by decide) ?_
    replace hF := (if_pos k1_4).symm.trans hF
    refine lv_aload_n hx hb dX6_counted_90 rfl (lv_at hl 0 rfl) ?_
    obtain ⟨r91, hr91, hF⟩ := opb hF
    refine kVI (As := []) (rest := []) (ws' := (wd_X6_counted cI a_t a_z a_history a_text a_left a_other a_smooth a_weights a_signs a_worked c_states c_length c_thrown r91.2.1 c_read c_isOpen c_hash r91.2.2.1 c_other r91.2.2.2.1 r91.2.2.2.2 c_z)) ⟨hx, hb, hml, hown, hts⟩ (c_X6_allSmooth l D cI a_t a_z a_history a_text a_left a_other a_smooth a_weights a_signs a_worked H.size c_states c_length c_thrown c_codes c_read c_isOpen c_hash c_left c_smooth c_weights c_z  r91 hr91) (cwV 0 hts mw_X6_120 rfl rfl rfl hd_X6_allSmooth ⟨Nat.le_of_ble_eq_true rfl, Nat.le_of_ble_eq_true rfl⟩) hS hA hG hK hP hD [0, 1, 3, 4, 5] rfl rfl rfl rfl rfl ⟨Nat.zero_le _, Nat.zero_le _⟩ 6 0 rfl rfl rfl rfl hl.1 rfl (Nat.le_of_ble_eq_true rfl) dX6_counted_91 (fun H locs hP hD hS => ?_)
    have ho := Option.some.inj hF
    exact hret H locs ls 94 r91.1 _ hP hS (by rw [← ho]) (by rw [← ho]) dX6_counted_94
  replace hF := (if_neg k1_4).symm.trans hF
  by_cases k1_5 : x1 = 5
  · refine lv_tableIn (tgt := 95) (off := 94) hx hb dX6_counted_1 (by rw [k1_5]; decide) (by rw [k1_5]; decide) (by rw [k1_5]; decide) (by decide) ?_
    replace hF := (if_pos k1_5).symm.trans hF
    refine lv_aload_n hx hb dX6_counted_95 rfl (lv_at hl 0 rfl) ?_
    obtain ⟨r96, hr96, hF⟩ := opb hF
    refine kVI (As := []) (rest := []) (ws' := (wd_X6_counted cI a_t a_z a_history a_text a_left a_other a_smooth a_weights a_signs a_worked c_states c_length c_thrown r96.2.1 c_read c_isOpen c_hash r96.2.2.1 c_other r96.2.2.2.1 r96.2.2.2.2 c_z)) ⟨hx, hb, hml, hown, hts⟩ (c_X6_smoothRank l D cI a_t a_z a_history a_text a_left a_other a_smooth a_weights a_signs a_worked H.size c_states c_length c_thrown c_codes c_read c_isOpen c_hash c_left c_smooth c_weights c_z  r96 hr96) (cwV 0 hts mw_X6_113 rfl rfl rfl hd_X6_smoothRank ⟨Nat.le_of_ble_eq_true rfl, Nat.le_of_ble_eq_true rfl⟩) hS hA hG hK hP hD [0, 1, 3, 4, 5] rfl rfl rfl rfl rfl ⟨Nat.zero_le _, Nat.zero_le _⟩ 6 0 rfl rfl rfl rfl hl.1 rfl (Nat.le_of_ble_eq_true rfl) dX6_counted_96 (fun H locs hP hD hS => ?_)
    have ho := Option.some.inj hF
    exact hret H locs ls 99 r96.1 _ hP hS (by rw [← ho]) (by rw [← ho]) dX6_counted_99
  replace hF := (if_neg k1_5).symm.trans hF
  by_cases k1_6 : x1 = 6
  · refine lv_tableIn (tgt := 100) (off := 99) hx hb dX6_counted_1 (by rw [k1_6]; decide) (by rw [k1_6]; decide) (by rw [k1_6]; decide) (by decide) ?_
    replace hF := (if_pos k1_6).symm.trans hF
    refine lv_aload_n hx hb dX6_counted_100 rfl (lv_at hl 0 rfl) ?_
    obtain ⟨r101, hr101, hF⟩ := opb hF
    refine kVI (As := []) (rest := []) (ws' := (wd_X6_counted cI a_t a_z a_history a_text a_left a_other a_smooth a_weights a_signs a_worked c_states c_length c_thrown r101.2.1 c_read c_isOpen c_hash r101.2.2.1 c_other r101.2.2.2.1 r101.2.2.2.2 c_z)) ⟨hx, hb, hml, hown, hts⟩ (c_X6_isSmooth l D cI a_t a_z a_history a_text a_left a_other a_smooth a_weights a_signs a_worked H.size c_states c_length c_thrown c_codes c_read c_isOpen c_hash c_left c_smooth c_weights c_z  r101 hr101) (cwV 0 hts mw_X6_116 rfl rfl rfl hd_X6_isSmooth ⟨Nat.le_of_ble_eq_true rfl, Nat.le_of_ble_eq_true rfl⟩) hS hA hG hK hP hD [0, 1, 3, 4, 5] rfl rfl rfl rfl rfl ⟨Nat.zero_le _, Nat.zero_le _⟩ 6 0 rfl rfl rfl rfl hl.1 rfl (Nat.le_of_ble_eq_true rfl) dX6_counted_101 (fun H locs hP hD hS => ?_)
    refine lv_if_eq (tgt := 111) hx hb dX6_counted_104 (by decide) (fun k104 => ?_) (fun k104 => ?_)
    · (try simp only [if_pos k104] at hF)
      refine lv_iconst (v := 0) hx hb dX6_counted_111 (by decide) ?_
      have ho := Option.some.inj hF
      exact hret H locs ls 112 (0 : Int32) _ hP hS (by rw [← ho]) (by rw [← ho]) dX6_counted_112
    · (try simp only [if_neg k104] at hF)
      refine lv_iconst (v := 1) hx hb dX6_counted_107 (by decide) ?_
      refine lv_goto (tgt := 112) hx hb dX6_counted_108 (by decide) ?_
      have ho := Option.some.inj hF
      exact hret H locs ls 112 (1 : Int32) _ hP hS (by rw [← ho]) (by rw [← ho]) dX6_counted_112
  replace hF := (if_neg k1_6).symm.trans hF
  by_cases k1_7 : x1 = 7
  · refine lv_tableIn (tgt := 113) (off := 112) hx hb dX6_counted_1 (by rw [k1_7]; decide) (by rw [k1_7]; decide) (by rw [k1_7]; decide) (by decide) ?_
    replace hF := (if_pos k1_7).symm.trans hF
    refine lv_aload_n hx hb dX6_counted_113 rfl (lv_at hl 0 rfl) ?_
    obtain ⟨r114, hr114, hF⟩ := opb hF
    refine kVI (As := []) (rest := []) (ws' := (wd_X6_counted cI a_t a_z a_history a_text a_left a_other a_smooth a_weights a_signs a_worked c_states c_length c_thrown c_codes c_read c_isOpen c_hash c_left c_other c_smooth c_weights c_z)) ⟨hx, hb, hml, hown, hts⟩ (c_X6_inversions l D cI a_t a_z a_history a_text a_left a_other a_smooth a_weights a_signs a_worked H.size c_states c_length c_thrown c_codes c_read c_isOpen c_hash c_z  r114 hr114) (cwV 0 hts mw_X6_171 rfl rfl rfl hd_X6_inversions ⟨Nat.le_of_ble_eq_true rfl, Nat.le_of_ble_eq_true rfl⟩) hS hA hG hK hP hD [0, 5] rfl rfl rfl rfl rfl ⟨Nat.zero_le _, Nat.zero_le _⟩ 6 0 rfl rfl rfl rfl hl.1 rfl (Nat.le_of_ble_eq_true rfl) dX6_counted_114 (fun H locs hP hD hS => ?_)
    have ho := Option.some.inj hF
    exact hret H locs ls 117 r114 _ hP hS (by rw [← ho]) (by rw [← ho]) dX6_counted_117
  replace hF := (if_neg k1_7).symm.trans hF
  by_cases k1_8 : x1 = 8
  · refine lv_tableIn (tgt := 118) (off := 117) hx hb dX6_counted_1 (by rw [k1_8]; decide) (by rw [k1_8]; decide) (by rw [k1_8]; decide) (by decide) ?_
    replace hF := (if_pos k1_8).symm.trans hF
    exact K118 c_codes c_left c_other c_smooth c_weights H locs ls hP hD hS (lv_sub hl [0, 1] rfl) hF
  replace hF := (if_neg k1_8).symm.trans hF
  by_cases k1_9 : x1 = 9
  · refine lv_tableIn (tgt := 118) (off := 117) hx hb dX6_counted_1 (by rw [k1_9]; decide) (by rw [k1_9]; decide) (by rw [k1_9]; decide) (by decide) ?_
    replace hF := (if_pos k1_9).symm.trans hF
    exact K118 c_codes c_left c_other c_smooth c_weights H locs ls hP hD hS (lv_sub hl [0, 1] rfl) hF
  replace hF := (if_neg k1_9).symm.trans hF
  by_cases k1_10 : x1 = 10
  · refine lv_tableIn (tgt := 134) (off := 133) hx hb dX6_counted_1 (by rw [k1_10]; decide) (by rw [k1_10]; decide) (by rw [k1_10]; decide) (by decide) ?_
    replace hF := (if_pos k1_10).symm.trans hF
    refine lv_aload_n hx hb dX6_counted_134 rfl (lv_at hl 0 rfl) ?_
    obtain ⟨r135, hr135, hF⟩ := opb hF
    refine kVI (As := []) (rest := []) (ws' := (wd_X6_counted cI a_t a_z a_history a_text a_left a_other a_smooth a_weights a_signs a_worked c_states c_length c_thrown c_codes c_read c_isOpen c_hash r135.2.1 r135.2.2 c_smooth c_weights c_z)) ⟨hx, hb, hml, hown, hts⟩ (c_X6_turnedRank l D cI a_t a_z a_history a_text a_left a_other a_smooth a_weights a_signs a_worked H.size c_states c_length c_thrown c_codes c_read c_isOpen c_hash c_left c_other c_z  r135 hr135) (cwV 0 hts mw_X6_178 rfl rfl rfl hd_X6_turnedRank ⟨Nat.le_of_ble_eq_true rfl, Nat.le_of_ble_eq_true rfl⟩) hS hA hG hK hP hD [0, 1, 2, 5] rfl rfl rfl rfl rfl ⟨Nat.zero_le _, Nat.zero_le _⟩ 6 0 rfl rfl rfl rfl hl.1 rfl (Nat.le_of_ble_eq_true rfl) dX6_counted_135 (fun H locs hP hD hS => ?_)
    have ho := Option.some.inj hF
    exact hret H locs ls 138 r135.1 _ hP hS (by rw [← ho]) (by rw [← ho]) dX6_counted_138
  replace hF := (if_neg k1_10).symm.trans hF
  by_cases k1_11 : x1 = 11
  · refine lv_tableIn (tgt := 85) (off := 84) hx hb dX6_counted_1 (by rw [k1_11]; decide) (by rw [k1_11]; decide) (by rw [k1_11]; decide) (by decide) ?_
    replace hF := (if_pos k1_11).symm.trans hF
    exact K85 c_codes c_left c_other c_smooth c_weights H locs ls hP hD hS (lv_sub hl [0] rfl) hF
  replace hF := (if_neg k1_11).symm.trans hF
  by_cases k1_12 : x1 = 12
  · refine lv_tableIn (tgt := 139) (off := 138) hx hb dX6_counted_1 (by rw [k1_12]; decide) (by rw [k1_12]; decide) (by rw [k1_12]; decide) (by decide) ?_
    replace hF := (if_pos k1_12).symm.trans hF
    refine lv_aload_n hx hb dX6_counted_139 rfl (lv_at hl 0 rfl) ?_
    refine get_X6_7 hx hb hts hown hK hP 0 rfl rfl dX6_counted_140 ?_
    refine lv_iconst (v := 1) hx hb dX6_counted_143 (by decide) ?_
    obtain ⟨g144, hF⟩ := gdb hF
    refine va_iald hx hb hK hP 5 0 rfl rfl (vinb g144) dX6_counted_144 ?_
    have ho := Option.some.inj hF
    exact hret H locs ls 145 (c_z ((1 : Int32)).toNatClampNeg) _ hP hS (by rw [← ho]) (by rw [← ho]) dX6_counted_145
  replace hF := (if_neg k1_12).symm.trans hF
  refine lv_tableOut (tgt := 146) hx hb dX6_counted_1 (tblo 13 (fun i hi => by rcases (show i = 0 ∨ i = 1 ∨ i = 2 ∨ i = 3 ∨ i = 4 ∨ i = 5 ∨ i = 6 ∨ i = 7 ∨ i = 8 ∨ i = 9 ∨ i = 10 ∨ i = 11 ∨ i = 12 by omega) with rfl | rfl | rfl | rfl | rfl | rfl | rfl | rfl | rfl | rfl | rfl | rfl | rfl <;> assumption)) (by decide) ?_
  refine lv_aload_n hx hb dX6_counted_146 rfl (lv_at hl 0 rfl) ?_
  refine get_X6_41 hx hb hts hown hK hP 0 rfl rfl dX6_counted_147 ?_
  have ho := Option.some.inj hF
  exact hret H locs ls 150 c_states _ hP hS (by rw [← ho]) (by rw [← ho]) dX6_counted_150
abbrev wd_X6_count (cI : ClassId) (a_t a_z a_history a_text a_left a_other a_smooth a_weights a_signs a_worked : Nat) (c_states : Int32) (c_length : Int32) (c_thrown : Int32) (c_codes : Int32) (c_read : Int32) (c_isOpen : Int32) (c_hash : Int64) (c_left : Nat → Int32) (c_other : Nat → Int32) (c_smooth : Nat → Int32) (c_weights : Nat → Int32) (c_z : Nat → Int32) : va_W := [(a_t, .inr (6, [.ref a_z, .int c_states, .ref a_history, .int c_length, .ref a_text, .int c_thrown, .ref a_left, .ref a_other, .ref a_smooth, .ref a_weights, .int c_codes, .ref a_signs, .int c_read, .int c_isOpen, .ref a_worked, .long c_hash])), (a_left, .inl (cI, 6, .inl c_left)), (a_other, .inl (cI, 11, .inl c_other)), (a_smooth, .inl (cI, 4200, .inl c_smooth)), (a_weights, .inl (cI, 6, .inl c_weights)), (a_z, .inl (cI, 13, .inl c_z))]
def rm_X6_count : Room := { frames := 7, cells := 0, slots := 0, locals := 153 }
set_option maxHeartbeats 4000000 in
set_option maxRecDepth 100000 in
theorem c_X6_count (l : Launch) (D : va_G) (cI : ClassId) (a_t a_z a_history a_text a_left a_other a_smooth a_weights a_signs a_worked : Nat) (sz : Nat) (c_states : Int32) (c_length : Int32) (c_thrown : Int32) (c_codes : Int32) (c_read : Int32) (c_isOpen : Int32) (c_hash : Int64) (c_left : Nat → Int32) (c_other : Nat → Int32) (c_smooth : Nat → Int32) (c_weights : Nat → Int32) (c_z : Nat → Int32) (x1 : Int32) (o : Int32 × Int32 × Int32 × (Nat → Int32) × (Nat → Int32) × (Nat → Int32) × (Nat → Int32)) (hF : F_X6_count c_states c_thrown c_codes c_left c_other c_smooth c_weights c_z x1 = some o) : Met l yX6_count (Cond.code yX6_count cX6_count 2 (some .int) :: WL) rm_X6_count (preM D [(cI, .int)] (wd_X6_count cI a_t a_z a_history a_text a_left a_other a_smooth a_weights a_signs a_worked c_states c_length c_thrown c_codes c_read c_isOpen c_hash c_left c_other c_smooth c_weights c_z) sz [.ref a_t, .int x1]) (postI D o.1 (wd_X6_count cI a_t a_z a_history a_text a_left a_other a_smooth a_weights a_signs a_worked c_states c_length o.2.1 o.2.2.1 c_read c_isOpen c_hash o.2.2.2.1 o.2.2.2.2.1 o.2.2.2.2.2.1 o.2.2.2.2.2.2 c_z) (wd_X6_count cI a_t a_z a_history a_text a_left a_other a_smooth a_weights a_signs a_worked c_states c_length c_thrown c_codes c_read c_isOpen c_hash c_left c_other c_smooth c_weights c_z) sz) 0 0 (va_A (wd_X6_count cI a_t a_z a_history a_text a_left a_other a_smooth a_weights a_signs a_worked c_states c_length c_thrown c_codes c_read c_isOpen c_hash c_left c_other c_smooth c_weights c_z) sz) := by
  refine mofI (by decide +kernel) (Nat.le_of_ble_eq_true rfl) ?_
  intro p e s m args below meth c Q A ls hx hb hml hown hts hK hP hD hS hA hG hl hret hsz0
  have hl : lv_has ls 2 [(0, .ref a_t), (1, .int x1)] := hl
  have K16 : ∀ (c_thrown : Int32) (c_codes : Int32) (c_left : Nat → Int32) (c_other : Nat → Int32) (c_smooth : Nat → Int32) (c_weights : Nat → Int32) (v1 : Int32)  (H : Heap) (locs : List Loc) (ls : Array Slot), va_P D vwCl (wd_X6_count cI a_t a_z a_history a_text a_left a_other a_smooth a_weights a_signs a_worked c_states c_length c_thrown c_codes c_read c_isOpen c_hash c_left c_other c_smooth c_weights c_z) H → va_D A (wd_X6_count cI a_t a_z a_history a_text a_left a_other a_smooth a_weights a_signs a_worked c_states c_length c_thrown c_codes c_read c_isOpen c_hash c_left c_other c_smooth c_weights c_z) → va_S A s.heap H locs → lv_has ls 2 [(0, .ref a_t), (1, .int x1)] → F_X6_count_J16 c_states c_z x1 c_thrown c_codes c_left c_other c_smooth c_weights v1 = some o → W p l e rm_X6_count s m args below meth c H locs 0 0 Q (F0 m 16 ls [.int v1, .ref a_t]) := by
    intro c_thrown c_codes c_left c_other c_smooth c_weights v1 H locs ls hP hD hS hl hF
    unfold F_X6_count_J16 at hF
    refine put_X6_37 hx hb hts hown hK hP hD hS 0 rfl rfl rfl (Nat.le_of_ble_eq_true rfl) dX6_count_16 (fun H locs hP hD hS => ?_)
    have hP : va_P D vwCl (wd_X6_count cI a_t a_z a_history a_text a_left a_other a_smooth a_weights a_signs a_worked c_states c_length v1 c_codes c_read c_isOpen c_hash c_left c_other c_smooth c_weights c_z) H := hP
    have hD : va_D A (wd_X6_count cI a_t a_z a_history a_text a_left a_other a_smooth a_weights a_signs a_worked c_states c_length v1 c_codes c_read c_isOpen c_hash c_left c_other c_smooth c_weights c_z) := hD
    refine lv_aload_n hx hb dX6_count_19 rfl (lv_at hl 0 rfl) ?_
    refine get_X6_37 hx hb hts hown hK hP 0 rfl rfl dX6_count_20 ?_
    refine lv_if_le (tgt := 30) hx hb dX6_count_23 (by decide) (fun k23 => ?_) (fun k23 => ?_)
    · replace hF := (if_pos k23).symm.trans hF
      refine lv_aload_n hx hb dX6_count_30 rfl (lv_at hl 0 rfl) ?_
      refine lv_iload_n hx hb dX6_count_31 rfl (lv_at hl 1 rfl) ?_
      obtain ⟨r32, hr32, hF⟩ := opb hF
      refine kVI (As := [.int x1]) (rest := []) (ws' := (wd_X6_count cI a_t a_z a_history a_text a_left a_other a_smooth a_weights a_signs a_worked c_states c_length v1 r32.2.1 c_read c_isOpen c_hash r32.2.2.1 r32.2.2.2.1 r32.2.2.2.2.1 r32.2.2.2.2.2 c_z)) ⟨hx, hb, hml, hown, hts⟩ (c_X6_counted l D cI a_t a_z a_history a_text a_left a_other a_smooth a_weights a_signs a_worked H.size c_states c_length v1 c_codes c_read c_isOpen c_hash c_left c_other c_smooth c_weights c_z x1 r32 hr32) (cwV 1 hts mw_X6_181 rfl rfl rfl hd_X6_counted ⟨Nat.le_of_ble_eq_true rfl, Nat.le_of_ble_eq_true rfl⟩) hS hA hG hK hP hD [0, 1, 2, 3, 4, 5] rfl rfl rfl rfl rfl ⟨Nat.zero_le _, Nat.zero_le _⟩ 6 0 rfl rfl rfl rfl hl.1 rfl (Nat.le_of_ble_eq_true rfl) dX6_count_32 (fun H locs hP hD hS => ?_)
      have ho := Option.some.inj hF
      exact hret H locs ls 35 r32.1 _ hP hS (by rw [← ho]) (by rw [← ho]) dX6_count_35
    · replace hF := (if_neg k23).symm.trans hF
      refine lv_iconst (v := 0) hx hb dX6_count_26 (by decide) ?_
      refine lv_goto (tgt := 35) hx hb dX6_count_27 (by decide) ?_
      have ho := Option.some.inj hF
      exact hret H locs ls 35 (0 : Int32) _ hP hS (by rw [← ho]) (by rw [← ho]) dX6_count_35
  unfold F_X6_count at hF
  have hP : va_P D vwCl (wd_X6_count cI a_t a_z a_history a_text a_left a_other a_smooth a_weights a_signs a_worked c_states c_length c_thrown c_codes c_read c_isOpen c_hash c_left c_other c_smooth c_weights c_z) s.heap := hP
  obtain ⟨H, hH⟩ : ∃ H, H = s.heap := ⟨_, rfl⟩
  rw [← hH]
  rw [← hH] at hP
  obtain ⟨locs, hlo⟩ : ∃ z : List Loc, z = [] := ⟨_, rfl⟩
  rw [← hlo]
  have hS : va_S A s.heap H locs := by rw [hH, hlo]; exact hS
  refine lv_aload_n hx hb dX6_count_0 rfl (lv_at hl 0 rfl) ?_
  refine lv_iload_n hx hb dX6_count_1 rfl (lv_at hl 1 rfl) ?_
  refine lv_iconst (v := 0) hx hb dX6_count_2 (by decide) ?_
  refine lv_bipush (v := 13) hx hb dX6_count_3 (by decide) ?_
  obtain ⟨r5, hr5, hF⟩ := opb hF
  refine kSI (As := [.int x1, .int (0 : Int32), .int (13 : Int32)]) (rest := [.ref a_t]) (ws' := (wd_X6_count cI a_t a_z a_history a_text a_left a_other a_smooth a_weights a_signs a_worked c_states c_length c_thrown c_codes c_read c_isOpen c_hash c_left c_other c_smooth c_weights c_z)) ⟨hx, hb, hml, hown, hts⟩ (c_X6_within l D cI  H.size  x1 (0 : Int32) (13 : Int32) r5 hr5) (va_cwS 3 hts mw_X6_44 rfl rfl rfl hd_X6_within ⟨Nat.le_of_ble_eq_true rfl, Nat.le_of_ble_eq_true rfl⟩) hS hA hG hK hP hD [] rfl rfl rfl rfl rfl ⟨Nat.zero_le _, Nat.zero_le _⟩ rfl hl.1 rfl (Nat.le_of_ble_eq_true rfl) dX6_count_5 (fun H locs hP hD hS => ?_)
  refine lv_if_eq (tgt := 15) hx hb dX6_count_8 (by decide) (fun k8 => ?_) (fun k8 => ?_)
  · (try simp only [if_pos k8] at hF)
    refine lv_iconst (v := 1) hx hb dX6_count_15 (by decide) ?_
    exact K16 c_thrown c_codes c_left c_other c_smooth c_weights (1 : Int32) H locs ls hP hD hS (lv_sub hl [0, 1] rfl) hF
  · (try simp only [if_neg k8] at hF)
    refine lv_iconst (v := 0) hx hb dX6_count_11 (by decide) ?_
    refine lv_goto (tgt := 16) hx hb dX6_count_12 (by decide) ?_
    exact K16 c_thrown c_codes c_left c_other c_smooth c_weights (0 : Int32) H locs ls hP hD hS (lv_sub hl [0, 1] rfl) hF
abbrev wd_X6_swappedRank (cI : ClassId) (a_t a_z a_history a_text a_left a_other a_smooth a_weights a_signs a_worked : Nat) (c_states : Int32) (c_length : Int32) (c_thrown : Int32) (c_codes : Int32) (c_read : Int32) (c_isOpen : Int32) (c_hash : Int64) (c_left : Nat → Int32) (c_other : Nat → Int32) (c_z : Nat → Int32) : va_W := [(a_t, .inr (6, [.ref a_z, .int c_states, .ref a_history, .int c_length, .ref a_text, .int c_thrown, .ref a_left, .ref a_other, .ref a_smooth, .ref a_weights, .int c_codes, .ref a_signs, .int c_read, .int c_isOpen, .ref a_worked, .long c_hash])), (a_left, .inl (cI, 6, .inl c_left)), (a_other, .inl (cI, 11, .inl c_other)), (a_z, .inl (cI, 13, .inl c_z))]
def rm_X6_swappedRank : Room := { frames := 5, cells := 0, slots := 0, locals := 111 }
set_option maxHeartbeats 4000000 in
set_option maxRecDepth 100000 in
theorem c_X6_swappedRank (l : Launch) (D : va_G) (cI : ClassId) (a_t a_z a_history a_text a_left a_other a_smooth a_weights a_signs a_worked : Nat) (sz : Nat) (c_states : Int32) (c_length : Int32) (c_thrown : Int32) (c_codes : Int32) (c_read : Int32) (c_isOpen : Int32) (c_hash : Int64) (c_left : Nat → Int32) (c_other : Nat → Int32) (c_z : Nat → Int32) (x1 : Int32) (x2 : Int32) (o : Int32 × (Nat → Int32) × (Nat → Int32)) (hF : F_X6_swappedRank c_left c_other c_z x1 x2 = some o) : Met l yX6_swappedRank (Cond.code yX6_swappedRank cX6_swappedRank 3 (some .int) :: WL) rm_X6_swappedRank (preM D [(cI, .int)] (wd_X6_swappedRank cI a_t a_z a_history a_text a_left a_other a_smooth a_weights a_signs a_worked c_states c_length c_thrown c_codes c_read c_isOpen c_hash c_left c_other c_z) sz [.ref a_t, .int x1, .int x2]) (postI D o.1 (wd_X6_swappedRank cI a_t a_z a_history a_text a_left a_other a_smooth a_weights a_signs a_worked c_states c_length c_thrown c_codes c_read c_isOpen c_hash o.2.1 o.2.2 c_z) (wd_X6_swappedRank cI a_t a_z a_history a_text a_left a_other a_smooth a_weights a_signs a_worked c_states c_length c_thrown c_codes c_read c_isOpen c_hash c_left c_other c_z) sz) 0 0 (va_A (wd_X6_swappedRank cI a_t a_z a_history a_text a_left a_other a_smooth a_weights a_signs a_worked c_states c_length c_thrown c_codes c_read c_isOpen c_hash c_left c_other c_z) sz) := by
  refine mofI (by decide +kernel) (Nat.le_of_ble_eq_true rfl) ?_
  intro p e s m args below meth c Q A ls hx hb hml hown hts hK hP hD hS hA hG hl hret hsz0
  have hl : lv_has ls 3 [(0, .ref a_t), (1, .int x1), (2, .int x2)] := hl
  unfold F_X6_swappedRank at hF
  have hP : va_P D vwCl (wd_X6_swappedRank cI a_t a_z a_history a_text a_left a_other a_smooth a_weights a_signs a_worked c_states c_length c_thrown c_codes c_read c_isOpen c_hash c_left c_other c_z) s.heap := hP
  obtain ⟨H, hH⟩ : ∃ H, H = s.heap := ⟨_, rfl⟩
  rw [← hH]
  rw [← hH] at hP
  obtain ⟨locs, hlo⟩ : ∃ z : List Loc, z = [] := ⟨_, rfl⟩
  rw [← hlo]
  have hS : va_S A s.heap H locs := by rw [hH, hlo]; exact hS
  refine lv_aload_n hx hb dX6_swappedRank_0 rfl (lv_at hl 0 rfl) ?_
  obtain ⟨r1, hr1, hF⟩ := opb hF
  refine kVV (As := []) (rest := []) (ws' := (wd_X6_swappedRank cI a_t a_z a_history a_text a_left a_other a_smooth a_weights a_signs a_worked c_states c_length c_thrown c_codes c_read c_isOpen c_hash c_left r1 c_z)) ⟨hx, hb, hml, hown, hts⟩ (c_X6_copyRow l D cI a_t a_z a_history a_text a_left a_other a_smooth a_weights a_signs a_worked H.size c_states c_length c_thrown c_codes c_read c_isOpen c_hash c_other c_z  r1 hr1) (cwV 0 hts mw_X6_65 rfl rfl rfl hd_X6_copyRow ⟨Nat.le_of_ble_eq_true rfl, Nat.le_of_ble_eq_true rfl⟩) hS hA hG hK hP hD [0, 2, 3] rfl rfl rfl rfl rfl ⟨Nat.zero_le _, Nat.zero_le _⟩ 6 0 rfl rfl rfl rfl hl.1 rfl (Nat.le_of_ble_eq_true rfl) dX6_swappedRank_1 (fun H locs hP hD hS => ?_)
  refine lv_aload_n hx hb dX6_swappedRank_4 rfl (lv_at hl 0 rfl) ?_
  refine get_X6_22 hx hb hts hown hK hP 0 rfl rfl dX6_swappedRank_5 ?_
  refine lv_iload_n hx hb dX6_swappedRank_8 rfl (lv_at hl 1 rfl) ?_
  refine lv_aload_n hx hb dX6_swappedRank_9 rfl (lv_at hl 0 rfl) ?_
  refine get_X6_7 hx hb hts hown hK hP 0 rfl rfl dX6_swappedRank_10 ?_
  refine lv_iconst (v := 2) hx hb dX6_swappedRank_13 (by decide) ?_
  refine lv_iload_n hx hb dX6_swappedRank_14 rfl (lv_at hl 2 rfl) ?_
  refine lv_iadd hx hb dX6_swappedRank_15 ?_
  obtain ⟨g16, hF⟩ := gdb hF
  refine va_iald hx hb hK hP 3 0 rfl rfl (vinb g16) dX6_swappedRank_16 ?_
  obtain ⟨g17, hF⟩ := gdb hF
  refine va_iast hx hb hK hP hD hS 2 0 rfl rfl (vinb g17) dX6_swappedRank_17 (fun H locs hP hD hS => ?_)
  have hP : va_P D vwCl (wd_X6_swappedRank cI a_t a_z a_history a_text a_left a_other a_smooth a_weights a_signs a_worked c_states c_length c_thrown c_codes c_read c_isOpen c_hash c_left (upd r1 (x1).toNatClampNeg (c_z ((2 : Int32) + x2).toNatClampNeg)) c_z) H := hP
  have hD : va_D A (wd_X6_swappedRank cI a_t a_z a_history a_text a_left a_other a_smooth a_weights a_signs a_worked c_states c_length c_thrown c_codes c_read c_isOpen c_hash c_left (upd r1 (x1).toNatClampNeg (c_z ((2 : Int32) + x2).toNatClampNeg)) c_z) := hD
  refine lv_aload_n hx hb dX6_swappedRank_18 rfl (lv_at hl 0 rfl) ?_
  refine get_X6_22 hx hb hts hown hK hP 0 rfl rfl dX6_swappedRank_19 ?_
  refine lv_iload_n hx hb dX6_swappedRank_22 rfl (lv_at hl 2 rfl) ?_
  refine lv_aload_n hx hb dX6_swappedRank_23 rfl (lv_at hl 0 rfl) ?_
  refine get_X6_7 hx hb hts hown hK hP 0 rfl rfl dX6_swappedRank_24 ?_
  refine lv_iconst (v := 2) hx hb dX6_swappedRank_27 (by decide) ?_
  refine lv_iload_n hx hb dX6_swappedRank_28 rfl (lv_at hl 1 rfl) ?_
  refine lv_iadd hx hb dX6_swappedRank_29 ?_
  obtain ⟨g30, hF⟩ := gdb hF
  refine va_iald hx hb hK hP 3 0 rfl rfl (vinb g30) dX6_swappedRank_30 ?_
  obtain ⟨g31, hF⟩ := gdb hF
  refine va_iast hx hb hK hP hD hS 2 0 rfl rfl (vinb g31) dX6_swappedRank_31 (fun H locs hP hD hS => ?_)
  have hP : va_P D vwCl (wd_X6_swappedRank cI a_t a_z a_history a_text a_left a_other a_smooth a_weights a_signs a_worked c_states c_length c_thrown c_codes c_read c_isOpen c_hash c_left (upd (upd r1 (x1).toNatClampNeg (c_z ((2 : Int32) + x2).toNatClampNeg)) (x2).toNatClampNeg (c_z ((2 : Int32) + x1).toNatClampNeg)) c_z) H := hP
  have hD : va_D A (wd_X6_swappedRank cI a_t a_z a_history a_text a_left a_other a_smooth a_weights a_signs a_worked c_states c_length c_thrown c_codes c_read c_isOpen c_hash c_left (upd (upd r1 (x1).toNatClampNeg (c_z ((2 : Int32) + x2).toNatClampNeg)) (x2).toNatClampNeg (c_z ((2 : Int32) + x1).toNatClampNeg)) c_z) := hD
  refine lv_aload_n hx hb dX6_swappedRank_32 rfl (lv_at hl 0 rfl) ?_
  obtain ⟨r33, hr33, hF⟩ := opb hF
  refine kVI (As := []) (rest := []) (ws' := (wd_X6_swappedRank cI a_t a_z a_history a_text a_left a_other a_smooth a_weights a_signs a_worked c_states c_length c_thrown c_codes c_read c_isOpen c_hash r33.2 (upd (upd r1 (x1).toNatClampNeg (c_z ((2 : Int32) + x2).toNatClampNeg)) (x2).toNatClampNeg (c_z ((2 : Int32) + x1).toNatClampNeg)) c_z)) ⟨hx, hb, hml, hown, hts⟩ (c_X6_rankOfOther l D cI a_t a_z a_history a_text a_left a_other a_smooth a_weights a_signs a_worked H.size c_states c_length c_thrown c_codes c_read c_isOpen c_hash c_left (upd (upd r1 (x1).toNatClampNeg (c_z ((2 : Int32) + x2).toNatClampNeg)) (x2).toNatClampNeg (c_z ((2 : Int32) + x1).toNatClampNeg)) c_z  r33 hr33) (cwV 0 hts mw_X6_68 rfl rfl rfl hd_X6_rankOfOther ⟨Nat.le_of_ble_eq_true rfl, Nat.le_of_ble_eq_true rfl⟩) hS hA hG hK hP hD [0, 1, 2, 3] rfl rfl rfl rfl rfl ⟨Nat.zero_le _, Nat.zero_le _⟩ 6 0 rfl rfl rfl rfl hl.1 rfl (Nat.le_of_ble_eq_true rfl) dX6_swappedRank_33 (fun H locs hP hD hS => ?_)
  have ho := Option.some.inj hF
  exact hret H locs ls 36 r33.1 _ hP hS (by rw [← ho]) (by rw [← ho]) dX6_swappedRank_36
abbrev wd_X6_ifSwapped (cI : ClassId) (a_t a_z a_history a_text a_left a_other a_smooth a_weights a_signs a_worked : Nat) (c_states : Int32) (c_length : Int32) (c_thrown : Int32) (c_codes : Int32) (c_read : Int32) (c_isOpen : Int32) (c_hash : Int64) (c_left : Nat → Int32) (c_other : Nat → Int32) (c_z : Nat → Int32) : va_W := [(a_t, .inr (6, [.ref a_z, .int c_states, .ref a_history, .int c_length, .ref a_text, .int c_thrown, .ref a_left, .ref a_other, .ref a_smooth, .ref a_weights, .int c_codes, .ref a_signs, .int c_read, .int c_isOpen, .ref a_worked, .long c_hash])), (a_left, .inl (cI, 6, .inl c_left)), (a_other, .inl (cI, 11, .inl c_other)), (a_z, .inl (cI, 13, .inl c_z))]
def rm_X6_ifSwapped : Room := { frames := 6, cells := 0, slots := 0, locals := 133 }
set_option maxHeartbeats 4000000 in
set_option maxRecDepth 100000 in
theorem c_X6_ifSwapped (l : Launch) (D : va_G) (cI : ClassId) (a_t a_z a_history a_text a_left a_other a_smooth a_weights a_signs a_worked : Nat) (sz : Nat) (c_states : Int32) (c_length : Int32) (c_thrown : Int32) (c_codes : Int32) (c_read : Int32) (c_isOpen : Int32) (c_hash : Int64) (c_left : Nat → Int32) (c_other : Nat → Int32) (c_z : Nat → Int32) (x1 : Int32) (x2 : Int32) (o : Int32 × Int32 × (Nat → Int32) × (Nat → Int32)) (hF : F_X6_ifSwapped c_thrown c_left c_other c_z x1 x2 = some o) : Met l yX6_ifSwapped (Cond.code yX6_ifSwapped cX6_ifSwapped 3 (some .int) :: WL) rm_X6_ifSwapped (preM D [(cI, .int)] (wd_X6_ifSwapped cI a_t a_z a_history a_text a_left a_other a_smooth a_weights a_signs a_worked c_states c_length c_thrown c_codes c_read c_isOpen c_hash c_left c_other c_z) sz [.ref a_t, .int x1, .int x2]) (postI D o.1 (wd_X6_ifSwapped cI a_t a_z a_history a_text a_left a_other a_smooth a_weights a_signs a_worked c_states c_length o.2.1 c_codes c_read c_isOpen c_hash o.2.2.1 o.2.2.2 c_z) (wd_X6_ifSwapped cI a_t a_z a_history a_text a_left a_other a_smooth a_weights a_signs a_worked c_states c_length c_thrown c_codes c_read c_isOpen c_hash c_left c_other c_z) sz) 0 0 (va_A (wd_X6_ifSwapped cI a_t a_z a_history a_text a_left a_other a_smooth a_weights a_signs a_worked c_states c_length c_thrown c_codes c_read c_isOpen c_hash c_left c_other c_z) sz) := by
  refine mofI (by decide +kernel) (Nat.le_of_ble_eq_true rfl) ?_
  intro p e s m args below meth c Q A ls hx hb hml hown hts hK hP hD hS hA hG hl hret hsz0
  have hl : lv_has ls 3 [(0, .ref a_t), (1, .int x1), (2, .int x2)] := hl
  have K22 : ∀ (c_thrown : Int32) (c_left : Nat → Int32) (c_other : Nat → Int32) (v1 : Int32)  (H : Heap) (locs : List Loc) (ls : Array Slot), va_P D vwCl (wd_X6_ifSwapped cI a_t a_z a_history a_text a_left a_other a_smooth a_weights a_signs a_worked c_states c_length c_thrown c_codes c_read c_isOpen c_hash c_left c_other c_z) H → va_D A (wd_X6_ifSwapped cI a_t a_z a_history a_text a_left a_other a_smooth a_weights a_signs a_worked c_states c_length c_thrown c_codes c_read c_isOpen c_hash c_left c_other c_z) → va_S A s.heap H locs → lv_has ls 3 [(0, .ref a_t), (1, .int x1), (2, .int x2)] → F_X6_ifSwapped_J22 c_z x1 x2 c_thrown c_left c_other v1 = some o → W p l e rm_X6_ifSwapped s m args below meth c H locs 0 0 Q (F0 m 22 ls [.int v1, .ref a_t]) := by
    intro c_thrown c_left c_other v1 H locs ls hP hD hS hl hF
    unfold F_X6_ifSwapped_J22 at hF
    refine put_X6_37 hx hb hts hown hK hP hD hS 0 rfl rfl rfl (Nat.le_of_ble_eq_true rfl) dX6_ifSwapped_22 (fun H locs hP hD hS => ?_)
    have hP : va_P D vwCl (wd_X6_ifSwapped cI a_t a_z a_history a_text a_left a_other a_smooth a_weights a_signs a_worked c_states c_length v1 c_codes c_read c_isOpen c_hash c_left c_other c_z) H := hP
    have hD : va_D A (wd_X6_ifSwapped cI a_t a_z a_history a_text a_left a_other a_smooth a_weights a_signs a_worked c_states c_length v1 c_codes c_read c_isOpen c_hash c_left c_other c_z) := hD
    refine lv_aload_n hx hb dX6_ifSwapped_25 rfl (lv_at hl 0 rfl) ?_
    refine get_X6_37 hx hb hts hown hK hP 0 rfl rfl dX6_ifSwapped_26 ?_
    refine lv_if_le (tgt := 36) hx hb dX6_ifSwapped_29 (by decide) (fun k29 => ?_) (fun k29 => ?_)
    · replace hF := (if_pos k29).symm.trans hF
      refine lv_aload_n hx hb dX6_ifSwapped_36 rfl (lv_at hl 0 rfl) ?_
      refine lv_iload_n hx hb dX6_ifSwapped_37 rfl (lv_at hl 1 rfl) ?_
      refine lv_iload_n hx hb dX6_ifSwapped_38 rfl (lv_at hl 2 rfl) ?_
      obtain ⟨r39, hr39, hF⟩ := opb hF
      refine kVI (As := [.int x1, .int x2]) (rest := []) (ws' := (wd_X6_ifSwapped cI a_t a_z a_history a_text a_left a_other a_smooth a_weights a_signs a_worked c_states c_length v1 c_codes c_read c_isOpen c_hash r39.2.1 r39.2.2 c_z)) ⟨hx, hb, hml, hown, hts⟩ (c_X6_swappedRank l D cI a_t a_z a_history a_text a_left a_other a_smooth a_weights a_signs a_worked H.size c_states c_length v1 c_codes c_read c_isOpen c_hash c_left c_other c_z x1 x2 r39 hr39) (cwV 2 hts mw_X6_184 rfl rfl rfl hd_X6_swappedRank ⟨Nat.le_of_ble_eq_true rfl, Nat.le_of_ble_eq_true rfl⟩) hS hA hG hK hP hD [0, 1, 2, 3] rfl rfl rfl rfl rfl ⟨Nat.zero_le _, Nat.zero_le _⟩ 6 0 rfl rfl rfl rfl hl.1 rfl (Nat.le_of_ble_eq_true rfl) dX6_ifSwapped_39 (fun H locs hP hD hS => ?_)
      have ho := Option.some.inj hF
      exact hret H locs ls 42 r39.1 _ hP hS (by rw [← ho]) (by rw [← ho]) dX6_ifSwapped_42
    · replace hF := (if_neg k29).symm.trans hF
      refine lv_iconst (v := 0) hx hb dX6_ifSwapped_32 (by decide) ?_
      refine lv_goto (tgt := 42) hx hb dX6_ifSwapped_33 (by decide) ?_
      have ho := Option.some.inj hF
      exact hret H locs ls 42 (0 : Int32) _ hP hS (by rw [← ho]) (by rw [← ho]) dX6_ifSwapped_42
  unfold F_X6_ifSwapped at hF
  have hP : va_P D vwCl (wd_X6_ifSwapped cI a_t a_z a_history a_text a_left a_other a_smooth a_weights a_signs a_worked c_states c_length c_thrown c_codes c_read c_isOpen c_hash c_left c_other c_z) s.heap := hP
  obtain ⟨H, hH⟩ : ∃ H, H = s.heap := ⟨_, rfl⟩
  rw [← hH]
  rw [← hH] at hP
  obtain ⟨locs, hlo⟩ : ∃ z : List Loc, z = [] := ⟨_, rfl⟩
  rw [← hlo]
  have hS : va_S A s.heap H locs := by rw [hH, hlo]; exact hS
  refine lv_aload_n hx hb dX6_ifSwapped_0 rfl (lv_at hl 0 rfl) ?_
  refine lv_aload_n hx hb dX6_ifSwapped_1 rfl (lv_at hl 0 rfl) ?_
  refine lv_iload_n hx hb dX6_ifSwapped_2 rfl (lv_at hl 1 rfl) ?_
  obtain ⟨r3, hr3, hF⟩ := opb hF
  refine kVI (As := [.int x1]) (rest := [.ref a_t]) (ws' := (wd_X6_ifSwapped cI a_t a_z a_history a_text a_left a_other a_smooth a_weights a_signs a_worked c_states c_length c_thrown c_codes c_read c_isOpen c_hash c_left c_other c_z)) ⟨hx, hb, hml, hown, hts⟩ (c_X6_isPlace l D cI a_t a_z a_history a_text a_left a_other a_smooth a_weights a_signs a_worked H.size c_states c_length c_thrown c_codes c_read c_isOpen c_hash c_z x1 r3 hr3) (cwV 1 hts mw_X6_126 rfl rfl rfl hd_X6_isPlace ⟨Nat.le_of_ble_eq_true rfl, Nat.le_of_ble_eq_true rfl⟩) hS hA hG hK hP hD [0, 3] rfl rfl rfl rfl rfl ⟨Nat.zero_le _, Nat.zero_le _⟩ 6 0 rfl rfl rfl rfl hl.1 rfl (Nat.le_of_ble_eq_true rfl) dX6_ifSwapped_3 (fun H locs hP hD hS => ?_)
  refine lv_if_eq (tgt := 21) hx hb dX6_ifSwapped_6 (by decide) (fun k6 => ?_) (fun k6 => ?_)
  · replace hF := (if_pos k6).symm.trans hF
    refine lv_iconst (v := 1) hx hb dX6_ifSwapped_21 (by decide) ?_
    exact K22 c_thrown c_left c_other (1 : Int32) H locs ls hP hD hS (lv_sub hl [0, 1, 2] rfl) hF
  · replace hF := (if_neg k6).symm.trans hF
    refine lv_aload_n hx hb dX6_ifSwapped_9 rfl (lv_at hl 0 rfl) ?_
    refine lv_iload_n hx hb dX6_ifSwapped_10 rfl (lv_at hl 2 rfl) ?_
    obtain ⟨r11, hr11, hF⟩ := opb hF
    refine kVI (As := [.int x2]) (rest := [.ref a_t]) (ws' := (wd_X6_ifSwapped cI a_t a_z a_history a_text a_left a_other a_smooth a_weights a_signs a_worked c_states c_length c_thrown c_codes c_read c_isOpen c_hash c_left c_other c_z)) ⟨hx, hb, hml, hown, hts⟩ (c_X6_isPlace l D cI a_t a_z a_history a_text a_left a_other a_smooth a_weights a_signs a_worked H.size c_states c_length c_thrown c_codes c_read c_isOpen c_hash c_z x2 r11 hr11) (cwV 1 hts mw_X6_126 rfl rfl rfl hd_X6_isPlace ⟨Nat.le_of_ble_eq_true rfl, Nat.le_of_ble_eq_true rfl⟩) hS hA hG hK hP hD [0, 3] rfl rfl rfl rfl rfl ⟨Nat.zero_le _, Nat.zero_le _⟩ 6 0 rfl rfl rfl rfl hl.1 rfl (Nat.le_of_ble_eq_true rfl) dX6_ifSwapped_11 (fun H locs hP hD hS => ?_)
    refine lv_if_eq (tgt := 21) hx hb dX6_ifSwapped_14 (by decide) (fun k14 => ?_) (fun k14 => ?_)
    · (try simp only [if_pos k14] at hF)
      refine lv_iconst (v := 1) hx hb dX6_ifSwapped_21 (by decide) ?_
      exact K22 c_thrown c_left c_other (1 : Int32) H locs ls hP hD hS (lv_sub hl [0, 1, 2] rfl) hF
    · (try simp only [if_neg k14] at hF)
      refine lv_iconst (v := 0) hx hb dX6_ifSwapped_17 (by decide) ?_
      refine lv_goto (tgt := 22) hx hb dX6_ifSwapped_18 (by decide) ?_
      exact K22 c_thrown c_left c_other (0 : Int32) H locs ls hP hD hS (lv_sub hl [0, 1, 2] rfl) hF
abbrev wd_X6_signAt (cI : ClassId) (a_t a_z a_history a_text a_left a_other a_smooth a_weights a_signs a_worked : Nat) (c_states : Int32) (c_length : Int32) (c_thrown : Int32) (c_codes : Int32) (c_read : Int32) (c_isOpen : Int32) (c_hash : Int64) (c_left : Nat → Int32) (c_other : Nat → Int32) (c_z : Nat → Int32) : va_W := [(a_t, .inr (6, [.ref a_z, .int c_states, .ref a_history, .int c_length, .ref a_text, .int c_thrown, .ref a_left, .ref a_other, .ref a_smooth, .ref a_weights, .int c_codes, .ref a_signs, .int c_read, .int c_isOpen, .ref a_worked, .long c_hash])), (a_left, .inl (cI, 6, .inl c_left)), (a_other, .inl (cI, 11, .inl c_other)), (a_z, .inl (cI, 13, .inl c_z))]
def rm_X6_signAt : Room := { frames := 4, cells := 0, slots := 0, locals := 91 }
set_option maxHeartbeats 4000000 in
set_option maxRecDepth 100000 in
theorem c_X6_signAt (l : Launch) (D : va_G) (cI : ClassId) (a_t a_z a_history a_text a_left a_other a_smooth a_weights a_signs a_worked : Nat) (sz : Nat) (c_states : Int32) (c_length : Int32) (c_thrown : Int32) (c_codes : Int32) (c_read : Int32) (c_isOpen : Int32) (c_hash : Int64) (c_left : Nat → Int32) (c_other : Nat → Int32) (c_z : Nat → Int32) (x1 : Int32) (x2 : Int32) (o : Int32 × (Nat → Int32) × (Nat → Int32)) (hF : F_X6_signAt c_left c_other c_z x1 x2 = some o) : Met l yX6_signAt (Cond.code yX6_signAt cX6_signAt 3 (some .int) :: WL) rm_X6_signAt (preM D [(cI, .int)] (wd_X6_signAt cI a_t a_z a_history a_text a_left a_other a_smooth a_weights a_signs a_worked c_states c_length c_thrown c_codes c_read c_isOpen c_hash c_left c_other c_z) sz [.ref a_t, .int x1, .int x2]) (postI D o.1 (wd_X6_signAt cI a_t a_z a_history a_text a_left a_other a_smooth a_weights a_signs a_worked c_states c_length c_thrown c_codes c_read c_isOpen c_hash o.2.1 o.2.2 c_z) (wd_X6_signAt cI a_t a_z a_history a_text a_left a_other a_smooth a_weights a_signs a_worked c_states c_length c_thrown c_codes c_read c_isOpen c_hash c_left c_other c_z) sz) 0 0 (va_A (wd_X6_signAt cI a_t a_z a_history a_text a_left a_other a_smooth a_weights a_signs a_worked c_states c_length c_thrown c_codes c_read c_isOpen c_hash c_left c_other c_z) sz) := by
  refine mofI (by decide +kernel) (Nat.le_of_ble_eq_true rfl) ?_
  intro p e s m args below meth c Q A ls hx hb hml hown hts hK hP hD hS hA hG hl hret hsz0
  have hl : lv_has ls 3 [(0, .ref a_t), (1, .int x1), (2, .int x2)] := hl
  unfold F_X6_signAt at hF
  have hP : va_P D vwCl (wd_X6_signAt cI a_t a_z a_history a_text a_left a_other a_smooth a_weights a_signs a_worked c_states c_length c_thrown c_codes c_read c_isOpen c_hash c_left c_other c_z) s.heap := hP
  obtain ⟨H, hH⟩ : ∃ H, H = s.heap := ⟨_, rfl⟩
  rw [← hH]
  rw [← hH] at hP
  obtain ⟨locs, hlo⟩ : ∃ z : List Loc, z = [] := ⟨_, rfl⟩
  rw [← hlo]
  have hS : va_S A s.heap H locs := by rw [hH, hlo]; exact hS
  refine lv_aload_n hx hb dX6_signAt_0 rfl (lv_at hl 0 rfl) ?_
  refine lv_iload_n hx hb dX6_signAt_1 rfl (lv_at hl 1 rfl) ?_
  obtain ⟨r2, hr2, hF⟩ := opb hF
  refine kVV (As := [.int x1]) (rest := []) (ws' := (wd_X6_signAt cI a_t a_z a_history a_text a_left a_other a_smooth a_weights a_signs a_worked c_states c_length c_thrown c_codes c_read c_isOpen c_hash r2.1 r2.2 c_z)) ⟨hx, hb, hml, hown, hts⟩ (c_X6_layRank l D cI a_t a_z a_history a_text a_left a_other a_smooth a_weights a_signs a_worked H.size c_states c_length c_thrown c_codes c_read c_isOpen c_hash c_left c_other c_z x1 r2 hr2) (cwV 1 hts mw_X6_103 rfl rfl rfl hd_X6_layRank ⟨Nat.le_of_ble_eq_true rfl, Nat.le_of_ble_eq_true rfl⟩) hS hA hG hK hP hD [0, 1, 2, 3] rfl rfl rfl rfl rfl ⟨Nat.zero_le _, Nat.zero_le _⟩ 6 0 rfl rfl rfl rfl hl.1 rfl (Nat.le_of_ble_eq_true rfl) dX6_signAt_2 (fun H locs hP hD hS => ?_)
  refine lv_aload_n hx hb dX6_signAt_5 rfl (lv_at hl 0 rfl) ?_
  refine get_X6_22 hx hb hts hown hK hP 0 rfl rfl dX6_signAt_6 ?_
  refine lv_iload_n hx hb dX6_signAt_9 rfl (lv_at hl 2 rfl) ?_
  obtain ⟨g10, hF⟩ := gdb hF
  refine va_iald hx hb hK hP 2 0 rfl rfl (vinb g10) dX6_signAt_10 ?_
  have ho := Option.some.inj hF
  exact hret H locs ls 11 (r2.2 (x2).toNatClampNeg) _ hP hS (by rw [← ho]) (by rw [← ho]) dX6_signAt_11
abbrev wd_X6_signOf (cI : ClassId) (a_t a_z a_history a_text a_left a_other a_smooth a_weights a_signs a_worked : Nat) (c_states : Int32) (c_length : Int32) (c_thrown : Int32) (c_codes : Int32) (c_read : Int32) (c_isOpen : Int32) (c_hash : Int64) (c_left : Nat → Int32) (c_other : Nat → Int32) (c_z : Nat → Int32) : va_W := [(a_t, .inr (6, [.ref a_z, .int c_states, .ref a_history, .int c_length, .ref a_text, .int c_thrown, .ref a_left, .ref a_other, .ref a_smooth, .ref a_weights, .int c_codes, .ref a_signs, .int c_read, .int c_isOpen, .ref a_worked, .long c_hash])), (a_left, .inl (cI, 6, .inl c_left)), (a_other, .inl (cI, 11, .inl c_other)), (a_z, .inl (cI, 13, .inl c_z))]
def rm_X6_signOf : Room := { frames := 5, cells := 0, slots := 0, locals := 113 }
set_option maxHeartbeats 4000000 in
set_option maxRecDepth 100000 in
theorem c_X6_signOf (l : Launch) (D : va_G) (cI : ClassId) (a_t a_z a_history a_text a_left a_other a_smooth a_weights a_signs a_worked : Nat) (sz : Nat) (c_states : Int32) (c_length : Int32) (c_thrown : Int32) (c_codes : Int32) (c_read : Int32) (c_isOpen : Int32) (c_hash : Int64) (c_left : Nat → Int32) (c_other : Nat → Int32) (c_z : Nat → Int32) (x1 : Int32) (x2 : Int32) (o : Int32 × Int32 × (Nat → Int32) × (Nat → Int32)) (hF : F_X6_signOf c_thrown c_left c_other c_z x1 x2 = some o) : Met l yX6_signOf (Cond.code yX6_signOf cX6_signOf 3 (some .int) :: WL) rm_X6_signOf (preM D [(cI, .int)] (wd_X6_signOf cI a_t a_z a_history a_text a_left a_other a_smooth a_weights a_signs a_worked c_states c_length c_thrown c_codes c_read c_isOpen c_hash c_left c_other c_z) sz [.ref a_t, .int x1, .int x2]) (postI D o.1 (wd_X6_signOf cI a_t a_z a_history a_text a_left a_other a_smooth a_weights a_signs a_worked c_states c_length o.2.1 c_codes c_read c_isOpen c_hash o.2.2.1 o.2.2.2 c_z) (wd_X6_signOf cI a_t a_z a_history a_text a_left a_other a_smooth a_weights a_signs a_worked c_states c_length c_thrown c_codes c_read c_isOpen c_hash c_left c_other c_z) sz) 0 0 (va_A (wd_X6_signOf cI a_t a_z a_history a_text a_left a_other a_smooth a_weights a_signs a_worked c_states c_length c_thrown c_codes c_read c_isOpen c_hash c_left c_other c_z) sz) := by
  refine mofI (by decide +kernel) (Nat.le_of_ble_eq_true rfl) ?_
  intro p e s m args below meth c Q A ls hx hb hml hown hts hK hP hD hS hA hG hl hret hsz0
  have hl : lv_has ls 3 [(0, .ref a_t), (1, .int x1), (2, .int x2)] := hl
  have K26 : ∀ (c_thrown : Int32) (c_left : Nat → Int32) (c_other : Nat → Int32) (v1 : Int32)  (H : Heap) (locs : List Loc) (ls : Array Slot), va_P D vwCl (wd_X6_signOf cI a_t a_z a_history a_text a_left a_other a_smooth a_weights a_signs a_worked c_states c_length c_thrown c_codes c_read c_isOpen c_hash c_left c_other c_z) H → va_D A (wd_X6_signOf cI a_t a_z a_history a_text a_left a_other a_smooth a_weights a_signs a_worked c_states c_length c_thrown c_codes c_read c_isOpen c_hash c_left c_other c_z) → va_S A s.heap H locs → lv_has ls 3 [(0, .ref a_t), (1, .int x1), (2, .int x2)] → F_X6_signOf_J26 c_z x1 x2 c_thrown c_left c_other v1 = some o → W p l e rm_X6_signOf s m args below meth c H locs 0 0 Q (F0 m 26 ls [.int v1, .ref a_t]) := by
    intro c_thrown c_left c_other v1 H locs ls hP hD hS hl hF
    unfold F_X6_signOf_J26 at hF
    refine put_X6_37 hx hb hts hown hK hP hD hS 0 rfl rfl rfl (Nat.le_of_ble_eq_true rfl) dX6_signOf_26 (fun H locs hP hD hS => ?_)
    have hP : va_P D vwCl (wd_X6_signOf cI a_t a_z a_history a_text a_left a_other a_smooth a_weights a_signs a_worked c_states c_length v1 c_codes c_read c_isOpen c_hash c_left c_other c_z) H := hP
    have hD : va_D A (wd_X6_signOf cI a_t a_z a_history a_text a_left a_other a_smooth a_weights a_signs a_worked c_states c_length v1 c_codes c_read c_isOpen c_hash c_left c_other c_z) := hD
    refine lv_aload_n hx hb dX6_signOf_29 rfl (lv_at hl 0 rfl) ?_
    refine get_X6_37 hx hb hts hown hK hP 0 rfl rfl dX6_signOf_30 ?_
    refine lv_if_le (tgt := 40) hx hb dX6_signOf_33 (by decide) (fun k33 => ?_) (fun k33 => ?_)
    · replace hF := (if_pos k33).symm.trans hF
      refine lv_aload_n hx hb dX6_signOf_40 rfl (lv_at hl 0 rfl) ?_
      refine lv_iload_n hx hb dX6_signOf_41 rfl (lv_at hl 1 rfl) ?_
      refine lv_iload_n hx hb dX6_signOf_42 rfl (lv_at hl 2 rfl) ?_
      obtain ⟨r43, hr43, hF⟩ := opb hF
      refine kVI (As := [.int x1, .int x2]) (rest := []) (ws' := (wd_X6_signOf cI a_t a_z a_history a_text a_left a_other a_smooth a_weights a_signs a_worked c_states c_length v1 c_codes c_read c_isOpen c_hash r43.2.1 r43.2.2 c_z)) ⟨hx, hb, hml, hown, hts⟩ (c_X6_signAt l D cI a_t a_z a_history a_text a_left a_other a_smooth a_weights a_signs a_worked H.size c_states c_length v1 c_codes c_read c_isOpen c_hash c_left c_other c_z x1 x2 r43 hr43) (cwV 2 hts mw_X6_187 rfl rfl rfl hd_X6_signAt ⟨Nat.le_of_ble_eq_true rfl, Nat.le_of_ble_eq_true rfl⟩) hS hA hG hK hP hD [0, 1, 2, 3] rfl rfl rfl rfl rfl ⟨Nat.zero_le _, Nat.zero_le _⟩ 6 0 rfl rfl rfl rfl hl.1 rfl (Nat.le_of_ble_eq_true rfl) dX6_signOf_43 (fun H locs hP hD hS => ?_)
      have ho := Option.some.inj hF
      exact hret H locs ls 46 r43.1 _ hP hS (by rw [← ho]) (by rw [← ho]) dX6_signOf_46
    · replace hF := (if_neg k33).symm.trans hF
      refine lv_iconst (v := 0) hx hb dX6_signOf_36 (by decide) ?_
      refine lv_goto (tgt := 46) hx hb dX6_signOf_37 (by decide) ?_
      have ho := Option.some.inj hF
      exact hret H locs ls 46 (0 : Int32) _ hP hS (by rw [← ho]) (by rw [← ho]) dX6_signOf_46
  unfold F_X6_signOf at hF
  have hP : va_P D vwCl (wd_X6_signOf cI a_t a_z a_history a_text a_left a_other a_smooth a_weights a_signs a_worked c_states c_length c_thrown c_codes c_read c_isOpen c_hash c_left c_other c_z) s.heap := hP
  obtain ⟨H, hH⟩ : ∃ H, H = s.heap := ⟨_, rfl⟩
  rw [← hH]
  rw [← hH] at hP
  obtain ⟨locs, hlo⟩ : ∃ z : List Loc, z = [] := ⟨_, rfl⟩
  rw [← hlo]
  have hS : va_S A s.heap H locs := by rw [hH, hlo]; exact hS
  refine lv_aload_n hx hb dX6_signOf_0 rfl (lv_at hl 0 rfl) ?_
  refine lv_aload_n hx hb dX6_signOf_1 rfl (lv_at hl 0 rfl) ?_
  refine lv_iload_n hx hb dX6_signOf_2 rfl (lv_at hl 2 rfl) ?_
  obtain ⟨r3, hr3, hF⟩ := opb hF
  refine kVI (As := [.int x2]) (rest := [.ref a_t]) (ws' := (wd_X6_signOf cI a_t a_z a_history a_text a_left a_other a_smooth a_weights a_signs a_worked c_states c_length c_thrown c_codes c_read c_isOpen c_hash c_left c_other c_z)) ⟨hx, hb, hml, hown, hts⟩ (c_X6_isPlace l D cI a_t a_z a_history a_text a_left a_other a_smooth a_weights a_signs a_worked H.size c_states c_length c_thrown c_codes c_read c_isOpen c_hash c_z x2 r3 hr3) (cwV 1 hts mw_X6_126 rfl rfl rfl hd_X6_isPlace ⟨Nat.le_of_ble_eq_true rfl, Nat.le_of_ble_eq_true rfl⟩) hS hA hG hK hP hD [0, 3] rfl rfl rfl rfl rfl ⟨Nat.zero_le _, Nat.zero_le _⟩ 6 0 rfl rfl rfl rfl hl.1 rfl (Nat.le_of_ble_eq_true rfl) dX6_signOf_3 (fun H locs hP hD hS => ?_)
  refine lv_if_ne (tgt := 13) hx hb dX6_signOf_6 (by decide) (fun k6 => ?_) (fun k6 => ?_)
  · replace hF := (if_neg k6).symm.trans hF
    refine lv_aload_n hx hb dX6_signOf_13 rfl (lv_at hl 0 rfl) ?_
    refine lv_iload_n hx hb dX6_signOf_14 rfl (lv_at hl 1 rfl) ?_
    obtain ⟨r15, hr15, hF⟩ := opb hF
    refine kVI (As := [.int x1]) (rest := [.ref a_t]) (ws' := (wd_X6_signOf cI a_t a_z a_history a_text a_left a_other a_smooth a_weights a_signs a_worked c_states c_length c_thrown c_codes c_read c_isOpen c_hash r15.2 c_other c_z)) ⟨hx, hb, hml, hown, hts⟩ (c_X6_isRank l D cI a_t a_z a_history a_text a_left a_other a_smooth a_weights a_signs a_worked H.size c_states c_length c_thrown c_codes c_read c_isOpen c_hash c_left c_z x1 r15 hr15) (cwV 1 hts mw_X6_93 rfl rfl rfl hd_X6_isRank ⟨Nat.le_of_ble_eq_true rfl, Nat.le_of_ble_eq_true rfl⟩) hS hA hG hK hP hD [0, 1, 3] rfl rfl rfl rfl rfl ⟨Nat.zero_le _, Nat.zero_le _⟩ 6 0 rfl rfl rfl rfl hl.1 rfl (Nat.le_of_ble_eq_true rfl) dX6_signOf_15 (fun H locs hP hD hS => ?_)
    refine lv_if_eq (tgt := 25) hx hb dX6_signOf_18 (by decide) (fun k18 => ?_) (fun k18 => ?_)
    · (try simp only [if_pos k18] at hF)
      refine lv_iconst (v := 2) hx hb dX6_signOf_25 (by decide) ?_
      exact K26 c_thrown r15.2 c_other (2 : Int32) H locs ls hP hD hS (lv_sub hl [0, 1, 2] rfl) hF
    · (try simp only [if_neg k18] at hF)
      refine lv_iconst (v := 0) hx hb dX6_signOf_21 (by decide) ?_
      refine lv_goto (tgt := 26) hx hb dX6_signOf_22 (by decide) ?_
      exact K26 c_thrown r15.2 c_other (0 : Int32) H locs ls hP hD hS (lv_sub hl [0, 1, 2] rfl) hF
  · replace hF := (if_pos k6).symm.trans hF
    refine lv_iconst (v := 1) hx hb dX6_signOf_9 (by decide) ?_
    refine lv_goto (tgt := 26) hx hb dX6_signOf_10 (by decide) ?_
    exact K26 c_thrown c_left c_other (1 : Int32) H locs ls hP hD hS (lv_sub hl [0, 1, 2] rfl) hF
abbrev wd_X6_rowsWithBoth (cI : ClassId) (a_t a_z a_history a_text a_left a_other a_smooth a_weights a_signs a_worked : Nat) (c_states : Int32) (c_length : Int32) (c_thrown : Int32) (c_codes : Int32) (c_read : Int32) (c_isOpen : Int32) (c_hash : Int64) (c_left : Nat → Int32) : va_W := [(a_t, .inr (6, [.ref a_z, .int c_states, .ref a_history, .int c_length, .ref a_text, .int c_thrown, .ref a_left, .ref a_other, .ref a_smooth, .ref a_weights, .int c_codes, .ref a_signs, .int c_read, .int c_isOpen, .ref a_worked, .long c_hash])), (a_left, .inl (cI, 6, .inl c_left))]
def rm_X6_rowsWithBoth : Room := { frames := 3, cells := 0, slots := 0, locals := 67 }
set_option maxHeartbeats 4000000 in
set_option maxRecDepth 100000 in
theorem c_X6_rowsWithBoth (l : Launch) (D : va_G) (cI : ClassId) (a_t a_z a_history a_text a_left a_other a_smooth a_weights a_signs a_worked : Nat) (sz : Nat) (c_states : Int32) (c_length : Int32) (c_thrown : Int32) (c_codes : Int32) (c_read : Int32) (c_isOpen : Int32) (c_hash : Int64) (c_left : Nat → Int32) (x1 : Int32) (x2 : Int32) (o : Int32 × (Nat → Int32)) (hF : F_X6_rowsWithBoth c_left x1 x2 = some o) : Met l yX6_rowsWithBoth (Cond.code yX6_rowsWithBoth cX6_rowsWithBoth 4 (some .int) :: WL) rm_X6_rowsWithBoth (preM D [(cI, .int)] (wd_X6_rowsWithBoth cI a_t a_z a_history a_text a_left a_other a_smooth a_weights a_signs a_worked c_states c_length c_thrown c_codes c_read c_isOpen c_hash c_left) sz [.ref a_t, .int x1, .int x2]) (postI D o.1 (wd_X6_rowsWithBoth cI a_t a_z a_history a_text a_left a_other a_smooth a_weights a_signs a_worked c_states c_length c_thrown c_codes c_read c_isOpen c_hash o.2) (wd_X6_rowsWithBoth cI a_t a_z a_history a_text a_left a_other a_smooth a_weights a_signs a_worked c_states c_length c_thrown c_codes c_read c_isOpen c_hash c_left) sz) 0 0 (va_A (wd_X6_rowsWithBoth cI a_t a_z a_history a_text a_left a_other a_smooth a_weights a_signs a_worked c_states c_length c_thrown c_codes c_read c_isOpen c_hash c_left) sz) := by
  refine mofI (by decide +kernel) (Nat.le_of_ble_eq_true rfl) ?_
  intro p e s m args below meth c Q A ls hx hb hml hown hts hK hP hD hS hA hG hl hret hsz0
  have hl : lv_has ls 4 [(0, .ref a_t), (1, .int x1), (2, .int x2)] := hl
  unfold F_X6_rowsWithBoth at hF
  have hP : va_P D vwCl (wd_X6_rowsWithBoth cI a_t a_z a_history a_text a_left a_other a_smooth a_weights a_signs a_worked c_states c_length c_thrown c_codes c_read c_isOpen c_hash c_left) s.heap := hP
  obtain ⟨H, hH⟩ : ∃ H, H = s.heap := ⟨_, rfl⟩
  rw [← hH]
  rw [← hH] at hP
  obtain ⟨locs, hlo⟩ : ∃ z : List Loc, z = [] := ⟨_, rfl⟩
  rw [← hlo]
  have hS : va_S A s.heap H locs := by rw [hH, hlo]; exact hS
  refine lv_aload_n hx hb dX6_rowsWithBoth_0 rfl (lv_at hl 0 rfl) ?_
  refine get_X6_19 hx hb hts hown hK hP 0 rfl rfl dX6_rowsWithBoth_1 ?_
  refine lv_iload_n hx hb dX6_rowsWithBoth_4 rfl (lv_at hl 1 rfl) ?_
  obtain ⟨g5, hF⟩ := gdb hF
  refine va_iald hx hb hK hP 1 0 rfl rfl (vinb g5) dX6_rowsWithBoth_5 ?_
  refine lv_if_ne (tgt := 11) hx hb dX6_rowsWithBoth_6 (by decide) (fun k6 => ?_) (fun k6 => ?_)
  · replace hF := (if_neg k6).symm.trans hF
    refine lv_aload_n hx hb dX6_rowsWithBoth_11 rfl (lv_at hl 0 rfl) ?_
    refine get_X6_19 hx hb hts hown hK hP 0 rfl rfl dX6_rowsWithBoth_12 ?_
    refine lv_iload_n hx hb dX6_rowsWithBoth_15 rfl (lv_at hl 1 rfl) ?_
    refine lv_dup2_11 hx hb dX6_rowsWithBoth_16 rfl rfl ?_
    obtain ⟨g17, hF⟩ := gdb hF
    refine va_iald hx hb hK hP 1 0 rfl rfl (vinb g17) dX6_rowsWithBoth_17 ?_
    refine lv_iconst (v := 1) hx hb dX6_rowsWithBoth_18 (by decide) ?_
    refine lv_isub hx hb dX6_rowsWithBoth_19 ?_
    obtain ⟨g20, hF⟩ := gdb hF
    refine va_iast hx hb hK hP hD hS 1 0 rfl rfl (vinb g20) dX6_rowsWithBoth_20 (fun H locs hP hD hS => ?_)
    have hP : va_P D vwCl (wd_X6_rowsWithBoth cI a_t a_z a_history a_text a_left a_other a_smooth a_weights a_signs a_worked c_states c_length c_thrown c_codes c_read c_isOpen c_hash (upd c_left (x1).toNatClampNeg ((c_left (x1).toNatClampNeg) - (1 : Int32)))) H := hP
    have hD : va_D A (wd_X6_rowsWithBoth cI a_t a_z a_history a_text a_left a_other a_smooth a_weights a_signs a_worked c_states c_length c_thrown c_codes c_read c_isOpen c_hash (upd c_left (x1).toNatClampNeg ((c_left (x1).toNatClampNeg) - (1 : Int32)))) := hD
    refine lv_aload_n hx hb dX6_rowsWithBoth_21 rfl (lv_at hl 0 rfl) ?_
    refine lv_iload_n hx hb dX6_rowsWithBoth_22 rfl (lv_at hl 2 rfl) ?_
    obtain ⟨r23, hr23, hF⟩ := opb hF
    refine kVI (As := [.int x2]) (rest := []) (ws' := (wd_X6_rowsWithBoth cI a_t a_z a_history a_text a_left a_other a_smooth a_weights a_signs a_worked c_states c_length c_thrown c_codes c_read c_isOpen c_hash r23.2)) ⟨hx, hb, hml, hown, hts⟩ (c_X6_rowsWith l D cI a_t a_z a_history a_text a_left a_other a_smooth a_weights a_signs a_worked H.size c_states c_length c_thrown c_codes c_read c_isOpen c_hash (upd c_left (x1).toNatClampNeg ((c_left (x1).toNatClampNeg) - (1 : Int32))) x2 r23 hr23) (cwV 1 hts mw_X6_59 rfl rfl rfl hd_X6_rowsWith ⟨Nat.le_of_ble_eq_true rfl, Nat.le_of_ble_eq_true rfl⟩) hS hA hG hK hP hD [0, 1] rfl rfl rfl rfl rfl ⟨Nat.zero_le _, Nat.zero_le _⟩ 6 0 rfl rfl rfl rfl hl.1 rfl (Nat.le_of_ble_eq_true rfl) dX6_rowsWithBoth_23 (fun H locs hP hD hS => ?_)
    refine lv_istore_n (lv' := [(3, .int r23.1), (0, .ref a_t), (1, .int x1), (2, .int x2)]) hx hb dX6_rowsWithBoth_26 rfl hl (by decide) rfl (fun ls hl => ?_)
    refine lv_aload_n hx hb dX6_rowsWithBoth_27 rfl (lv_at hl 1 rfl) ?_
    refine get_X6_19 hx hb hts hown hK hP 0 rfl rfl dX6_rowsWithBoth_28 ?_
    refine lv_iload_n hx hb dX6_rowsWithBoth_31 rfl (lv_at hl 2 rfl) ?_
    refine lv_dup2_11 hx hb dX6_rowsWithBoth_32 rfl rfl ?_
    obtain ⟨g33, hF⟩ := gdb hF
    refine va_iald hx hb hK hP 1 0 rfl rfl (vinb g33) dX6_rowsWithBoth_33 ?_
    refine lv_iconst (v := 1) hx hb dX6_rowsWithBoth_34 (by decide) ?_
    refine lv_iadd hx hb dX6_rowsWithBoth_35 ?_
    obtain ⟨g36, hF⟩ := gdb hF
    refine va_iast hx hb hK hP hD hS 1 0 rfl rfl (vinb g36) dX6_rowsWithBoth_36 (fun H locs hP hD hS => ?_)
    have hP : va_P D vwCl (wd_X6_rowsWithBoth cI a_t a_z a_history a_text a_left a_other a_smooth a_weights a_signs a_worked c_states c_length c_thrown c_codes c_read c_isOpen c_hash (upd r23.2 (x1).toNatClampNeg ((r23.2 (x1).toNatClampNeg) + (1 : Int32)))) H := hP
    have hD : va_D A (wd_X6_rowsWithBoth cI a_t a_z a_history a_text a_left a_other a_smooth a_weights a_signs a_worked c_states c_length c_thrown c_codes c_read c_isOpen c_hash (upd r23.2 (x1).toNatClampNeg ((r23.2 (x1).toNatClampNeg) + (1 : Int32)))) := hD
    refine lv_iload_n hx hb dX6_rowsWithBoth_37 rfl (lv_at hl 0 rfl) ?_
    have ho := Option.some.inj hF
    exact hret H locs ls 38 r23.1 _ hP hS (by rw [← ho]) (by rw [← ho]) dX6_rowsWithBoth_38
  · replace hF := (if_pos k6).symm.trans hF
    refine lv_iconst (v := 0) hx hb dX6_rowsWithBoth_9 (by decide) ?_
    have ho := Option.some.inj hF
    exact hret H locs ls 10 (0 : Int32) _ hP hS (by rw [← ho]) (by rw [← ho]) dX6_rowsWithBoth_10
abbrev wd_X6_havingBelow (cI : ClassId) (a_t a_z a_history a_text a_left a_other a_smooth a_weights a_signs a_worked : Nat) (c_states : Int32) (c_length : Int32) (c_thrown : Int32) (c_codes : Int32) (c_read : Int32) (c_isOpen : Int32) (c_hash : Int64) (c_left : Nat → Int32) (c_other : Nat → Int32) (c_z : Nat → Int32) : va_W := [(a_t, .inr (6, [.ref a_z, .int c_states, .ref a_history, .int c_length, .ref a_text, .int c_thrown, .ref a_left, .ref a_other, .ref a_smooth, .ref a_weights, .int c_codes, .ref a_signs, .int c_read, .int c_isOpen, .ref a_worked, .long c_hash])), (a_left, .inl (cI, 6, .inl c_left)), (a_other, .inl (cI, 11, .inl c_other)), (a_z, .inl (cI, 13, .inl c_z))]
def rm_X6_havingBelow : Room := { frames := 4, cells := 0, slots := 0, locals := 91 }
set_option maxHeartbeats 4000000 in
set_option maxRecDepth 100000 in
theorem c_X6_havingBelow (l : Launch) (D : va_G) (cI : ClassId) (a_t a_z a_history a_text a_left a_other a_smooth a_weights a_signs a_worked : Nat) (sz : Nat) (c_states : Int32) (c_length : Int32) (c_thrown : Int32) (c_codes : Int32) (c_read : Int32) (c_isOpen : Int32) (c_hash : Int64) (c_left : Nat → Int32) (c_other : Nat → Int32) (c_z : Nat → Int32) (x1 : Int32) (x2 : Int32) (x3 : Int32) (o : Int32 × (Nat → Int32) × (Nat → Int32)) (hF : F_X6_havingBelow c_left c_other c_z x1 x2 x3 = some o) : Met l yX6_havingBelow (Cond.code yX6_havingBelow cX6_havingBelow 8 (some .int) :: WL) rm_X6_havingBelow (preM D [(cI, .int)] (wd_X6_havingBelow cI a_t a_z a_history a_text a_left a_other a_smooth a_weights a_signs a_worked c_states c_length c_thrown c_codes c_read c_isOpen c_hash c_left c_other c_z) sz [.ref a_t, .int x1, .int x2, .int x3]) (postI D o.1 (wd_X6_havingBelow cI a_t a_z a_history a_text a_left a_other a_smooth a_weights a_signs a_worked c_states c_length c_thrown c_codes c_read c_isOpen c_hash o.2.1 o.2.2 c_z) (wd_X6_havingBelow cI a_t a_z a_history a_text a_left a_other a_smooth a_weights a_signs a_worked c_states c_length c_thrown c_codes c_read c_isOpen c_hash c_left c_other c_z) sz) 0 0 (va_A (wd_X6_havingBelow cI a_t a_z a_history a_text a_left a_other a_smooth a_weights a_signs a_worked c_states c_length c_thrown c_codes c_read c_isOpen c_hash c_left c_other c_z) sz) := by
  refine mofI (by decide +kernel) (Nat.le_of_ble_eq_true rfl) ?_
  intro p e s m args below meth c Q A ls hx hb hml hown hts hK hP hD hS hA hG hl hret hsz0
  have hl : lv_has ls 8 [(0, .ref a_t), (1, .int x1), (2, .int x2), (3, .int x3)] := hl
  have K29 : ∀ (n29 : Nat) (c_left : Nat → Int32) (c_other : Nat → Int32) (x4 : Int32) (x5 : Int32) (H : Heap) (locs : List Loc) (ls : Array Slot), va_P D vwCl (wd_X6_havingBelow cI a_t a_z a_history a_text a_left a_other a_smooth a_weights a_signs a_worked c_states c_length c_thrown c_codes c_read c_isOpen c_hash c_left c_other c_z) H → va_D A (wd_X6_havingBelow cI a_t a_z a_history a_text a_left a_other a_smooth a_weights a_signs a_worked c_states c_length c_thrown c_codes c_read c_isOpen c_hash c_left c_other c_z) → va_S A s.heap H locs → lv_has ls 8 [(0, .ref a_t), (2, .int x2), (3, .int x3), (4, .int x4), (5, .int x5)] → F_X6_havingBelow_L29 c_z x1 x2 x3 n29 c_left c_other x4 x5 = some o → W p l e rm_X6_havingBelow s m args below meth c H locs 0 0 Q (F0 m 29 ls []) := by
    intro n29
    induction n29 with
    | zero => intro c_left c_other x4 x5 H locs ls hP hD hS hl hF; exact nos hF
    | succ n29 ih29 =>
      have K43 : ∀ (n43 : Nat) (c_left : Nat → Int32) (c_other : Nat → Int32) (x4 : Int32) (x5 : Int32) (x6 : Int32) (H : Heap) (locs : List Loc) (ls : Array Slot), va_P D vwCl (wd_X6_havingBelow cI a_t a_z a_history a_text a_left a_other a_smooth a_weights a_signs a_worked c_states c_length c_thrown c_codes c_read c_isOpen c_hash c_left c_other c_z) H → va_D A (wd_X6_havingBelow cI a_t a_z a_history a_text a_left a_other a_smooth a_weights a_signs a_worked c_states c_length c_thrown c_codes c_read c_isOpen c_hash c_left c_other c_z) → va_S A s.heap H locs → lv_has ls 8 [(0, .ref a_t), (2, .int x2), (3, .int x3), (4, .int x4), (5, .int x5), (6, .int x6)] → F_X6_havingBelow_L43 (F_X6_havingBelow_L29 c_z x1 x2 x3 n29) c_z x1 x2 x3 n43 c_left c_other x4 x5 x6 = some o → W p l e rm_X6_havingBelow s m args below meth c H locs 0 0 Q (F0 m 43 ls []) := by
        intro n43
        induction n43 with
        | zero => intro c_left c_other x4 x5 x6 H locs ls hP hD hS hl hF; exact nos hF
        | succ n43 ih43 =>
          have K90 : ∀ (c_left : Nat → Int32) (c_other : Nat → Int32) (x4 : Int32) (x5 : Int32) (x6 : Int32) (v0 : Int32)  (H : Heap) (locs : List Loc) (ls : Array Slot), va_P D vwCl (wd_X6_havingBelow cI a_t a_z a_history a_text a_left a_other a_smooth a_weights a_signs a_worked c_states c_length c_thrown c_codes c_read c_isOpen c_hash c_left c_other c_z) H → va_D A (wd_X6_havingBelow cI a_t a_z a_history a_text a_left a_other a_smooth a_weights a_signs a_worked c_states c_length c_thrown c_codes c_read c_isOpen c_hash c_left c_other c_z) → va_S A s.heap H locs → lv_has ls 8 [(0, .ref a_t), (2, .int x2), (3, .int x3), (4, .int x4), (5, .int x5), (6, .int x6)] → F_X6_havingBelow_J90 (F_X6_havingBelow_L29 c_z x1 x2 x3 n29) (F_X6_havingBelow_L43 (F_X6_havingBelow_L29 c_z x1 x2 x3 n29) c_z x1 x2 x3 n43) c_z x1 x2 x3 c_left c_other x4 x5 x6 v0 = some o → W p l e rm_X6_havingBelow s m args below meth c H locs 0 0 Q (F0 m 90 ls [.int v0]) := by
            intro c_left c_other x4 x5 x6 v0 H locs ls hP hD hS hl hF
            unfold F_X6_havingBelow_J90 at hF
            refine lv_istore (lv' := [(7, .int v0), (0, .ref a_t), (2, .int x2), (3, .int x3), (4, .int x4), (5, .int x5), (6, .int x6)]) hx hb dX6_havingBelow_90 hl (by decide) rfl (fun ls hl => ?_)
            refine lv_iload hx hb dX6_havingBelow_92 (lv_at hl 4 rfl) ?_
            refine lv_iload hx hb dX6_havingBelow_94 (lv_at hl 5 rfl) ?_
            refine lv_iload_n hx hb dX6_havingBelow_96 rfl (lv_at hl 2 rfl) ?_
            refine lv_icmp_ge (tgt := 110) hx hb dX6_havingBelow_97 (by decide) (fun k97 => ?_) (fun k97 => ?_)
            · replace hF := (if_pos k97).symm.trans hF
              refine lv_iload hx hb dX6_havingBelow_110 (lv_at hl 0 rfl) ?_
              refine lv_if_eq (tgt := 124) hx hb dX6_havingBelow_112 (by decide) (fun k112 => ?_) (fun k112 => ?_)
              · replace hF := (if_pos k112).symm.trans hF
                refine lv_iconst (v := 0) hx hb dX6_havingBelow_124 (by decide) ?_
                refine lv_iadd hx hb dX6_havingBelow_125 ?_
                refine lv_istore (lv' := [(4, .int (x4 + (0 : Int32))), (7, .int v0), (0, .ref a_t), (2, .int x2), (3, .int x3), (5, .int x5), (6, .int x6)]) hx hb dX6_havingBelow_126 hl (by decide) rfl (fun ls hl => ?_)
                refine lv_iinc (v := x6 + 1) (lv' := [(6, .int (x6 + 1)), (4, .int (x4 + (0 : Int32))), (7, .int v0), (0, .ref a_t), (2, .int x2), (3, .int x3), (5, .int x5)]) hx hb dX6_havingBelow_128 hl (k := 6) rfl rfl (by decide) rfl (fun ls hl => ?_)
                refine lv_goto (tgt := 43) hx hb dX6_havingBelow_131 (by decide) ?_
                exact ih43 c_left c_other (x4 + (0 : Int32)) x5 (x6 + 1) H locs ls hP hD hS (lv_sub hl [3, 4, 5, 1, 6, 0] rfl) hF
              · replace hF := (if_neg k112).symm.trans hF
                refine lv_aload_n hx hb dX6_havingBelow_115 rfl (lv_at hl 1 rfl) ?_
                refine lv_iload hx hb dX6_havingBelow_116 (lv_at hl 6 rfl) ?_
                obtain ⟨r118, hr118, hF⟩ := opb hF
                refine kVI (As := [.int x6]) (rest := [.int x4]) (ws' := (wd_X6_havingBelow cI a_t a_z a_history a_text a_left a_other a_smooth a_weights a_signs a_worked c_states c_length c_thrown c_codes c_read c_isOpen c_hash r118.2 c_other c_z)) ⟨hx, hb, hml, hown, hts⟩ (c_X6_rowsWith l D cI a_t a_z a_history a_text a_left a_other a_smooth a_weights a_signs a_worked H.size c_states c_length c_thrown c_codes c_read c_isOpen c_hash c_left x6 r118 hr118) (cwV 1 hts mw_X6_59 rfl rfl rfl hd_X6_rowsWith ⟨Nat.le_of_ble_eq_true rfl, Nat.le_of_ble_eq_true rfl⟩) hS hA hG hK hP hD [0, 1] rfl rfl rfl rfl rfl ⟨Nat.zero_le _, Nat.zero_le _⟩ 6 0 rfl rfl rfl rfl hl.1 rfl (Nat.le_of_ble_eq_true rfl) dX6_havingBelow_118 (fun H locs hP hD hS => ?_)
                refine lv_goto (tgt := 125) hx hb dX6_havingBelow_121 (by decide) ?_
                refine lv_iadd hx hb dX6_havingBelow_125 ?_
                refine lv_istore (lv' := [(4, .int (x4 + r118.1)), (7, .int v0), (0, .ref a_t), (2, .int x2), (3, .int x3), (5, .int x5), (6, .int x6)]) hx hb dX6_havingBelow_126 hl (by decide) rfl (fun ls hl => ?_)
                refine lv_iinc (v := x6 + 1) (lv' := [(6, .int (x6 + 1)), (4, .int (x4 + r118.1)), (7, .int v0), (0, .ref a_t), (2, .int x2), (3, .int x3), (5, .int x5)]) hx hb dX6_havingBelow_128 hl (k := 6) rfl rfl (by decide) rfl (fun ls hl => ?_)
                refine lv_goto (tgt := 43) hx hb dX6_havingBelow_131 (by decide) ?_
                exact ih43 r118.2 c_other (x4 + r118.1) x5 (x6 + 1) H locs ls hP hD hS (lv_sub hl [3, 4, 5, 1, 6, 0] rfl) hF
            · replace hF := (if_neg k97).symm.trans hF
              refine lv_aload_n hx hb dX6_havingBelow_100 rfl (lv_at hl 1 rfl) ?_
              refine lv_iload hx hb dX6_havingBelow_101 (lv_at hl 6 rfl) ?_
              refine lv_iload_n hx hb dX6_havingBelow_103 rfl (lv_at hl 3 rfl) ?_
              obtain ⟨r104, hr104, hF⟩ := opb hF
              refine kVI (As := [.int x6, .int x3]) (rest := [.int x4]) (ws' := (wd_X6_havingBelow cI a_t a_z a_history a_text a_left a_other a_smooth a_weights a_signs a_worked c_states c_length c_thrown c_codes c_read c_isOpen c_hash r104.2 c_other c_z)) ⟨hx, hb, hml, hown, hts⟩ (c_X6_rowsWithBoth l D cI a_t a_z a_history a_text a_left a_other a_smooth a_weights a_signs a_worked H.size c_states c_length c_thrown c_codes c_read c_isOpen c_hash c_left x6 x3 r104 hr104) (cwV 2 hts mw_X6_190 rfl rfl rfl hd_X6_rowsWithBoth ⟨Nat.le_of_ble_eq_true rfl, Nat.le_of_ble_eq_true rfl⟩) hS hA hG hK hP hD [0, 1] rfl rfl rfl rfl rfl ⟨Nat.zero_le _, Nat.zero_le _⟩ 6 0 rfl rfl rfl rfl hl.1 rfl (Nat.le_of_ble_eq_true rfl) dX6_havingBelow_104 (fun H locs hP hD hS => ?_)
              refine lv_goto (tgt := 125) hx hb dX6_havingBelow_107 (by decide) ?_
              refine lv_iadd hx hb dX6_havingBelow_125 ?_
              refine lv_istore (lv' := [(4, .int (x4 + r104.1)), (7, .int v0), (0, .ref a_t), (2, .int x2), (3, .int x3), (5, .int x5), (6, .int x6)]) hx hb dX6_havingBelow_126 hl (by decide) rfl (fun ls hl => ?_)
              refine lv_iinc (v := x6 + 1) (lv' := [(6, .int (x6 + 1)), (4, .int (x4 + r104.1)), (7, .int v0), (0, .ref a_t), (2, .int x2), (3, .int x3), (5, .int x5)]) hx hb dX6_havingBelow_128 hl (k := 6) rfl rfl (by decide) rfl (fun ls hl => ?_)
              refine lv_goto (tgt := 43) hx hb dX6_havingBelow_131 (by decide) ?_
              exact ih43 r104.2 c_other (x4 + r104.1) x5 (x6 + 1) H locs ls hP hD hS (lv_sub hl [3, 4, 5, 1, 6, 0] rfl) hF
          intro c_left c_other x4 x5 x6 H locs ls hP hD hS hl hF
          rw [F_X6_havingBelow_L43] at hF
          refine lv_iload hx hb dX6_havingBelow_43 (lv_at hl 5 rfl) ?_
          refine lv_aload_n hx hb dX6_havingBelow_45 rfl (lv_at hl 0 rfl) ?_
          refine get_X6_22 hx hb hts hown hK hP 0 rfl rfl dX6_havingBelow_46 ?_
          refine lv_iload hx hb dX6_havingBelow_49 (lv_at hl 4 rfl) ?_
          obtain ⟨g51, hF⟩ := gdb hF
          refine va_iald hx hb hK hP 2 0 rfl rfl (vinb g51) dX6_havingBelow_51 ?_
          refine lv_icmp_ge (tgt := 134) hx hb dX6_havingBelow_52 (by decide) (fun k52 => ?_) (fun k52 => ?_)
          · replace hF := (if_pos k52).symm.trans hF
            refine lv_aload_n hx hb dX6_havingBelow_134 rfl (lv_at hl 0 rfl) ?_
            refine get_X6_19 hx hb hts hown hK hP 0 rfl rfl dX6_havingBelow_135 ?_
            refine lv_aload_n hx hb dX6_havingBelow_138 rfl (lv_at hl 0 rfl) ?_
            refine get_X6_22 hx hb hts hown hK hP 0 rfl rfl dX6_havingBelow_139 ?_
            refine lv_iload hx hb dX6_havingBelow_142 (lv_at hl 4 rfl) ?_
            obtain ⟨g144, hF⟩ := gdb hF
            refine va_iald hx hb hK hP 2 0 rfl rfl (vinb g144) dX6_havingBelow_144 ?_
            refine lv_dup2_11 hx hb dX6_havingBelow_145 rfl rfl ?_
            obtain ⟨g146, hF⟩ := gdb hF
            refine va_iald hx hb hK hP 1 0 rfl rfl (vinb g146) dX6_havingBelow_146 ?_
            refine lv_iconst (v := 1) hx hb dX6_havingBelow_147 (by decide) ?_
            refine lv_isub hx hb dX6_havingBelow_148 ?_
            obtain ⟨g149, hF⟩ := gdb hF
            refine va_iast hx hb hK hP hD hS 1 0 rfl rfl (vinb g149) dX6_havingBelow_149 (fun H locs hP hD hS => ?_)
            have hP : va_P D vwCl (wd_X6_havingBelow cI a_t a_z a_history a_text a_left a_other a_smooth a_weights a_signs a_worked c_states c_length c_thrown c_codes c_read c_isOpen c_hash (upd c_left (c_other (x5).toNatClampNeg).toNatClampNeg ((c_left (c_other (x5).toNatClampNeg).toNatClampNeg) - (1 : Int32))) c_other c_z) H := hP
            have hD : va_D A (wd_X6_havingBelow cI a_t a_z a_history a_text a_left a_other a_smooth a_weights a_signs a_worked c_states c_length c_thrown c_codes c_read c_isOpen c_hash (upd c_left (c_other (x5).toNatClampNeg).toNatClampNeg ((c_left (c_other (x5).toNatClampNeg).toNatClampNeg) - (1 : Int32))) c_other c_z) := hD
            refine lv_iinc (v := x5 + 1) (lv' := [(5, .int (x5 + 1)), (0, .ref a_t), (2, .int x2), (3, .int x3), (4, .int x4), (6, .int x6)]) hx hb dX6_havingBelow_150 hl (k := 4) rfl rfl (by decide) rfl (fun ls hl => ?_)
            refine lv_goto (tgt := 29) hx hb dX6_havingBelow_153 (by decide) ?_
            exact ih29 (upd c_left (c_other (x5).toNatClampNeg).toNatClampNeg ((c_left (c_other (x5).toNatClampNeg).toNatClampNeg) - (1 : Int32))) c_other x4 (x5 + 1) H locs ls hP hD hS (lv_sub hl [1, 2, 3, 4, 0] rfl) hF
          · replace hF := (if_neg k52).symm.trans hF
            refine lv_iload hx hb dX6_havingBelow_55 (lv_at hl 4 rfl) ?_
            refine lv_iload_n hx hb dX6_havingBelow_57 rfl (lv_at hl 1 rfl) ?_
            refine lv_icmp_ne (tgt := 75) hx hb dX6_havingBelow_58 (by decide) (fun k58 => ?_) (fun k58 => ?_)
            · replace hF := (if_neg k58).symm.trans hF
              refine lv_aload_n hx hb dX6_havingBelow_75 rfl (lv_at hl 0 rfl) ?_
              refine get_X6_22 hx hb hts hown hK hP 0 rfl rfl dX6_havingBelow_76 ?_
              refine lv_iload_n hx hb dX6_havingBelow_79 rfl (lv_at hl 1 rfl) ?_
              obtain ⟨g80, hF⟩ := gdb hF
              refine va_iald hx hb hK hP 2 0 rfl rfl (vinb g80) dX6_havingBelow_80 ?_
              refine lv_iload_n hx hb dX6_havingBelow_81 rfl (lv_at hl 2 rfl) ?_
              refine lv_icmp_ne (tgt := 89) hx hb dX6_havingBelow_82 (by decide) (fun k82 => ?_) (fun k82 => ?_)
              · (try simp only [if_neg k82] at hF)
                refine lv_iconst (v := 0) hx hb dX6_havingBelow_89 (by decide) ?_
                exact K90 c_left c_other x4 x5 x6 (0 : Int32) H locs ls hP hD hS (lv_sub hl [0, 1, 2, 3, 4, 5] rfl) hF
              · (try simp only [if_pos k82] at hF)
                refine lv_iconst (v := 1) hx hb dX6_havingBelow_85 (by decide) ?_
                refine lv_goto (tgt := 90) hx hb dX6_havingBelow_86 (by decide) ?_
                exact K90 c_left c_other x4 x5 x6 (1 : Int32) H locs ls hP hD hS (lv_sub hl [0, 1, 2, 3, 4, 5] rfl) hF
            · replace hF := (if_pos k58).symm.trans hF
              refine lv_iload hx hb dX6_havingBelow_61 (lv_at hl 5 rfl) ?_
              refine lv_iload_n hx hb dX6_havingBelow_63 rfl (lv_at hl 2 rfl) ?_
              refine lv_icmp_ne (tgt := 71) hx hb dX6_havingBelow_64 (by decide) (fun k64 => ?_) (fun k64 => ?_)
              · (try simp only [if_neg k64] at hF)
                refine lv_iconst (v := 0) hx hb dX6_havingBelow_71 (by decide) ?_
                refine lv_goto (tgt := 90) hx hb dX6_havingBelow_72 (by decide) ?_
                exact K90 c_left c_other x4 x5 x6 (0 : Int32) H locs ls hP hD hS (lv_sub hl [0, 1, 2, 3, 4, 5] rfl) hF
              · (try simp only [if_pos k64] at hF)
                refine lv_iconst (v := 1) hx hb dX6_havingBelow_67 (by decide) ?_
                refine lv_goto (tgt := 90) hx hb dX6_havingBelow_68 (by decide) ?_
                exact K90 c_left c_other x4 x5 x6 (1 : Int32) H locs ls hP hD hS (lv_sub hl [0, 1, 2, 3, 4, 5] rfl) hF
      intro c_left c_other x4 x5 H locs ls hP hD hS hl hF
      rw [F_X6_havingBelow_L29] at hF
      refine lv_iload hx hb dX6_havingBelow_29 (lv_at hl 4 rfl) ?_
      refine lv_aload_n hx hb dX6_havingBelow_31 rfl (lv_at hl 0 rfl) ?_
      refine get_X6_7 hx hb hts hown hK hP 0 rfl rfl dX6_havingBelow_32 ?_
      refine lv_iconst (v := 0) hx hb dX6_havingBelow_35 (by decide) ?_
      obtain ⟨g36, hF⟩ := gdb hF
      refine va_iald hx hb hK hP 3 0 rfl rfl (vinb g36) dX6_havingBelow_36 ?_
      refine lv_icmp_ge (tgt := 156) hx hb dX6_havingBelow_37 (by decide) (fun k37 => ?_) (fun k37 => ?_)
      · replace hF := (if_pos k37).symm.trans hF
        refine lv_iload hx hb dX6_havingBelow_156 (lv_at hl 3 rfl) ?_
        have ho := Option.some.inj hF
        exact hret H locs ls 158 x4 _ hP hS (by rw [← ho]) (by rw [← ho]) dX6_havingBelow_158
      · replace hF := (if_neg k37).symm.trans hF
        refine lv_iconst (v := 0) hx hb dX6_havingBelow_40 (by decide) ?_
        refine lv_istore (lv' := [(6, .int (0 : Int32)), (0, .ref a_t), (2, .int x2), (3, .int x3), (4, .int x4), (5, .int x5)]) hx hb dX6_havingBelow_41 hl (by decide) rfl (fun ls hl => ?_)
        exact K43 FU c_left c_other x4 x5 (0 : Int32) H locs ls hP hD hS (lv_sub hl [1, 2, 3, 4, 5, 0] rfl) hF
  unfold F_X6_havingBelow at hF
  have hP : va_P D vwCl (wd_X6_havingBelow cI a_t a_z a_history a_text a_left a_other a_smooth a_weights a_signs a_worked c_states c_length c_thrown c_codes c_read c_isOpen c_hash c_left c_other c_z) s.heap := hP
  obtain ⟨H, hH⟩ : ∃ H, H = s.heap := ⟨_, rfl⟩
  rw [← hH]
  rw [← hH] at hP
  obtain ⟨locs, hlo⟩ : ∃ z : List Loc, z = [] := ⟨_, rfl⟩
  rw [← hlo]
  have hS : va_S A s.heap H locs := by rw [hH, hlo]; exact hS
  refine lv_iload_n hx hb dX6_havingBelow_0 rfl (lv_at hl 1 rfl) ?_
  refine lv_aload_n hx hb dX6_havingBelow_1 rfl (lv_at hl 0 rfl) ?_
  obtain ⟨r2, hr2, hF⟩ := opb hF
  refine kVI (As := []) (rest := [.int x1]) (ws' := (wd_X6_havingBelow cI a_t a_z a_history a_text a_left a_other a_smooth a_weights a_signs a_worked c_states c_length c_thrown c_codes c_read c_isOpen c_hash r2.2 c_other c_z)) ⟨hx, hb, hml, hown, hts⟩ (c_X6_allRows l D cI a_t a_z a_history a_text a_left a_other a_smooth a_weights a_signs a_worked H.size c_states c_length c_thrown c_codes c_read c_isOpen c_hash c_left c_z  r2 hr2) (cwV 0 hts mw_X6_71 rfl rfl rfl hd_X6_allRows ⟨Nat.le_of_ble_eq_true rfl, Nat.le_of_ble_eq_true rfl⟩) hS hA hG hK hP hD [0, 1, 3] rfl rfl rfl rfl rfl ⟨Nat.zero_le _, Nat.zero_le _⟩ 6 0 rfl rfl rfl rfl hl.1 rfl (Nat.le_of_ble_eq_true rfl) dX6_havingBelow_2 (fun H locs hP hD hS => ?_)
  refine lv_icmp_ne (tgt := 14) hx hb dX6_havingBelow_5 (by decide) (fun k5 => ?_) (fun k5 => ?_)
  · replace hF := (if_neg k5).symm.trans hF
    refine lv_aload_n hx hb dX6_havingBelow_14 rfl (lv_at hl 0 rfl) ?_
    refine lv_iload_n hx hb dX6_havingBelow_15 rfl (lv_at hl 1 rfl) ?_
    obtain ⟨r16, hr16, hF⟩ := opb hF
    refine kVV (As := [.int x1]) (rest := []) (ws' := (wd_X6_havingBelow cI a_t a_z a_history a_text a_left a_other a_smooth a_weights a_signs a_worked c_states c_length c_thrown c_codes c_read c_isOpen c_hash r16.1 r16.2 c_z)) ⟨hx, hb, hml, hown, hts⟩ (c_X6_layRank l D cI a_t a_z a_history a_text a_left a_other a_smooth a_weights a_signs a_worked H.size c_states c_length c_thrown c_codes c_read c_isOpen c_hash r2.2 c_other c_z x1 r16 hr16) (cwV 1 hts mw_X6_103 rfl rfl rfl hd_X6_layRank ⟨Nat.le_of_ble_eq_true rfl, Nat.le_of_ble_eq_true rfl⟩) hS hA hG hK hP hD [0, 1, 2, 3] rfl rfl rfl rfl rfl ⟨Nat.zero_le _, Nat.zero_le _⟩ 6 0 rfl rfl rfl rfl hl.1 rfl (Nat.le_of_ble_eq_true rfl) dX6_havingBelow_16 (fun H locs hP hD hS => ?_)
    refine lv_aload_n hx hb dX6_havingBelow_19 rfl (lv_at hl 0 rfl) ?_
    obtain ⟨r20, hr20, hF⟩ := opb hF
    refine kVV (As := []) (rest := []) (ws' := (wd_X6_havingBelow cI a_t a_z a_history a_text a_left a_other a_smooth a_weights a_signs a_worked c_states c_length c_thrown c_codes c_read c_isOpen c_hash r20 r16.2 c_z)) ⟨hx, hb, hml, hown, hts⟩ (c_X6_countAll l D cI a_t a_z a_history a_text a_left a_other a_smooth a_weights a_signs a_worked H.size c_states c_length c_thrown c_codes c_read c_isOpen c_hash r16.1 c_z  r20 hr20) (cwV 0 hts mw_X6_56 rfl rfl rfl hd_X6_countAll ⟨Nat.le_of_ble_eq_true rfl, Nat.le_of_ble_eq_true rfl⟩) hS hA hG hK hP hD [0, 1, 3] rfl rfl rfl rfl rfl ⟨Nat.zero_le _, Nat.zero_le _⟩ 6 0 rfl rfl rfl rfl hl.1 rfl (Nat.le_of_ble_eq_true rfl) dX6_havingBelow_20 (fun H locs hP hD hS => ?_)
    refine lv_iconst (v := 0) hx hb dX6_havingBelow_23 (by decide) ?_
    refine lv_istore (lv' := [(4, .int (0 : Int32)), (0, .ref a_t), (1, .int x1), (2, .int x2), (3, .int x3)]) hx hb dX6_havingBelow_24 hl (by decide) rfl (fun ls hl => ?_)
    refine lv_iconst (v := 0) hx hb dX6_havingBelow_26 (by decide) ?_
    refine lv_istore (lv' := [(5, .int (0 : Int32)), (4, .int (0 : Int32)), (0, .ref a_t), (1, .int x1), (2, .int x2), (3, .int x3)]) hx hb dX6_havingBelow_27 hl (by decide) rfl (fun ls hl => ?_)
    exact K29 FU r20 r16.2 (0 : Int32) (0 : Int32) H locs ls hP hD hS (lv_sub hl [2, 4, 5, 1, 0] rfl) hF
  · replace hF := (if_pos k5).symm.trans hF
    refine lv_aload_n hx hb dX6_havingBelow_8 rfl (lv_at hl 0 rfl) ?_
    refine lv_iload_n hx hb dX6_havingBelow_9 rfl (lv_at hl 3 rfl) ?_
    obtain ⟨r10, hr10, hF⟩ := opb hF
    refine kVI (As := [.int x3]) (rest := []) (ws' := (wd_X6_havingBelow cI a_t a_z a_history a_text a_left a_other a_smooth a_weights a_signs a_worked c_states c_length c_thrown c_codes c_read c_isOpen c_hash r10.2 c_other c_z)) ⟨hx, hb, hml, hown, hts⟩ (c_X6_rowsWith l D cI a_t a_z a_history a_text a_left a_other a_smooth a_weights a_signs a_worked H.size c_states c_length c_thrown c_codes c_read c_isOpen c_hash r2.2 x3 r10 hr10) (cwV 1 hts mw_X6_59 rfl rfl rfl hd_X6_rowsWith ⟨Nat.le_of_ble_eq_true rfl, Nat.le_of_ble_eq_true rfl⟩) hS hA hG hK hP hD [0, 1] rfl rfl rfl rfl rfl ⟨Nat.zero_le _, Nat.zero_le _⟩ 6 0 rfl rfl rfl rfl hl.1 rfl (Nat.le_of_ble_eq_true rfl) dX6_havingBelow_10 (fun H locs hP hD hS => ?_)
    have ho := Option.some.inj hF
    exact hret H locs ls 13 r10.1 _ hP hS (by rw [← ho]) (by rw [← ho]) dX6_havingBelow_13
abbrev wd_X6_havingIn (cI : ClassId) (a_t a_z a_history a_text a_left a_other a_smooth a_weights a_signs a_worked : Nat) (c_states : Int32) (c_length : Int32) (c_thrown : Int32) (c_codes : Int32) (c_read : Int32) (c_isOpen : Int32) (c_hash : Int64) (c_left : Nat → Int32) (c_other : Nat → Int32) (c_z : Nat → Int32) : va_W := [(a_t, .inr (6, [.ref a_z, .int c_states, .ref a_history, .int c_length, .ref a_text, .int c_thrown, .ref a_left, .ref a_other, .ref a_smooth, .ref a_weights, .int c_codes, .ref a_signs, .int c_read, .int c_isOpen, .ref a_worked, .long c_hash])), (a_left, .inl (cI, 6, .inl c_left)), (a_other, .inl (cI, 11, .inl c_other)), (a_z, .inl (cI, 13, .inl c_z))]
def rm_X6_havingIn : Room := { frames := 5, cells := 0, slots := 0, locals := 118 }
set_option maxHeartbeats 4000000 in
set_option maxRecDepth 100000 in
theorem c_X6_havingIn (l : Launch) (D : va_G) (cI : ClassId) (a_t a_z a_history a_text a_left a_other a_smooth a_weights a_signs a_worked : Nat) (sz : Nat) (c_states : Int32) (c_length : Int32) (c_thrown : Int32) (c_codes : Int32) (c_read : Int32) (c_isOpen : Int32) (c_hash : Int64) (c_left : Nat → Int32) (c_other : Nat → Int32) (c_z : Nat → Int32) (x1 : Int32) (x2 : Int32) (x3 : Int32) (x4 : Int32) (o : Int32 × (Nat → Int32) × (Nat → Int32)) (hF : F_X6_havingIn c_left c_other c_z x1 x2 x3 x4 = some o) : Met l yX6_havingIn (Cond.code yX6_havingIn cX6_havingIn 6 (some .int) :: WL) rm_X6_havingIn (preM D [(cI, .int)] (wd_X6_havingIn cI a_t a_z a_history a_text a_left a_other a_smooth a_weights a_signs a_worked c_states c_length c_thrown c_codes c_read c_isOpen c_hash c_left c_other c_z) sz [.ref a_t, .int x1, .int x2, .int x3, .int x4]) (postI D o.1 (wd_X6_havingIn cI a_t a_z a_history a_text a_left a_other a_smooth a_weights a_signs a_worked c_states c_length c_thrown c_codes c_read c_isOpen c_hash o.2.1 o.2.2 c_z) (wd_X6_havingIn cI a_t a_z a_history a_text a_left a_other a_smooth a_weights a_signs a_worked c_states c_length c_thrown c_codes c_read c_isOpen c_hash c_left c_other c_z) sz) 0 0 (va_A (wd_X6_havingIn cI a_t a_z a_history a_text a_left a_other a_smooth a_weights a_signs a_worked c_states c_length c_thrown c_codes c_read c_isOpen c_hash c_left c_other c_z) sz) := by
  refine mofI (by decide +kernel) (Nat.le_of_ble_eq_true rfl) ?_
  intro p e s m args below meth c Q A ls hx hb hml hown hts hK hP hD hS hA hG hl hret hsz0
  have hl : lv_has ls 6 [(0, .ref a_t), (1, .int x1), (2, .int x2), (3, .int x3), (4, .int x4)] := hl
  unfold F_X6_havingIn at hF
  have hP : va_P D vwCl (wd_X6_havingIn cI a_t a_z a_history a_text a_left a_other a_smooth a_weights a_signs a_worked c_states c_length c_thrown c_codes c_read c_isOpen c_hash c_left c_other c_z) s.heap := hP
  obtain ⟨H, hH⟩ : ∃ H, H = s.heap := ⟨_, rfl⟩
  rw [← hH]
  rw [← hH] at hP
  obtain ⟨locs, hlo⟩ : ∃ z : List Loc, z = [] := ⟨_, rfl⟩
  rw [← hlo]
  have hS : va_S A s.heap H locs := by rw [hH, hlo]; exact hS
  refine lv_aload_n hx hb dX6_havingIn_0 rfl (lv_at hl 0 rfl) ?_
  refine lv_iload_n hx hb dX6_havingIn_1 rfl (lv_at hl 2 rfl) ?_
  refine lv_iload_n hx hb dX6_havingIn_2 rfl (lv_at hl 3 rfl) ?_
  refine lv_iload hx hb dX6_havingIn_3 (lv_at hl 4 rfl) ?_
  obtain ⟨r5, hr5, hF⟩ := opb hF
  refine kVI (As := [.int x2, .int x3, .int x4]) (rest := []) (ws' := (wd_X6_havingIn cI a_t a_z a_history a_text a_left a_other a_smooth a_weights a_signs a_worked c_states c_length c_thrown c_codes c_read c_isOpen c_hash r5.2.1 r5.2.2 c_z)) ⟨hx, hb, hml, hown, hts⟩ (c_X6_havingBelow l D cI a_t a_z a_history a_text a_left a_other a_smooth a_weights a_signs a_worked H.size c_states c_length c_thrown c_codes c_read c_isOpen c_hash c_left c_other c_z x2 x3 x4 r5 hr5) (cwV 3 hts mw_X6_193 rfl rfl rfl hd_X6_havingBelow ⟨Nat.le_of_ble_eq_true rfl, Nat.le_of_ble_eq_true rfl⟩) hS hA hG hK hP hD [0, 1, 2, 3] rfl rfl rfl rfl rfl ⟨Nat.zero_le _, Nat.zero_le _⟩ 6 0 rfl rfl rfl rfl hl.1 rfl (Nat.le_of_ble_eq_true rfl) dX6_havingIn_5 (fun H locs hP hD hS => ?_)
  refine lv_istore (lv' := [(5, .int r5.1), (0, .ref a_t), (1, .int x1), (2, .int x2), (3, .int x3), (4, .int x4)]) hx hb dX6_havingIn_8 hl (by decide) rfl (fun ls hl => ?_)
  refine lv_iload hx hb dX6_havingIn_10 (lv_at hl 0 rfl) ?_
  refine lv_aload_n hx hb dX6_havingIn_12 rfl (lv_at hl 1 rfl) ?_
  refine lv_iload_n hx hb dX6_havingIn_13 rfl (lv_at hl 2 rfl) ?_
  refine lv_iload_n hx hb dX6_havingIn_14 rfl (lv_at hl 4 rfl) ?_
  refine lv_iload hx hb dX6_havingIn_15 (lv_at hl 5 rfl) ?_
  obtain ⟨r17, hr17, hF⟩ := opb hF
  refine kVI (As := [.int x1, .int x3, .int x4]) (rest := [.int r5.1]) (ws' := (wd_X6_havingIn cI a_t a_z a_history a_text a_left a_other a_smooth a_weights a_signs a_worked c_states c_length c_thrown c_codes c_read c_isOpen c_hash r17.2.1 r17.2.2 c_z)) ⟨hx, hb, hml, hown, hts⟩ (c_X6_havingBelow l D cI a_t a_z a_history a_text a_left a_other a_smooth a_weights a_signs a_worked H.size c_states c_length c_thrown c_codes c_read c_isOpen c_hash r5.2.1 r5.2.2 c_z x1 x3 x4 r17 hr17) (cwV 3 hts mw_X6_193 rfl rfl rfl hd_X6_havingBelow ⟨Nat.le_of_ble_eq_true rfl, Nat.le_of_ble_eq_true rfl⟩) hS hA hG hK hP hD [0, 1, 2, 3] rfl rfl rfl rfl rfl ⟨Nat.zero_le _, Nat.zero_le _⟩ 6 0 rfl rfl rfl rfl hl.1 rfl (Nat.le_of_ble_eq_true rfl) dX6_havingIn_17 (fun H locs hP hD hS => ?_)
  refine lv_isub hx hb dX6_havingIn_20 ?_
  have ho := Option.some.inj hF
  exact hret H locs ls 21 (r5.1 - r17.1) _ hP hS (by rw [← ho]) (by rw [← ho]) dX6_havingIn_21
abbrev wd_X6_having (cI : ClassId) (a_t a_z a_history a_text a_left a_other a_smooth a_weights a_signs a_worked : Nat) (c_states : Int32) (c_length : Int32) (c_thrown : Int32) (c_codes : Int32) (c_read : Int32) (c_isOpen : Int32) (c_hash : Int64) (c_left : Nat → Int32) (c_other : Nat → Int32) (c_z : Nat → Int32) : va_W := [(a_t, .inr (6, [.ref a_z, .int c_states, .ref a_history, .int c_length, .ref a_text, .int c_thrown, .ref a_left, .ref a_other, .ref a_smooth, .ref a_weights, .int c_codes, .ref a_signs, .int c_read, .int c_isOpen, .ref a_worked, .long c_hash])), (a_left, .inl (cI, 6, .inl c_left)), (a_other, .inl (cI, 11, .inl c_other)), (a_z, .inl (cI, 13, .inl c_z))]
def rm_X6_having : Room := { frames := 6, cells := 0, slots := 0, locals := 143 }
set_option maxHeartbeats 4000000 in
set_option maxRecDepth 100000 in
theorem c_X6_having (l : Launch) (D : va_G) (cI : ClassId) (a_t a_z a_history a_text a_left a_other a_smooth a_weights a_signs a_worked : Nat) (sz : Nat) (c_states : Int32) (c_length : Int32) (c_thrown : Int32) (c_codes : Int32) (c_read : Int32) (c_isOpen : Int32) (c_hash : Int64) (c_left : Nat → Int32) (c_other : Nat → Int32) (c_z : Nat → Int32) (x1 : Int32) (x2 : Int32) (x3 : Int32) (x4 : Int32) (o : Int32 × Int32 × (Nat → Int32) × (Nat → Int32)) (hF : F_X6_having c_thrown c_left c_other c_z x1 x2 x3 x4 = some o) : Met l yX6_having (Cond.code yX6_having cX6_having 6 (some .int) :: WL) rm_X6_having (preM D [(cI, .int)] (wd_X6_having cI a_t a_z a_history a_text a_left a_other a_smooth a_weights a_signs a_worked c_states c_length c_thrown c_codes c_read c_isOpen c_hash c_left c_other c_z) sz [.ref a_t, .int x1, .int x2, .int x3, .int x4]) (postI D o.1 (wd_X6_having cI a_t a_z a_history a_text a_left a_other a_smooth a_weights a_signs a_worked c_states c_length o.2.1 c_codes c_read c_isOpen c_hash o.2.2.1 o.2.2.2 c_z) (wd_X6_having cI a_t a_z a_history a_text a_left a_other a_smooth a_weights a_signs a_worked c_states c_length c_thrown c_codes c_read c_isOpen c_hash c_left c_other c_z) sz) 0 0 (va_A (wd_X6_having cI a_t a_z a_history a_text a_left a_other a_smooth a_weights a_signs a_worked c_states c_length c_thrown c_codes c_read c_isOpen c_hash c_left c_other c_z) sz) := by
  refine mofI (by decide +kernel) (Nat.le_of_ble_eq_true rfl) ?_
  intro p e s m args below meth c Q A ls hx hb hml hown hts hK hP hD hS hA hG hl hret hsz0
  have hl : lv_has ls 6 [(0, .ref a_t), (1, .int x1), (2, .int x2), (3, .int x3), (4, .int x4)] := hl
  have K59 : ∀ (c_thrown : Int32) (c_left : Nat → Int32) (c_other : Nat → Int32) (v1 : Int32)  (H : Heap) (locs : List Loc) (ls : Array Slot), va_P D vwCl (wd_X6_having cI a_t a_z a_history a_text a_left a_other a_smooth a_weights a_signs a_worked c_states c_length c_thrown c_codes c_read c_isOpen c_hash c_left c_other c_z) H → va_D A (wd_X6_having cI a_t a_z a_history a_text a_left a_other a_smooth a_weights a_signs a_worked c_states c_length c_thrown c_codes c_read c_isOpen c_hash c_left c_other c_z) → va_S A s.heap H locs → lv_has ls 6 [(0, .ref a_t), (1, .int x1), (2, .int x2), (3, .int x3), (4, .int x4)] → F_X6_having_J59 c_z x1 x2 x3 x4 c_thrown c_left c_other v1 = some o → W p l e rm_X6_having s m args below meth c H locs 0 0 Q (F0 m 59 ls [.int v1, .ref a_t]) := by
    intro c_thrown c_left c_other v1 H locs ls hP hD hS hl hF
    unfold F_X6_having_J59 at hF
    refine put_X6_37 hx hb hts hown hK hP hD hS 0 rfl rfl rfl (Nat.le_of_ble_eq_true rfl) dX6_having_59 (fun H locs hP hD hS => ?_)
    have hP : va_P D vwCl (wd_X6_having cI a_t a_z a_history a_text a_left a_other a_smooth a_weights a_signs a_worked c_states c_length v1 c_codes c_read c_isOpen c_hash c_left c_other c_z) H := hP
    have hD : va_D A (wd_X6_having cI a_t a_z a_history a_text a_left a_other a_smooth a_weights a_signs a_worked c_states c_length v1 c_codes c_read c_isOpen c_hash c_left c_other c_z) := hD
    refine lv_aload_n hx hb dX6_having_62 rfl (lv_at hl 0 rfl) ?_
    refine get_X6_37 hx hb hts hown hK hP 0 rfl rfl dX6_having_63 ?_
    refine lv_if_le (tgt := 73) hx hb dX6_having_66 (by decide) (fun k66 => ?_) (fun k66 => ?_)
    · replace hF := (if_pos k66).symm.trans hF
      refine lv_aload_n hx hb dX6_having_73 rfl (lv_at hl 0 rfl) ?_
      refine lv_iload_n hx hb dX6_having_74 rfl (lv_at hl 1 rfl) ?_
      refine lv_iload_n hx hb dX6_having_75 rfl (lv_at hl 2 rfl) ?_
      refine lv_iload_n hx hb dX6_having_76 rfl (lv_at hl 3 rfl) ?_
      refine lv_iload hx hb dX6_having_77 (lv_at hl 4 rfl) ?_
      obtain ⟨r79, hr79, hF⟩ := opb hF
      refine kVI (As := [.int x1, .int x2, .int x3, .int x4]) (rest := []) (ws' := (wd_X6_having cI a_t a_z a_history a_text a_left a_other a_smooth a_weights a_signs a_worked c_states c_length v1 c_codes c_read c_isOpen c_hash r79.2.1 r79.2.2 c_z)) ⟨hx, hb, hml, hown, hts⟩ (c_X6_havingIn l D cI a_t a_z a_history a_text a_left a_other a_smooth a_weights a_signs a_worked H.size c_states c_length v1 c_codes c_read c_isOpen c_hash c_left c_other c_z x1 x2 x3 x4 r79 hr79) (cwV 4 hts mw_X6_196 rfl rfl rfl hd_X6_havingIn ⟨Nat.le_of_ble_eq_true rfl, Nat.le_of_ble_eq_true rfl⟩) hS hA hG hK hP hD [0, 1, 2, 3] rfl rfl rfl rfl rfl ⟨Nat.zero_le _, Nat.zero_le _⟩ 6 0 rfl rfl rfl rfl hl.1 rfl (Nat.le_of_ble_eq_true rfl) dX6_having_79 (fun H locs hP hD hS => ?_)
      have ho := Option.some.inj hF
      exact hret H locs ls 82 r79.1 _ hP hS (by rw [← ho]) (by rw [← ho]) dX6_having_82
    · replace hF := (if_neg k66).symm.trans hF
      refine lv_iconst (v := 0) hx hb dX6_having_69 (by decide) ?_
      refine lv_goto (tgt := 82) hx hb dX6_having_70 (by decide) ?_
      have ho := Option.some.inj hF
      exact hret H locs ls 82 (0 : Int32) _ hP hS (by rw [← ho]) (by rw [← ho]) dX6_having_82
  have K26 : ∀ (c_thrown : Int32) (c_left : Nat → Int32) (c_other : Nat → Int32) (v0 : Int32)  (H : Heap) (locs : List Loc) (ls : Array Slot), va_P D vwCl (wd_X6_having cI a_t a_z a_history a_text a_left a_other a_smooth a_weights a_signs a_worked c_states c_length c_thrown c_codes c_read c_isOpen c_hash c_left c_other c_z) H → va_D A (wd_X6_having cI a_t a_z a_history a_text a_left a_other a_smooth a_weights a_signs a_worked c_states c_length c_thrown c_codes c_read c_isOpen c_hash c_left c_other c_z) → va_S A s.heap H locs → lv_has ls 6 [(0, .ref a_t), (1, .int x1), (2, .int x2), (3, .int x3), (4, .int x4)] → F_X6_having_J26 c_z x1 x2 x3 x4 c_thrown c_left c_other v0 = some o → W p l e rm_X6_having s m args below meth c H locs 0 0 Q (F0 m 26 ls [.int v0]) := by
    intro c_thrown c_left c_other v0 H locs ls hP hD hS hl hF
    unfold F_X6_having_J26 at hF
    refine lv_istore (lv' := [(5, .int v0), (0, .ref a_t), (1, .int x1), (2, .int x2), (3, .int x3), (4, .int x4)]) hx hb dX6_having_26 hl (by decide) rfl (fun ls hl => ?_)
    refine lv_aload_n hx hb dX6_having_28 rfl (lv_at hl 1 rfl) ?_
    refine lv_aload_n hx hb dX6_having_29 rfl (lv_at hl 1 rfl) ?_
    refine lv_iload_n hx hb dX6_having_30 rfl (lv_at hl 4 rfl) ?_
    obtain ⟨r31, hr31, hF⟩ := opb hF
    refine kVI (As := [.int x3]) (rest := [.ref a_t]) (ws' := (wd_X6_having cI a_t a_z a_history a_text a_left a_other a_smooth a_weights a_signs a_worked c_states c_length c_thrown c_codes c_read c_isOpen c_hash c_left c_other c_z)) ⟨hx, hb, hml, hown, hts⟩ (c_X6_isPlace l D cI a_t a_z a_history a_text a_left a_other a_smooth a_weights a_signs a_worked H.size c_states c_length c_thrown c_codes c_read c_isOpen c_hash c_z x3 r31 hr31) (cwV 1 hts mw_X6_126 rfl rfl rfl hd_X6_isPlace ⟨Nat.le_of_ble_eq_true rfl, Nat.le_of_ble_eq_true rfl⟩) hS hA hG hK hP hD [0, 3] rfl rfl rfl rfl rfl ⟨Nat.zero_le _, Nat.zero_le _⟩ 6 0 rfl rfl rfl rfl hl.1 rfl (Nat.le_of_ble_eq_true rfl) dX6_having_31 (fun H locs hP hD hS => ?_)
    refine lv_if_ne (tgt := 41) hx hb dX6_having_34 (by decide) (fun k34 => ?_) (fun k34 => ?_)
    · replace hF := (if_neg k34).symm.trans hF
      refine lv_iload hx hb dX6_having_41 (lv_at hl 0 rfl) ?_
      refine lv_if_eq (tgt := 58) hx hb dX6_having_43 (by decide) (fun k43 => ?_) (fun k43 => ?_)
      · replace hF := (if_pos k43).symm.trans hF
        refine lv_iconst (v := 2) hx hb dX6_having_58 (by decide) ?_
        exact K59 c_thrown c_left c_other (2 : Int32) H locs ls hP hD hS (lv_sub hl [1, 2, 3, 4, 5] rfl) hF
      · replace hF := (if_neg k43).symm.trans hF
        refine lv_iload hx hb dX6_having_46 (lv_at hl 5 rfl) ?_
        obtain ⟨r48, hr48, hF⟩ := opb hF
        refine kSI (As := [.int x4]) (rest := [.ref a_t]) (ws' := (wd_X6_having cI a_t a_z a_history a_text a_left a_other a_smooth a_weights a_signs a_worked c_states c_length c_thrown c_codes c_read c_isOpen c_hash c_left c_other c_z)) ⟨hx, hb, hml, hown, hts⟩ (c_X6_isSign l D cI  H.size  x4 r48 hr48) (va_cwS 1 hts mw_X6_139 rfl rfl rfl hd_X6_isSign ⟨Nat.le_of_ble_eq_true rfl, Nat.le_of_ble_eq_true rfl⟩) hS hA hG hK hP hD [] rfl rfl rfl rfl rfl ⟨Nat.zero_le _, Nat.zero_le _⟩ rfl hl.1 rfl (Nat.le_of_ble_eq_true rfl) dX6_having_48 (fun H locs hP hD hS => ?_)
        refine lv_if_eq (tgt := 58) hx hb dX6_having_51 (by decide) (fun k51 => ?_) (fun k51 => ?_)
        · (try simp only [if_pos k51] at hF)
          refine lv_iconst (v := 2) hx hb dX6_having_58 (by decide) ?_
          exact K59 c_thrown c_left c_other (2 : Int32) H locs ls hP hD hS (lv_sub hl [1, 2, 3, 4, 5] rfl) hF
        · (try simp only [if_neg k51] at hF)
          refine lv_iconst (v := 0) hx hb dX6_having_54 (by decide) ?_
          refine lv_goto (tgt := 59) hx hb dX6_having_55 (by decide) ?_
          exact K59 c_thrown c_left c_other (0 : Int32) H locs ls hP hD hS (lv_sub hl [1, 2, 3, 4, 5] rfl) hF
    · replace hF := (if_pos k34).symm.trans hF
      refine lv_iconst (v := 1) hx hb dX6_having_37 (by decide) ?_
      refine lv_goto (tgt := 59) hx hb dX6_having_38 (by decide) ?_
      exact K59 c_thrown c_left c_other (1 : Int32) H locs ls hP hD hS (lv_sub hl [1, 2, 3, 4, 5] rfl) hF
  unfold F_X6_having at hF
  have hP : va_P D vwCl (wd_X6_having cI a_t a_z a_history a_text a_left a_other a_smooth a_weights a_signs a_worked c_states c_length c_thrown c_codes c_read c_isOpen c_hash c_left c_other c_z) s.heap := hP
  obtain ⟨H, hH⟩ : ∃ H, H = s.heap := ⟨_, rfl⟩
  rw [← hH]
  rw [← hH] at hP
  obtain ⟨locs, hlo⟩ : ∃ z : List Loc, z = [] := ⟨_, rfl⟩
  rw [← hlo]
  have hS : va_S A s.heap H locs := by rw [hH, hlo]; exact hS
  refine lv_iload_n hx hb dX6_having_0 rfl (lv_at hl 2 rfl) ?_
  refine lv_iconst (v := 0) hx hb dX6_having_1 (by decide) ?_
  refine lv_aload_n hx hb dX6_having_2 rfl (lv_at hl 0 rfl) ?_
  obtain ⟨r3, hr3, hF⟩ := opb hF
  refine kVI (As := []) (rest := [.int (0 : Int32), .int x2]) (ws' := (wd_X6_having cI a_t a_z a_history a_text a_left a_other a_smooth a_weights a_signs a_worked c_states c_length c_thrown c_codes c_read c_isOpen c_hash r3.2 c_other c_z)) ⟨hx, hb, hml, hown, hts⟩ (c_X6_allRows l D cI a_t a_z a_history a_text a_left a_other a_smooth a_weights a_signs a_worked H.size c_states c_length c_thrown c_codes c_read c_isOpen c_hash c_left c_z  r3 hr3) (cwV 0 hts mw_X6_71 rfl rfl rfl hd_X6_allRows ⟨Nat.le_of_ble_eq_true rfl, Nat.le_of_ble_eq_true rfl⟩) hS hA hG hK hP hD [0, 1, 3] rfl rfl rfl rfl rfl ⟨Nat.zero_le _, Nat.zero_le _⟩ 6 0 rfl rfl rfl rfl hl.1 rfl (Nat.le_of_ble_eq_true rfl) dX6_having_3 (fun H locs hP hD hS => ?_)
  obtain ⟨r6, hr6, hF⟩ := opb hF
  refine kSI (As := [.int x2, .int (0 : Int32), .int r3.1]) (rest := []) (ws' := (wd_X6_having cI a_t a_z a_history a_text a_left a_other a_smooth a_weights a_signs a_worked c_states c_length c_thrown c_codes c_read c_isOpen c_hash r3.2 c_other c_z)) ⟨hx, hb, hml, hown, hts⟩ (c_X6_within l D cI  H.size  x2 (0 : Int32) r3.1 r6 hr6) (va_cwS 3 hts mw_X6_44 rfl rfl rfl hd_X6_within ⟨Nat.le_of_ble_eq_true rfl, Nat.le_of_ble_eq_true rfl⟩) hS hA hG hK hP hD [] rfl rfl rfl rfl rfl ⟨Nat.zero_le _, Nat.zero_le _⟩ rfl hl.1 rfl (Nat.le_of_ble_eq_true rfl) dX6_having_6 (fun H locs hP hD hS => ?_)
  refine lv_if_eq (tgt := 25) hx hb dX6_having_9 (by decide) (fun k9 => ?_) (fun k9 => ?_)
  · replace hF := (if_pos k9).symm.trans hF
    refine lv_iconst (v := 0) hx hb dX6_having_25 (by decide) ?_
    exact K26 c_thrown r3.2 c_other (0 : Int32) H locs ls hP hD hS (lv_sub hl [0, 1, 2, 3, 4] rfl) hF
  · replace hF := (if_neg k9).symm.trans hF
    refine lv_iload_n hx hb dX6_having_12 rfl (lv_at hl 1 rfl) ?_
    refine lv_iconst (v := 0) hx hb dX6_having_13 (by decide) ?_
    refine lv_iload_n hx hb dX6_having_14 rfl (lv_at hl 2 rfl) ?_
    obtain ⟨r15, hr15, hF⟩ := opb hF
    refine kSI (As := [.int x1, .int (0 : Int32), .int x2]) (rest := []) (ws' := (wd_X6_having cI a_t a_z a_history a_text a_left a_other a_smooth a_weights a_signs a_worked c_states c_length c_thrown c_codes c_read c_isOpen c_hash r3.2 c_other c_z)) ⟨hx, hb, hml, hown, hts⟩ (c_X6_within l D cI  H.size  x1 (0 : Int32) x2 r15 hr15) (va_cwS 3 hts mw_X6_44 rfl rfl rfl hd_X6_within ⟨Nat.le_of_ble_eq_true rfl, Nat.le_of_ble_eq_true rfl⟩) hS hA hG hK hP hD [] rfl rfl rfl rfl rfl ⟨Nat.zero_le _, Nat.zero_le _⟩ rfl hl.1 rfl (Nat.le_of_ble_eq_true rfl) dX6_having_15 (fun H locs hP hD hS => ?_)
    refine lv_if_eq (tgt := 25) hx hb dX6_having_18 (by decide) (fun k18 => ?_) (fun k18 => ?_)
    · (try simp only [if_pos k18] at hF)
      refine lv_iconst (v := 0) hx hb dX6_having_25 (by decide) ?_
      exact K26 c_thrown r3.2 c_other (0 : Int32) H locs ls hP hD hS (lv_sub hl [0, 1, 2, 3, 4] rfl) hF
    · (try simp only [if_neg k18] at hF)
      refine lv_iconst (v := 1) hx hb dX6_having_21 (by decide) ?_
      refine lv_goto (tgt := 26) hx hb dX6_having_22 (by decide) ?_
      exact K26 c_thrown r3.2 c_other (1 : Int32) H locs ls hP hD hS (lv_sub hl [0, 1, 2, 3, 4] rfl) hF
abbrev wd_X6_stepsNow (cI : ClassId) (a_t a_z a_history a_text a_left a_other a_smooth a_weights a_signs a_worked : Nat) (c_states : Int32) (c_length : Int32) (c_thrown : Int32) (c_codes : Int32) (c_read : Int32) (c_isOpen : Int32) (c_hash : Int64) (c_left : Nat → Int32) (c_other : Nat → Int32) (c_worked : Nat → Int32) (c_z : Nat → Int32) : va_W := [(a_t, .inr (6, [.ref a_z, .int c_states, .ref a_history, .int c_length, .ref a_text, .int c_thrown, .ref a_left, .ref a_other, .ref a_smooth, .ref a_weights, .int c_codes, .ref a_signs, .int c_read, .int c_isOpen, .ref a_worked, .long c_hash])), (a_left, .inl (cI, 6, .inl c_left)), (a_other, .inl (cI, 11, .inl c_other)), (a_worked, .inl (cI, 11, .inl c_worked)), (a_z, .inl (cI, 13, .inl c_z))]
def rm_X6_stepsNow : Room := { frames := 4, cells := 0, slots := 0, locals := 91 }
set_option maxHeartbeats 4000000 in
set_option maxRecDepth 100000 in
theorem c_X6_stepsNow (l : Launch) (D : va_G) (cI : ClassId) (a_t a_z a_history a_text a_left a_other a_smooth a_weights a_signs a_worked : Nat) (sz : Nat) (c_states : Int32) (c_length : Int32) (c_thrown : Int32) (c_codes : Int32) (c_read : Int32) (c_isOpen : Int32) (c_hash : Int64) (c_left : Nat → Int32) (c_other : Nat → Int32) (c_worked : Nat → Int32) (c_z : Nat → Int32) (x1 : Int32) (o : Int32 × (Nat → Int32) × (Nat → Int32) × (Nat → Int32)) (hF : F_X6_stepsNow c_left c_other c_worked c_z x1 = some o) : Met l yX6_stepsNow (Cond.code yX6_stepsNow cX6_stepsNow 6 (some .int) :: WL) rm_X6_stepsNow (preM D [(cI, .int)] (wd_X6_stepsNow cI a_t a_z a_history a_text a_left a_other a_smooth a_weights a_signs a_worked c_states c_length c_thrown c_codes c_read c_isOpen c_hash c_left c_other c_worked c_z) sz [.ref a_t, .int x1]) (postI D o.1 (wd_X6_stepsNow cI a_t a_z a_history a_text a_left a_other a_smooth a_weights a_signs a_worked c_states c_length c_thrown c_codes c_read c_isOpen c_hash o.2.1 o.2.2.1 o.2.2.2 c_z) (wd_X6_stepsNow cI a_t a_z a_history a_text a_left a_other a_smooth a_weights a_signs a_worked c_states c_length c_thrown c_codes c_read c_isOpen c_hash c_left c_other c_worked c_z) sz) 0 0 (va_A (wd_X6_stepsNow cI a_t a_z a_history a_text a_left a_other a_smooth a_weights a_signs a_worked c_states c_length c_thrown c_codes c_read c_isOpen c_hash c_left c_other c_worked c_z) sz) := by
  refine mofI (by decide +kernel) (Nat.le_of_ble_eq_true rfl) ?_
  intro p e s m args below meth c Q A ls hx hb hml hown hts hK hP hD hS hA hG hl hret hsz0
  have hl : lv_has ls 6 [(0, .ref a_t), (1, .int x1)] := hl
  have K41 : ∀ (n41 : Nat) (c_left : Nat → Int32) (c_other : Nat → Int32) (c_worked : Nat → Int32) (x2 : Int32) (x3 : Int32) (H : Heap) (locs : List Loc) (ls : Array Slot), va_P D vwCl (wd_X6_stepsNow cI a_t a_z a_history a_text a_left a_other a_smooth a_weights a_signs a_worked c_states c_length c_thrown c_codes c_read c_isOpen c_hash c_left c_other c_worked c_z) H → va_D A (wd_X6_stepsNow cI a_t a_z a_history a_text a_left a_other a_smooth a_weights a_signs a_worked c_states c_length c_thrown c_codes c_read c_isOpen c_hash c_left c_other c_worked c_z) → va_S A s.heap H locs → lv_has ls 6 [(0, .ref a_t), (2, .int x2), (3, .int x3)] → F_X6_stepsNow_L41 c_z x1 n41 c_left c_other c_worked x2 x3 = some o → W p l e rm_X6_stepsNow s m args below meth c H locs 0 0 Q (F0 m 41 ls []) := by
    intro n41
    induction n41 with
    | zero => intro c_left c_other c_worked x2 x3 H locs ls hP hD hS hl hF; exact nos hF
    | succ n41 ih41 =>
      have K87 : ∀ (n87 : Nat) (c_left : Nat → Int32) (c_other : Nat → Int32) (c_worked : Nat → Int32) (x2 : Int32) (x3 : Int32) (x5 : Int32) (H : Heap) (locs : List Loc) (ls : Array Slot), va_P D vwCl (wd_X6_stepsNow cI a_t a_z a_history a_text a_left a_other a_smooth a_weights a_signs a_worked c_states c_length c_thrown c_codes c_read c_isOpen c_hash c_left c_other c_worked c_z) H → va_D A (wd_X6_stepsNow cI a_t a_z a_history a_text a_left a_other a_smooth a_weights a_signs a_worked c_states c_length c_thrown c_codes c_read c_isOpen c_hash c_left c_other c_worked c_z) → va_S A s.heap H locs → lv_has ls 6 [(0, .ref a_t), (2, .int x2), (3, .int x3), (5, .int x5)] → F_X6_stepsNow_L87 (F_X6_stepsNow_L41 c_z x1 n41) c_z x1 n87 c_left c_other c_worked x2 x3 x5 = some o → W p l e rm_X6_stepsNow s m args below meth c H locs 0 0 Q (F0 m 87 ls []) := by
        intro n87
        induction n87 with
        | zero => intro c_left c_other c_worked x2 x3 x5 H locs ls hP hD hS hl hF; exact nos hF
        | succ n87 ih87 =>
          intro c_left c_other c_worked x2 x3 x5 H locs ls hP hD hS hl hF
          rw [F_X6_stepsNow_L87] at hF
          refine lv_iload hx hb dX6_stepsNow_87 (lv_at hl 3 rfl) ?_
          refine lv_iload_n hx hb dX6_stepsNow_89 rfl (lv_at hl 2 rfl) ?_
          refine lv_icmp_le (tgt := 115) hx hb dX6_stepsNow_90 (by decide) (fun k90 => ?_) (fun k90 => ?_)
          · replace hF := (if_pos k90).symm.trans hF
            refine lv_iinc (v := x3 + 1) (lv' := [(3, .int (x3 + 1)), (0, .ref a_t), (2, .int x2), (5, .int x5)]) hx hb dX6_stepsNow_115 hl (k := 2) rfl rfl (by decide) rfl (fun ls hl => ?_)
            refine lv_goto (tgt := 41) hx hb dX6_stepsNow_118 (by decide) ?_
            exact ih41 c_left c_other c_worked x2 (x3 + 1) H locs ls hP hD hS (lv_sub hl [1, 2, 0] rfl) hF
          · replace hF := (if_neg k90).symm.trans hF
            refine lv_aload_n hx hb dX6_stepsNow_93 rfl (lv_at hl 0 rfl) ?_
            refine get_X6_34 hx hb hts hown hK hP 0 rfl rfl dX6_stepsNow_94 ?_
            refine lv_iload hx hb dX6_stepsNow_97 (lv_at hl 3 rfl) ?_
            refine lv_aload_n hx hb dX6_stepsNow_99 rfl (lv_at hl 0 rfl) ?_
            refine get_X6_34 hx hb hts hown hK hP 0 rfl rfl dX6_stepsNow_100 ?_
            refine lv_iload hx hb dX6_stepsNow_103 (lv_at hl 3 rfl) ?_
            refine lv_iconst (v := 1) hx hb dX6_stepsNow_105 (by decide) ?_
            refine lv_isub hx hb dX6_stepsNow_106 ?_
            obtain ⟨g107, hF⟩ := gdb hF
            refine va_iald hx hb hK hP 3 0 rfl rfl (vinb g107) dX6_stepsNow_107 ?_
            obtain ⟨g108, hF⟩ := gdb hF
            refine va_iast hx hb hK hP hD hS 3 0 rfl rfl (vinb g108) dX6_stepsNow_108 (fun H locs hP hD hS => ?_)
            have hP : va_P D vwCl (wd_X6_stepsNow cI a_t a_z a_history a_text a_left a_other a_smooth a_weights a_signs a_worked c_states c_length c_thrown c_codes c_read c_isOpen c_hash c_left c_other (upd c_worked (x5).toNatClampNeg (c_worked (x5 - (1 : Int32)).toNatClampNeg)) c_z) H := hP
            have hD : va_D A (wd_X6_stepsNow cI a_t a_z a_history a_text a_left a_other a_smooth a_weights a_signs a_worked c_states c_length c_thrown c_codes c_read c_isOpen c_hash c_left c_other (upd c_worked (x5).toNatClampNeg (c_worked (x5 - (1 : Int32)).toNatClampNeg)) c_z) := hD
            refine lv_iinc (v := x5 + (-1)) (lv' := [(5, .int (x5 + (-1))), (0, .ref a_t), (2, .int x2), (3, .int x3)]) hx hb dX6_stepsNow_109 hl (k := 3) rfl rfl (by decide) rfl (fun ls hl => ?_)
            refine lv_goto (tgt := 87) hx hb dX6_stepsNow_112 (by decide) ?_
            exact ih87 c_left c_other (upd c_worked (x5).toNatClampNeg (c_worked (x5 - (1 : Int32)).toNatClampNeg)) x2 x3 (x5 + (-1)) H locs ls hP hD hS (lv_sub hl [1, 2, 3, 0] rfl) hF
      have K54 : ∀ (n54 : Nat) (c_left : Nat → Int32) (c_other : Nat → Int32) (c_worked : Nat → Int32) (x2 : Int32) (x3 : Int32) (x4 : Int32) (H : Heap) (locs : List Loc) (ls : Array Slot), va_P D vwCl (wd_X6_stepsNow cI a_t a_z a_history a_text a_left a_other a_smooth a_weights a_signs a_worked c_states c_length c_thrown c_codes c_read c_isOpen c_hash c_left c_other c_worked c_z) H → va_D A (wd_X6_stepsNow cI a_t a_z a_history a_text a_left a_other a_smooth a_weights a_signs a_worked c_states c_length c_thrown c_codes c_read c_isOpen c_hash c_left c_other c_worked c_z) → va_S A s.heap H locs → lv_has ls 6 [(0, .ref a_t), (2, .int x2), (3, .int x3), (4, .int x4)] → F_X6_stepsNow_L54 (F_X6_stepsNow_L41 c_z x1 n41) c_z x1 n54 c_left c_other c_worked x2 x3 x4 = some o → W p l e rm_X6_stepsNow s m args below meth c H locs 0 0 Q (F0 m 54 ls []) := by
        intro n54
        induction n54 with
        | zero => intro c_left c_other c_worked x2 x3 x4 H locs ls hP hD hS hl hF; exact nos hF
        | succ n54 ih54 =>
          intro c_left c_other c_worked x2 x3 x4 H locs ls hP hD hS hl hF
          rw [F_X6_stepsNow_L54] at hF
          refine lv_aload_n hx hb dX6_stepsNow_54 rfl (lv_at hl 0 rfl) ?_
          refine get_X6_34 hx hb hts hown hK hP 0 rfl rfl dX6_stepsNow_55 ?_
          refine lv_iload hx hb dX6_stepsNow_58 (lv_at hl 3 rfl) ?_
          obtain ⟨g60, hF⟩ := gdb hF
          refine va_iald hx hb hK hP 3 0 rfl rfl (vinb g60) dX6_stepsNow_60 ?_
          refine lv_aload_n hx hb dX6_stepsNow_61 rfl (lv_at hl 0 rfl) ?_
          refine get_X6_22 hx hb hts hown hK hP 0 rfl rfl dX6_stepsNow_62 ?_
          refine lv_iload_n hx hb dX6_stepsNow_65 rfl (lv_at hl 2 rfl) ?_
          obtain ⟨g66, hF⟩ := gdb hF
          refine va_iald hx hb hK hP 2 0 rfl rfl (vinb g66) dX6_stepsNow_66 ?_
          refine lv_icmp_eq (tgt := 76) hx hb dX6_stepsNow_67 (by decide) (fun k67 => ?_) (fun k67 => ?_)
          · replace hF := (if_pos k67).symm.trans hF
            refine lv_iload_n hx hb dX6_stepsNow_76 rfl (lv_at hl 1 rfl) ?_
            refine lv_iload hx hb dX6_stepsNow_77 (lv_at hl 3 rfl) ?_
            refine lv_iload_n hx hb dX6_stepsNow_79 rfl (lv_at hl 2 rfl) ?_
            refine lv_isub hx hb dX6_stepsNow_80 ?_
            refine lv_iadd hx hb dX6_stepsNow_81 ?_
            refine lv_istore_n (lv' := [(2, .int (x2 + (x4 - x3))), (0, .ref a_t), (3, .int x3), (4, .int x4)]) hx hb dX6_stepsNow_82 rfl hl (by decide) rfl (fun ls hl => ?_)
            refine lv_iload hx hb dX6_stepsNow_83 (lv_at hl 3 rfl) ?_
            refine lv_istore (lv' := [(5, .int x4), (2, .int (x2 + (x4 - x3))), (0, .ref a_t), (3, .int x3), (4, .int x4)]) hx hb dX6_stepsNow_85 hl (by decide) rfl (fun ls hl => ?_)
            exact K87 FU c_left c_other c_worked (x2 + (x4 - x3)) x3 x4 H locs ls hP hD hS (lv_sub hl [2, 1, 3, 0] rfl) hF
          · replace hF := (if_neg k67).symm.trans hF
            refine lv_iinc (v := x4 + 1) (lv' := [(4, .int (x4 + 1)), (0, .ref a_t), (2, .int x2), (3, .int x3)]) hx hb dX6_stepsNow_70 hl (k := 3) rfl rfl (by decide) rfl (fun ls hl => ?_)
            refine lv_goto (tgt := 54) hx hb dX6_stepsNow_73 (by decide) ?_
            exact ih54 c_left c_other c_worked x2 x3 (x4 + 1) H locs ls hP hD hS (lv_sub hl [1, 2, 3, 0] rfl) hF
      intro c_left c_other c_worked x2 x3 H locs ls hP hD hS hl hF
      rw [F_X6_stepsNow_L41] at hF
      refine lv_iload_n hx hb dX6_stepsNow_41 rfl (lv_at hl 2 rfl) ?_
      refine lv_aload_n hx hb dX6_stepsNow_42 rfl (lv_at hl 0 rfl) ?_
      refine get_X6_7 hx hb hts hown hK hP 0 rfl rfl dX6_stepsNow_43 ?_
      refine lv_iconst (v := 0) hx hb dX6_stepsNow_46 (by decide) ?_
      obtain ⟨g47, hF⟩ := gdb hF
      refine va_iald hx hb hK hP 4 0 rfl rfl (vinb g47) dX6_stepsNow_47 ?_
      refine lv_icmp_ge (tgt := 121) hx hb dX6_stepsNow_48 (by decide) (fun k48 => ?_) (fun k48 => ?_)
      · replace hF := (if_pos k48).symm.trans hF
        refine lv_iload_n hx hb dX6_stepsNow_121 rfl (lv_at hl 1 rfl) ?_
        have ho := Option.some.inj hF
        exact hret H locs ls 122 x2 _ hP hS (by rw [← ho]) (by rw [← ho]) dX6_stepsNow_122
      · replace hF := (if_neg k48).symm.trans hF
        refine lv_iload_n hx hb dX6_stepsNow_51 rfl (lv_at hl 2 rfl) ?_
        refine lv_istore (lv' := [(4, .int x3), (0, .ref a_t), (2, .int x2), (3, .int x3)]) hx hb dX6_stepsNow_52 hl (by decide) rfl (fun ls hl => ?_)
        exact K54 FU c_left c_other c_worked x2 x3 x3 H locs ls hP hD hS (lv_sub hl [1, 2, 3, 0] rfl) hF
  have K7 : ∀ (n7 : Nat) (c_left : Nat → Int32) (c_other : Nat → Int32) (c_worked : Nat → Int32) (x2 : Int32) (H : Heap) (locs : List Loc) (ls : Array Slot), va_P D vwCl (wd_X6_stepsNow cI a_t a_z a_history a_text a_left a_other a_smooth a_weights a_signs a_worked c_states c_length c_thrown c_codes c_read c_isOpen c_hash c_left c_other c_worked c_z) H → va_D A (wd_X6_stepsNow cI a_t a_z a_history a_text a_left a_other a_smooth a_weights a_signs a_worked c_states c_length c_thrown c_codes c_read c_isOpen c_hash c_left c_other c_worked c_z) → va_S A s.heap H locs → lv_has ls 6 [(0, .ref a_t), (2, .int x2)] → F_X6_stepsNow_L7 c_z x1 n7 c_left c_other c_worked x2 = some o → W p l e rm_X6_stepsNow s m args below meth c H locs 0 0 Q (F0 m 7 ls []) := by
    intro n7
    induction n7 with
    | zero => intro c_left c_other c_worked x2 H locs ls hP hD hS hl hF; exact nos hF
    | succ n7 ih7 =>
      intro c_left c_other c_worked x2 H locs ls hP hD hS hl hF
      rw [F_X6_stepsNow_L7] at hF
      refine lv_iload_n hx hb dX6_stepsNow_7 rfl (lv_at hl 1 rfl) ?_
      refine lv_aload_n hx hb dX6_stepsNow_8 rfl (lv_at hl 0 rfl) ?_
      refine get_X6_7 hx hb hts hown hK hP 0 rfl rfl dX6_stepsNow_9 ?_
      refine lv_iconst (v := 0) hx hb dX6_stepsNow_12 (by decide) ?_
      obtain ⟨g13, hF⟩ := gdb hF
      refine va_iald hx hb hK hP 4 0 rfl rfl (vinb g13) dX6_stepsNow_13 ?_
      refine lv_icmp_ge (tgt := 37) hx hb dX6_stepsNow_14 (by decide) (fun k14 => ?_) (fun k14 => ?_)
      · replace hF := (if_pos k14).symm.trans hF
        refine lv_iconst (v := 0) hx hb dX6_stepsNow_37 (by decide) ?_
        refine lv_istore_n (lv' := [(2, .int (0 : Int32)), (0, .ref a_t)]) hx hb dX6_stepsNow_38 rfl hl (by decide) rfl (fun ls hl => ?_)
        refine lv_iconst (v := 0) hx hb dX6_stepsNow_39 (by decide) ?_
        refine lv_istore_n (lv' := [(3, .int (0 : Int32)), (2, .int (0 : Int32)), (0, .ref a_t)]) hx hb dX6_stepsNow_40 rfl hl (by decide) rfl (fun ls hl => ?_)
        exact K41 FU c_left c_other c_worked (0 : Int32) (0 : Int32) H locs ls hP hD hS (lv_sub hl [2, 1, 0] rfl) hF
      · replace hF := (if_neg k14).symm.trans hF
        refine lv_aload_n hx hb dX6_stepsNow_17 rfl (lv_at hl 0 rfl) ?_
        refine get_X6_34 hx hb hts hown hK hP 0 rfl rfl dX6_stepsNow_18 ?_
        refine lv_iload_n hx hb dX6_stepsNow_21 rfl (lv_at hl 1 rfl) ?_
        refine lv_aload_n hx hb dX6_stepsNow_22 rfl (lv_at hl 0 rfl) ?_
        refine get_X6_7 hx hb hts hown hK hP 0 rfl rfl dX6_stepsNow_23 ?_
        refine lv_iconst (v := 2) hx hb dX6_stepsNow_26 (by decide) ?_
        refine lv_iload_n hx hb dX6_stepsNow_27 rfl (lv_at hl 1 rfl) ?_
        refine lv_iadd hx hb dX6_stepsNow_28 ?_
        obtain ⟨g29, hF⟩ := gdb hF
        refine va_iald hx hb hK hP 4 0 rfl rfl (vinb g29) dX6_stepsNow_29 ?_
        obtain ⟨g30, hF⟩ := gdb hF
        refine va_iast hx hb hK hP hD hS 3 0 rfl rfl (vinb g30) dX6_stepsNow_30 (fun H locs hP hD hS => ?_)
        have hP : va_P D vwCl (wd_X6_stepsNow cI a_t a_z a_history a_text a_left a_other a_smooth a_weights a_signs a_worked c_states c_length c_thrown c_codes c_read c_isOpen c_hash c_left c_other (upd c_worked (x2).toNatClampNeg (c_z ((2 : Int32) + x2).toNatClampNeg)) c_z) H := hP
        have hD : va_D A (wd_X6_stepsNow cI a_t a_z a_history a_text a_left a_other a_smooth a_weights a_signs a_worked c_states c_length c_thrown c_codes c_read c_isOpen c_hash c_left c_other (upd c_worked (x2).toNatClampNeg (c_z ((2 : Int32) + x2).toNatClampNeg)) c_z) := hD
        refine lv_iinc (v := x2 + 1) (lv' := [(2, .int (x2 + 1)), (0, .ref a_t)]) hx hb dX6_stepsNow_31 hl (k := 1) rfl rfl (by decide) rfl (fun ls hl => ?_)
        refine lv_goto (tgt := 7) hx hb dX6_stepsNow_34 (by decide) ?_
        exact ih7 c_left c_other (upd c_worked (x2).toNatClampNeg (c_z ((2 : Int32) + x2).toNatClampNeg)) (x2 + 1) H locs ls hP hD hS (lv_sub hl [1, 0] rfl) hF
  unfold F_X6_stepsNow at hF
  have hP : va_P D vwCl (wd_X6_stepsNow cI a_t a_z a_history a_text a_left a_other a_smooth a_weights a_signs a_worked c_states c_length c_thrown c_codes c_read c_isOpen c_hash c_left c_other c_worked c_z) s.heap := hP
  obtain ⟨H, hH⟩ : ∃ H, H = s.heap := ⟨_, rfl⟩
  rw [← hH]
  rw [← hH] at hP
  obtain ⟨locs, hlo⟩ : ∃ z : List Loc, z = [] := ⟨_, rfl⟩
  rw [← hlo]
  have hS : va_S A s.heap H locs := by rw [hH, hlo]; exact hS
  refine lv_aload_n hx hb dX6_stepsNow_0 rfl (lv_at hl 0 rfl) ?_
  refine lv_iload_n hx hb dX6_stepsNow_1 rfl (lv_at hl 1 rfl) ?_
  obtain ⟨r2, hr2, hF⟩ := opb hF
  refine kVV (As := [.int x1]) (rest := []) (ws' := (wd_X6_stepsNow cI a_t a_z a_history a_text a_left a_other a_smooth a_weights a_signs a_worked c_states c_length c_thrown c_codes c_read c_isOpen c_hash r2.1 r2.2 c_worked c_z)) ⟨hx, hb, hml, hown, hts⟩ (c_X6_layRank l D cI a_t a_z a_history a_text a_left a_other a_smooth a_weights a_signs a_worked H.size c_states c_length c_thrown c_codes c_read c_isOpen c_hash c_left c_other c_z x1 r2 hr2) (cwV 1 hts mw_X6_103 rfl rfl rfl hd_X6_layRank ⟨Nat.le_of_ble_eq_true rfl, Nat.le_of_ble_eq_true rfl⟩) hS hA hG hK hP hD [0, 1, 2, 4] rfl rfl rfl rfl rfl ⟨Nat.zero_le _, Nat.zero_le _⟩ 6 0 rfl rfl rfl rfl hl.1 rfl (Nat.le_of_ble_eq_true rfl) dX6_stepsNow_2 (fun H locs hP hD hS => ?_)
  refine lv_iconst (v := 0) hx hb dX6_stepsNow_5 (by decide) ?_
  refine lv_istore_n (lv' := [(2, .int (0 : Int32)), (0, .ref a_t), (1, .int x1)]) hx hb dX6_stepsNow_6 rfl hl (by decide) rfl (fun ls hl => ?_)
  exact K7 FU r2.1 r2.2 c_worked (0 : Int32) H locs ls hP hD hS (lv_sub hl [1, 0] rfl) hF
abbrev wd_X6_stepsTo (cI : ClassId) (a_t a_z a_history a_text a_left a_other a_smooth a_weights a_signs a_worked : Nat) (c_states : Int32) (c_length : Int32) (c_thrown : Int32) (c_codes : Int32) (c_read : Int32) (c_isOpen : Int32) (c_hash : Int64) (c_left : Nat → Int32) (c_other : Nat → Int32) (c_worked : Nat → Int32) (c_z : Nat → Int32) : va_W := [(a_t, .inr (6, [.ref a_z, .int c_states, .ref a_history, .int c_length, .ref a_text, .int c_thrown, .ref a_left, .ref a_other, .ref a_smooth, .ref a_weights, .int c_codes, .ref a_signs, .int c_read, .int c_isOpen, .ref a_worked, .long c_hash])), (a_left, .inl (cI, 6, .inl c_left)), (a_other, .inl (cI, 11, .inl c_other)), (a_worked, .inl (cI, 11, .inl c_worked)), (a_z, .inl (cI, 13, .inl c_z))]
def rm_X6_stepsTo : Room := { frames := 5, cells := 0, slots := 0, locals := 116 }
set_option maxHeartbeats 4000000 in
set_option maxRecDepth 100000 in
theorem c_X6_stepsTo (l : Launch) (D : va_G) (cI : ClassId) (a_t a_z a_history a_text a_left a_other a_smooth a_weights a_signs a_worked : Nat) (sz : Nat) (c_states : Int32) (c_length : Int32) (c_thrown : Int32) (c_codes : Int32) (c_read : Int32) (c_isOpen : Int32) (c_hash : Int64) (c_left : Nat → Int32) (c_other : Nat → Int32) (c_worked : Nat → Int32) (c_z : Nat → Int32) (x1 : Int32) (o : Int32 × Int32 × (Nat → Int32) × (Nat → Int32) × (Nat → Int32)) (hF : F_X6_stepsTo c_thrown c_left c_other c_worked c_z x1 = some o) : Met l yX6_stepsTo (Cond.code yX6_stepsTo cX6_stepsTo 2 (some .int) :: WL) rm_X6_stepsTo (preM D [(cI, .int)] (wd_X6_stepsTo cI a_t a_z a_history a_text a_left a_other a_smooth a_weights a_signs a_worked c_states c_length c_thrown c_codes c_read c_isOpen c_hash c_left c_other c_worked c_z) sz [.ref a_t, .int x1]) (postI D o.1 (wd_X6_stepsTo cI a_t a_z a_history a_text a_left a_other a_smooth a_weights a_signs a_worked c_states c_length o.2.1 c_codes c_read c_isOpen c_hash o.2.2.1 o.2.2.2.1 o.2.2.2.2 c_z) (wd_X6_stepsTo cI a_t a_z a_history a_text a_left a_other a_smooth a_weights a_signs a_worked c_states c_length c_thrown c_codes c_read c_isOpen c_hash c_left c_other c_worked c_z) sz) 0 0 (va_A (wd_X6_stepsTo cI a_t a_z a_history a_text a_left a_other a_smooth a_weights a_signs a_worked c_states c_length c_thrown c_codes c_read c_isOpen c_hash c_left c_other c_worked c_z) sz) := by
  refine mofI (by decide +kernel) (Nat.le_of_ble_eq_true rfl) ?_
  intro p e s m args below meth c Q A ls hx hb hml hown hts hK hP hD hS hA hG hl hret hsz0
  have hl : lv_has ls 2 [(0, .ref a_t), (1, .int x1)] := hl
  have K14 : ∀ (c_thrown : Int32) (c_left : Nat → Int32) (c_other : Nat → Int32) (c_worked : Nat → Int32) (v1 : Int32)  (H : Heap) (locs : List Loc) (ls : Array Slot), va_P D vwCl (wd_X6_stepsTo cI a_t a_z a_history a_text a_left a_other a_smooth a_weights a_signs a_worked c_states c_length c_thrown c_codes c_read c_isOpen c_hash c_left c_other c_worked c_z) H → va_D A (wd_X6_stepsTo cI a_t a_z a_history a_text a_left a_other a_smooth a_weights a_signs a_worked c_states c_length c_thrown c_codes c_read c_isOpen c_hash c_left c_other c_worked c_z) → va_S A s.heap H locs → lv_has ls 2 [(0, .ref a_t), (1, .int x1)] → F_X6_stepsTo_J14 c_z x1 c_thrown c_left c_other c_worked v1 = some o → W p l e rm_X6_stepsTo s m args below meth c H locs 0 0 Q (F0 m 14 ls [.int v1, .ref a_t]) := by
    intro c_thrown c_left c_other c_worked v1 H locs ls hP hD hS hl hF
    unfold F_X6_stepsTo_J14 at hF
    refine put_X6_37 hx hb hts hown hK hP hD hS 0 rfl rfl rfl (Nat.le_of_ble_eq_true rfl) dX6_stepsTo_14 (fun H locs hP hD hS => ?_)
    have hP : va_P D vwCl (wd_X6_stepsTo cI a_t a_z a_history a_text a_left a_other a_smooth a_weights a_signs a_worked c_states c_length v1 c_codes c_read c_isOpen c_hash c_left c_other c_worked c_z) H := hP
    have hD : va_D A (wd_X6_stepsTo cI a_t a_z a_history a_text a_left a_other a_smooth a_weights a_signs a_worked c_states c_length v1 c_codes c_read c_isOpen c_hash c_left c_other c_worked c_z) := hD
    refine lv_aload_n hx hb dX6_stepsTo_17 rfl (lv_at hl 0 rfl) ?_
    refine get_X6_37 hx hb hts hown hK hP 0 rfl rfl dX6_stepsTo_18 ?_
    refine lv_if_le (tgt := 28) hx hb dX6_stepsTo_21 (by decide) (fun k21 => ?_) (fun k21 => ?_)
    · replace hF := (if_pos k21).symm.trans hF
      refine lv_aload_n hx hb dX6_stepsTo_28 rfl (lv_at hl 0 rfl) ?_
      refine lv_iload_n hx hb dX6_stepsTo_29 rfl (lv_at hl 1 rfl) ?_
      obtain ⟨r30, hr30, hF⟩ := opb hF
      refine kVI (As := [.int x1]) (rest := []) (ws' := (wd_X6_stepsTo cI a_t a_z a_history a_text a_left a_other a_smooth a_weights a_signs a_worked c_states c_length v1 c_codes c_read c_isOpen c_hash r30.2.1 r30.2.2.1 r30.2.2.2 c_z)) ⟨hx, hb, hml, hown, hts⟩ (c_X6_stepsNow l D cI a_t a_z a_history a_text a_left a_other a_smooth a_weights a_signs a_worked H.size c_states c_length v1 c_codes c_read c_isOpen c_hash c_left c_other c_worked c_z x1 r30 hr30) (cwV 1 hts mw_X6_200 rfl rfl rfl hd_X6_stepsNow ⟨Nat.le_of_ble_eq_true rfl, Nat.le_of_ble_eq_true rfl⟩) hS hA hG hK hP hD [0, 1, 2, 3, 4] rfl rfl rfl rfl rfl ⟨Nat.zero_le _, Nat.zero_le _⟩ 6 0 rfl rfl rfl rfl hl.1 rfl (Nat.le_of_ble_eq_true rfl) dX6_stepsTo_30 (fun H locs hP hD hS => ?_)
      have ho := Option.some.inj hF
      exact hret H locs ls 33 r30.1 _ hP hS (by rw [← ho]) (by rw [← ho]) dX6_stepsTo_33
    · replace hF := (if_neg k21).symm.trans hF
      refine lv_iconst (v := 0) hx hb dX6_stepsTo_24 (by decide) ?_
      refine lv_goto (tgt := 33) hx hb dX6_stepsTo_25 (by decide) ?_
      have ho := Option.some.inj hF
      exact hret H locs ls 33 (0 : Int32) _ hP hS (by rw [← ho]) (by rw [← ho]) dX6_stepsTo_33
  unfold F_X6_stepsTo at hF
  have hP : va_P D vwCl (wd_X6_stepsTo cI a_t a_z a_history a_text a_left a_other a_smooth a_weights a_signs a_worked c_states c_length c_thrown c_codes c_read c_isOpen c_hash c_left c_other c_worked c_z) s.heap := hP
  obtain ⟨H, hH⟩ : ∃ H, H = s.heap := ⟨_, rfl⟩
  rw [← hH]
  rw [← hH] at hP
  obtain ⟨locs, hlo⟩ : ∃ z : List Loc, z = [] := ⟨_, rfl⟩
  rw [← hlo]
  have hS : va_S A s.heap H locs := by rw [hH, hlo]; exact hS
  refine lv_aload_n hx hb dX6_stepsTo_0 rfl (lv_at hl 0 rfl) ?_
  refine lv_aload_n hx hb dX6_stepsTo_1 rfl (lv_at hl 0 rfl) ?_
  refine lv_iload_n hx hb dX6_stepsTo_2 rfl (lv_at hl 1 rfl) ?_
  obtain ⟨r3, hr3, hF⟩ := opb hF
  refine kVI (As := [.int x1]) (rest := [.ref a_t]) (ws' := (wd_X6_stepsTo cI a_t a_z a_history a_text a_left a_other a_smooth a_weights a_signs a_worked c_states c_length c_thrown c_codes c_read c_isOpen c_hash r3.2 c_other c_worked c_z)) ⟨hx, hb, hml, hown, hts⟩ (c_X6_isRank l D cI a_t a_z a_history a_text a_left a_other a_smooth a_weights a_signs a_worked H.size c_states c_length c_thrown c_codes c_read c_isOpen c_hash c_left c_z x1 r3 hr3) (cwV 1 hts mw_X6_93 rfl rfl rfl hd_X6_isRank ⟨Nat.le_of_ble_eq_true rfl, Nat.le_of_ble_eq_true rfl⟩) hS hA hG hK hP hD [0, 1, 4] rfl rfl rfl rfl rfl ⟨Nat.zero_le _, Nat.zero_le _⟩ 6 0 rfl rfl rfl rfl hl.1 rfl (Nat.le_of_ble_eq_true rfl) dX6_stepsTo_3 (fun H locs hP hD hS => ?_)
  refine lv_if_eq (tgt := 13) hx hb dX6_stepsTo_6 (by decide) (fun k6 => ?_) (fun k6 => ?_)
  · (try simp only [if_pos k6] at hF)
    refine lv_iconst (v := 1) hx hb dX6_stepsTo_13 (by decide) ?_
    exact K14 c_thrown r3.2 c_other c_worked (1 : Int32) H locs ls hP hD hS (lv_sub hl [0, 1] rfl) hF
  · (try simp only [if_neg k6] at hF)
    refine lv_iconst (v := 0) hx hb dX6_stepsTo_9 (by decide) ?_
    refine lv_goto (tgt := 14) hx hb dX6_stepsTo_10 (by decide) ?_
    exact K14 c_thrown r3.2 c_other c_worked (0 : Int32) H locs ls hP hD hS (lv_sub hl [0, 1] rfl) hF
abbrev wd_X6_bestNow (cI : ClassId) (a_t a_z a_history a_text a_left a_other a_smooth a_weights a_signs a_worked : Nat) (c_states : Int32) (c_length : Int32) (c_thrown : Int32) (c_codes : Int32) (c_read : Int32) (c_isOpen : Int32) (c_hash : Int64) (c_left : Nat → Int32) (c_other : Nat → Int32) (c_z : Nat → Int32) : va_W := [(a_t, .inr (6, [.ref a_z, .int c_states, .ref a_history, .int c_length, .ref a_text, .int c_thrown, .ref a_left, .ref a_other, .ref a_smooth, .ref a_weights, .int c_codes, .ref a_signs, .int c_read, .int c_isOpen, .ref a_worked, .long c_hash])), (a_left, .inl (cI, 6, .inl c_left)), (a_other, .inl (cI, 11, .inl c_other)), (a_z, .inl (cI, 13, .inl c_z))]
def rm_X6_bestNow : Room := { frames := 6, cells := 0, slots := 0, locals := 133 }
set_option maxHeartbeats 4000000 in
set_option maxRecDepth 100000 in
theorem c_X6_bestNow (l : Launch) (D : va_G) (cI : ClassId) (a_t a_z a_history a_text a_left a_other a_smooth a_weights a_signs a_worked : Nat) (sz : Nat) (c_states : Int32) (c_length : Int32) (c_thrown : Int32) (c_codes : Int32) (c_read : Int32) (c_isOpen : Int32) (c_hash : Int64) (c_left : Nat → Int32) (c_other : Nat → Int32) (c_z : Nat → Int32) (x1 : Int32) (o : Int32 × (Nat → Int32) × (Nat → Int32)) (hF : F_X6_bestNow c_left c_other c_z x1 = some o) : Met l yX6_bestNow (Cond.code yX6_bestNow cX6_bestNow 9 (some .int) :: WL) rm_X6_bestNow (preM D [(cI, .int)] (wd_X6_bestNow cI a_t a_z a_history a_text a_left a_other a_smooth a_weights a_signs a_worked c_states c_length c_thrown c_codes c_read c_isOpen c_hash c_left c_other c_z) sz [.ref a_t, .int x1]) (postI D o.1 (wd_X6_bestNow cI a_t a_z a_history a_text a_left a_other a_smooth a_weights a_signs a_worked c_states c_length c_thrown c_codes c_read c_isOpen c_hash o.2.1 o.2.2 c_z) (wd_X6_bestNow cI a_t a_z a_history a_text a_left a_other a_smooth a_weights a_signs a_worked c_states c_length c_thrown c_codes c_read c_isOpen c_hash c_left c_other c_z) sz) 0 0 (va_A (wd_X6_bestNow cI a_t a_z a_history a_text a_left a_other a_smooth a_weights a_signs a_worked c_states c_length c_thrown c_codes c_read c_isOpen c_hash c_left c_other c_z) sz) := by
  refine mofI (by decide +kernel) (Nat.le_of_ble_eq_true rfl) ?_
  intro p e s m args below meth c Q A ls hx hb hml hown hts hK hP hD hS hA hG hl hret hsz0
  have hl : lv_has ls 9 [(0, .ref a_t), (1, .int x1)] := hl
  have K10 : ∀ (n10 : Nat) (c_left : Nat → Int32) (c_other : Nat → Int32) (x2 : Int32) (x3 : Int32) (x4 : Int32) (x5 : Int32) (H : Heap) (locs : List Loc) (ls : Array Slot), va_P D vwCl (wd_X6_bestNow cI a_t a_z a_history a_text a_left a_other a_smooth a_weights a_signs a_worked c_states c_length c_thrown c_codes c_read c_isOpen c_hash c_left c_other c_z) H → va_D A (wd_X6_bestNow cI a_t a_z a_history a_text a_left a_other a_smooth a_weights a_signs a_worked c_states c_length c_thrown c_codes c_read c_isOpen c_hash c_left c_other c_z) → va_S A s.heap H locs → lv_has ls 9 [(0, .ref a_t), (1, .int x1), (2, .int x2), (3, .int x3), (4, .int x4), (5, .int x5)] → F_X6_bestNow_L10 c_z x1 n10 c_left c_other x2 x3 x4 x5 = some o → W p l e rm_X6_bestNow s m args below meth c H locs 0 0 Q (F0 m 10 ls []) := by
    intro n10
    induction n10 with
    | zero => intro c_left c_other x2 x3 x4 x5 H locs ls hP hD hS hl hF; exact nos hF
    | succ n10 ih10 =>
      have K27 : ∀ (n27 : Nat) (c_left : Nat → Int32) (c_other : Nat → Int32) (x2 : Int32) (x3 : Int32) (x4 : Int32) (x5 : Int32) (x6 : Int32) (H : Heap) (locs : List Loc) (ls : Array Slot), va_P D vwCl (wd_X6_bestNow cI a_t a_z a_history a_text a_left a_other a_smooth a_weights a_signs a_worked c_states c_length c_thrown c_codes c_read c_isOpen c_hash c_left c_other c_z) H → va_D A (wd_X6_bestNow cI a_t a_z a_history a_text a_left a_other a_smooth a_weights a_signs a_worked c_states c_length c_thrown c_codes c_read c_isOpen c_hash c_left c_other c_z) → va_S A s.heap H locs → lv_has ls 9 [(0, .ref a_t), (1, .int x1), (2, .int x2), (3, .int x3), (4, .int x4), (5, .int x5), (6, .int x6)] → F_X6_bestNow_L27 (F_X6_bestNow_L10 c_z x1 n10) c_z x1 n27 c_left c_other x2 x3 x4 x5 x6 = some o → W p l e rm_X6_bestNow s m args below meth c H locs 0 0 Q (F0 m 27 ls []) := by
        intro n27
        induction n27 with
        | zero => intro c_left c_other x2 x3 x4 x5 x6 H locs ls hP hD hS hl hF; exact nos hF
        | succ n27 ih27 =>
          have K84 : ∀ (c_left : Nat → Int32) (c_other : Nat → Int32) (x2 : Int32) (x4 : Int32) (x5 : Int32) (x6 : Int32) (x8 : Int32) (v0 : Int32)  (H : Heap) (locs : List Loc) (ls : Array Slot), va_P D vwCl (wd_X6_bestNow cI a_t a_z a_history a_text a_left a_other a_smooth a_weights a_signs a_worked c_states c_length c_thrown c_codes c_read c_isOpen c_hash c_left c_other c_z) H → va_D A (wd_X6_bestNow cI a_t a_z a_history a_text a_left a_other a_smooth a_weights a_signs a_worked c_states c_length c_thrown c_codes c_read c_isOpen c_hash c_left c_other c_z) → va_S A s.heap H locs → lv_has ls 9 [(0, .ref a_t), (1, .int x1), (2, .int x2), (4, .int x4), (5, .int x5), (6, .int x6), (8, .int x8)] → F_X6_bestNow_J84 (F_X6_bestNow_L10 c_z x1 n10) (F_X6_bestNow_L27 (F_X6_bestNow_L10 c_z x1 n10) c_z x1 n27) c_z x1 c_left c_other x2 x4 x5 x6 x8 v0 = some o → W p l e rm_X6_bestNow s m args below meth c H locs 0 0 Q (F0 m 84 ls [.int v0]) := by
            intro c_left c_other x2 x4 x5 x6 x8 v0 H locs ls hP hD hS hl hF
            unfold F_X6_bestNow_J84 at hF
            refine lv_istore_n (lv' := [(3, .int v0), (0, .ref a_t), (1, .int x1), (2, .int x2), (4, .int x4), (5, .int x5), (6, .int x6), (8, .int x8)]) hx hb dX6_bestNow_84 rfl hl (by decide) rfl (fun ls hl => ?_)
            refine lv_iload hx hb dX6_bestNow_85 (lv_at hl 7 rfl) ?_
            refine lv_if_eq (tgt := 95) hx hb dX6_bestNow_87 (by decide) (fun k87 => ?_) (fun k87 => ?_)
            · (try simp only [if_pos k87] at hF)
              refine lv_iload hx hb dX6_bestNow_95 (lv_at hl 4 rfl) ?_
              refine lv_istore (lv' := [(4, .int x4), (3, .int v0), (0, .ref a_t), (1, .int x1), (2, .int x2), (5, .int x5), (6, .int x6), (8, .int x8)]) hx hb dX6_bestNow_97 hl (by decide) rfl (fun ls hl => ?_)
              refine lv_iinc (v := x6 + 1) (lv' := [(6, .int (x6 + 1)), (4, .int x4), (3, .int v0), (0, .ref a_t), (1, .int x1), (2, .int x2), (5, .int x5), (8, .int x8)]) hx hb dX6_bestNow_99 hl (k := 6) rfl rfl (by decide) rfl (fun ls hl => ?_)
              refine lv_goto (tgt := 27) hx hb dX6_bestNow_102 (by decide) ?_
              exact ih27 c_left c_other x2 v0 x4 x5 (x6 + 1) H locs ls hP hD hS (lv_sub hl [3, 4, 5, 2, 1, 6, 0] rfl) hF
            · (try simp only [if_neg k87] at hF)
              refine lv_iload hx hb dX6_bestNow_90 (lv_at hl 6 rfl) ?_
              refine lv_goto (tgt := 97) hx hb dX6_bestNow_92 (by decide) ?_
              refine lv_istore (lv' := [(4, .int x6), (3, .int v0), (0, .ref a_t), (1, .int x1), (2, .int x2), (5, .int x5), (6, .int x6), (8, .int x8)]) hx hb dX6_bestNow_97 hl (by decide) rfl (fun ls hl => ?_)
              refine lv_iinc (v := x6 + 1) (lv' := [(6, .int (x6 + 1)), (4, .int x6), (3, .int v0), (0, .ref a_t), (1, .int x1), (2, .int x2), (5, .int x5), (8, .int x8)]) hx hb dX6_bestNow_99 hl (k := 6) rfl rfl (by decide) rfl (fun ls hl => ?_)
              refine lv_goto (tgt := 27) hx hb dX6_bestNow_102 (by decide) ?_
              exact ih27 c_left c_other x2 v0 x6 x5 (x6 + 1) H locs ls hP hD hS (lv_sub hl [3, 4, 5, 2, 1, 6, 0] rfl) hF
          have K72 : ∀ (c_left : Nat → Int32) (c_other : Nat → Int32) (x3 : Int32) (x4 : Int32) (x5 : Int32) (x6 : Int32) (x8 : Int32) (v0 : Int32)  (H : Heap) (locs : List Loc) (ls : Array Slot), va_P D vwCl (wd_X6_bestNow cI a_t a_z a_history a_text a_left a_other a_smooth a_weights a_signs a_worked c_states c_length c_thrown c_codes c_read c_isOpen c_hash c_left c_other c_z) H → va_D A (wd_X6_bestNow cI a_t a_z a_history a_text a_left a_other a_smooth a_weights a_signs a_worked c_states c_length c_thrown c_codes c_read c_isOpen c_hash c_left c_other c_z) → va_S A s.heap H locs → lv_has ls 9 [(0, .ref a_t), (1, .int x1), (3, .int x3), (4, .int x4), (5, .int x5), (6, .int x6), (8, .int x8)] → F_X6_bestNow_J72 (F_X6_bestNow_L10 c_z x1 n10) (F_X6_bestNow_L27 (F_X6_bestNow_L10 c_z x1 n10) c_z x1 n27) c_z x1 c_left c_other x3 x4 x5 x6 x8 v0 = some o → W p l e rm_X6_bestNow s m args below meth c H locs 0 0 Q (F0 m 72 ls [.int v0]) := by
            intro c_left c_other x3 x4 x5 x6 x8 v0 H locs ls hP hD hS hl hF
            unfold F_X6_bestNow_J72 at hF
            refine lv_istore_n (lv' := [(2, .int v0), (0, .ref a_t), (1, .int x1), (3, .int x3), (4, .int x4), (5, .int x5), (6, .int x6), (8, .int x8)]) hx hb dX6_bestNow_72 rfl hl (by decide) rfl (fun ls hl => ?_)
            refine lv_iload hx hb dX6_bestNow_73 (lv_at hl 7 rfl) ?_
            refine lv_if_eq (tgt := 83) hx hb dX6_bestNow_75 (by decide) (fun k75 => ?_) (fun k75 => ?_)
            · (try simp only [if_pos k75] at hF)
              refine lv_iload_n hx hb dX6_bestNow_83 rfl (lv_at hl 3 rfl) ?_
              exact K84 c_left c_other v0 x4 x5 x6 x8 x3 H locs ls hP hD hS (lv_sub hl [1, 2, 0, 4, 5, 6, 7] rfl) hF
            · (try simp only [if_neg k75] at hF)
              refine lv_iload hx hb dX6_bestNow_78 (lv_at hl 5 rfl) ?_
              refine lv_goto (tgt := 84) hx hb dX6_bestNow_80 (by decide) ?_
              exact K84 c_left c_other v0 x4 x5 x6 x8 x5 H locs ls hP hD hS (lv_sub hl [1, 2, 0, 4, 5, 6, 7] rfl) hF
          have K59 : ∀ (c_left : Nat → Int32) (c_other : Nat → Int32) (x2 : Int32) (x3 : Int32) (x4 : Int32) (x5 : Int32) (x6 : Int32) (x7 : Int32) (v0 : Int32)  (H : Heap) (locs : List Loc) (ls : Array Slot), va_P D vwCl (wd_X6_bestNow cI a_t a_z a_history a_text a_left a_other a_smooth a_weights a_signs a_worked c_states c_length c_thrown c_codes c_read c_isOpen c_hash c_left c_other c_z) H → va_D A (wd_X6_bestNow cI a_t a_z a_history a_text a_left a_other a_smooth a_weights a_signs a_worked c_states c_length c_thrown c_codes c_read c_isOpen c_hash c_left c_other c_z) → va_S A s.heap H locs → lv_has ls 9 [(0, .ref a_t), (1, .int x1), (2, .int x2), (3, .int x3), (4, .int x4), (5, .int x5), (6, .int x6), (7, .int x7)] → F_X6_bestNow_J59 (F_X6_bestNow_L10 c_z x1 n10) (F_X6_bestNow_L27 (F_X6_bestNow_L10 c_z x1 n10) c_z x1 n27) c_z x1 c_left c_other x2 x3 x4 x5 x6 x7 v0 = some o → W p l e rm_X6_bestNow s m args below meth c H locs 0 0 Q (F0 m 59 ls [.int v0]) := by
            intro c_left c_other x2 x3 x4 x5 x6 x7 v0 H locs ls hP hD hS hl hF
            unfold F_X6_bestNow_J59 at hF
            refine lv_istore (lv' := [(8, .int v0), (0, .ref a_t), (1, .int x1), (2, .int x2), (3, .int x3), (4, .int x4), (5, .int x5), (6, .int x6), (7, .int x7)]) hx hb dX6_bestNow_59 hl (by decide) rfl (fun ls hl => ?_)
            refine lv_iload hx hb dX6_bestNow_61 (lv_at hl 0 rfl) ?_
            refine lv_if_eq (tgt := 71) hx hb dX6_bestNow_63 (by decide) (fun k63 => ?_) (fun k63 => ?_)
            · (try simp only [if_pos k63] at hF)
              refine lv_iload_n hx hb dX6_bestNow_71 rfl (lv_at hl 3 rfl) ?_
              exact K72 c_left c_other x3 x4 x5 x6 v0 x2 H locs ls hP hD hS (lv_sub hl [1, 2, 4, 5, 6, 7, 0] rfl) hF
            · (try simp only [if_neg k63] at hF)
              refine lv_iload hx hb dX6_bestNow_66 (lv_at hl 8 rfl) ?_
              refine lv_goto (tgt := 72) hx hb dX6_bestNow_68 (by decide) ?_
              exact K72 c_left c_other x3 x4 x5 x6 v0 x7 H locs ls hP hD hS (lv_sub hl [1, 2, 4, 5, 6, 7, 0] rfl) hF
          intro c_left c_other x2 x3 x4 x5 x6 H locs ls hP hD hS hl hF
          rw [F_X6_bestNow_L27] at hF
          refine lv_iload hx hb dX6_bestNow_27 (lv_at hl 6 rfl) ?_
          refine lv_aload_n hx hb dX6_bestNow_29 rfl (lv_at hl 0 rfl) ?_
          refine get_X6_7 hx hb hts hown hK hP 0 rfl rfl dX6_bestNow_30 ?_
          refine lv_iconst (v := 0) hx hb dX6_bestNow_33 (by decide) ?_
          obtain ⟨g34, hF⟩ := gdb hF
          refine va_iald hx hb hK hP 3 0 rfl rfl (vinb g34) dX6_bestNow_34 ?_
          refine lv_icmp_ge (tgt := 105) hx hb dX6_bestNow_35 (by decide) (fun k35 => ?_) (fun k35 => ?_)
          · replace hF := (if_pos k35).symm.trans hF
            refine lv_iinc (v := x5 + 1) (lv' := [(5, .int (x5 + 1)), (0, .ref a_t), (1, .int x1), (2, .int x2), (3, .int x3), (4, .int x4), (6, .int x6)]) hx hb dX6_bestNow_105 hl (k := 5) rfl rfl (by decide) rfl (fun ls hl => ?_)
            refine lv_goto (tgt := 10) hx hb dX6_bestNow_108 (by decide) ?_
            exact ih10 c_left c_other x2 x3 x4 (x5 + 1) H locs ls hP hD hS (lv_sub hl [1, 2, 3, 4, 5, 0] rfl) hF
          · replace hF := (if_neg k35).symm.trans hF
            refine lv_aload_n hx hb dX6_bestNow_38 rfl (lv_at hl 0 rfl) ?_
            refine lv_iload hx hb dX6_bestNow_39 (lv_at hl 5 rfl) ?_
            refine lv_iload hx hb dX6_bestNow_41 (lv_at hl 6 rfl) ?_
            obtain ⟨r43, hr43, hF⟩ := opb hF
            refine kVI (As := [.int x5, .int x6]) (rest := []) (ws' := (wd_X6_bestNow cI a_t a_z a_history a_text a_left a_other a_smooth a_weights a_signs a_worked c_states c_length c_thrown c_codes c_read c_isOpen c_hash r43.2.1 r43.2.2 c_z)) ⟨hx, hb, hml, hown, hts⟩ (c_X6_swappedRank l D cI a_t a_z a_history a_text a_left a_other a_smooth a_weights a_signs a_worked H.size c_states c_length c_thrown c_codes c_read c_isOpen c_hash c_left c_other c_z x5 x6 r43 hr43) (cwV 2 hts mw_X6_184 rfl rfl rfl hd_X6_swappedRank ⟨Nat.le_of_ble_eq_true rfl, Nat.le_of_ble_eq_true rfl⟩) hS hA hG hK hP hD [0, 1, 2, 3] rfl rfl rfl rfl rfl ⟨Nat.zero_le _, Nat.zero_le _⟩ 6 0 rfl rfl rfl rfl hl.1 rfl (Nat.le_of_ble_eq_true rfl) dX6_bestNow_43 (fun H locs hP hD hS => ?_)
            refine lv_istore (lv' := [(7, .int r43.1), (0, .ref a_t), (1, .int x1), (2, .int x2), (3, .int x3), (4, .int x4), (5, .int x5), (6, .int x6)]) hx hb dX6_bestNow_46 hl (by decide) rfl (fun ls hl => ?_)
            refine lv_iload hx hb dX6_bestNow_48 (lv_at hl 0 rfl) ?_
            refine lv_iload_n hx hb dX6_bestNow_50 rfl (lv_at hl 3 rfl) ?_
            refine lv_icmp_le (tgt := 58) hx hb dX6_bestNow_51 (by decide) (fun k51 => ?_) (fun k51 => ?_)
            · (try simp only [if_pos k51] at hF)
              refine lv_iconst (v := 0) hx hb dX6_bestNow_58 (by decide) ?_
              exact K59 r43.2.1 r43.2.2 x2 x3 x4 x5 x6 r43.1 (0 : Int32) H locs ls hP hD hS (lv_sub hl [1, 2, 3, 4, 5, 6, 7, 0] rfl) hF
            · (try simp only [if_neg k51] at hF)
              refine lv_iconst (v := 1) hx hb dX6_bestNow_54 (by decide) ?_
              refine lv_goto (tgt := 59) hx hb dX6_bestNow_55 (by decide) ?_
              exact K59 r43.2.1 r43.2.2 x2 x3 x4 x5 x6 r43.1 (1 : Int32) H locs ls hP hD hS (lv_sub hl [1, 2, 3, 4, 5, 6, 7, 0] rfl) hF
      intro c_left c_other x2 x3 x4 x5 H locs ls hP hD hS hl hF
      rw [F_X6_bestNow_L10] at hF
      refine lv_iload hx hb dX6_bestNow_10 (lv_at hl 5 rfl) ?_
      refine lv_aload_n hx hb dX6_bestNow_12 rfl (lv_at hl 0 rfl) ?_
      refine get_X6_7 hx hb hts hown hK hP 0 rfl rfl dX6_bestNow_13 ?_
      refine lv_iconst (v := 0) hx hb dX6_bestNow_16 (by decide) ?_
      obtain ⟨g17, hF⟩ := gdb hF
      refine va_iald hx hb hK hP 3 0 rfl rfl (vinb g17) dX6_bestNow_17 ?_
      refine lv_icmp_ge (tgt := 111) hx hb dX6_bestNow_18 (by decide) (fun k18 => ?_) (fun k18 => ?_)
      · replace hF := (if_pos k18).symm.trans hF
        refine lv_iload_n hx hb dX6_bestNow_111 rfl (lv_at hl 1 rfl) ?_
        refine lv_if_ne (tgt := 119) hx hb dX6_bestNow_112 (by decide) (fun k112 => ?_) (fun k112 => ?_)
        · (try simp only [if_neg k112] at hF)
          refine lv_iload_n hx hb dX6_bestNow_119 rfl (lv_at hl 1 rfl) ?_
          refine lv_iconst (v := 1) hx hb dX6_bestNow_120 (by decide) ?_
          refine lv_icmp_ne (tgt := 128) hx hb dX6_bestNow_121 (by decide) (fun k121 => ?_) (fun k121 => ?_)
          · (try simp only [if_neg k121] at hF)
            refine lv_iload hx hb dX6_bestNow_128 (lv_at hl 4 rfl) ?_
            have ho := Option.some.inj hF
            exact hret H locs ls 130 x4 _ hP hS (by rw [← ho]) (by rw [← ho]) dX6_bestNow_130
          · (try simp only [if_pos k121] at hF)
            refine lv_iload_n hx hb dX6_bestNow_124 rfl (lv_at hl 3 rfl) ?_
            refine lv_goto (tgt := 130) hx hb dX6_bestNow_125 (by decide) ?_
            have ho := Option.some.inj hF
            exact hret H locs ls 130 x3 _ hP hS (by rw [← ho]) (by rw [← ho]) dX6_bestNow_130
        · (try simp only [if_pos k112] at hF)
          refine lv_iload_n hx hb dX6_bestNow_115 rfl (lv_at hl 2 rfl) ?_
          refine lv_goto (tgt := 130) hx hb dX6_bestNow_116 (by decide) ?_
          have ho := Option.some.inj hF
          exact hret H locs ls 130 x2 _ hP hS (by rw [← ho]) (by rw [← ho]) dX6_bestNow_130
      · replace hF := (if_neg k18).symm.trans hF
        refine lv_iload hx hb dX6_bestNow_21 (lv_at hl 5 rfl) ?_
        refine lv_iconst (v := 1) hx hb dX6_bestNow_23 (by decide) ?_
        refine lv_iadd hx hb dX6_bestNow_24 ?_
        refine lv_istore (lv' := [(6, .int (x5 + (1 : Int32))), (0, .ref a_t), (1, .int x1), (2, .int x2), (3, .int x3), (4, .int x4), (5, .int x5)]) hx hb dX6_bestNow_25 hl (by decide) rfl (fun ls hl => ?_)
        exact K27 FU c_left c_other x2 x3 x4 x5 (x5 + (1 : Int32)) H locs ls hP hD hS (lv_sub hl [1, 2, 3, 4, 5, 6, 0] rfl) hF
  unfold F_X6_bestNow at hF
  have hP : va_P D vwCl (wd_X6_bestNow cI a_t a_z a_history a_text a_left a_other a_smooth a_weights a_signs a_worked c_states c_length c_thrown c_codes c_read c_isOpen c_hash c_left c_other c_z) s.heap := hP
  obtain ⟨H, hH⟩ : ∃ H, H = s.heap := ⟨_, rfl⟩
  rw [← hH]
  rw [← hH] at hP
  obtain ⟨locs, hlo⟩ : ∃ z : List Loc, z = [] := ⟨_, rfl⟩
  rw [← hlo]
  have hS : va_S A s.heap H locs := by rw [hH, hlo]; exact hS
  refine lv_iconst (v := (-1)) hx hb dX6_bestNow_0 (by decide) ?_
  refine lv_istore_n (lv' := [(2, .int ((-1) : Int32)), (0, .ref a_t), (1, .int x1)]) hx hb dX6_bestNow_1 rfl hl (by decide) rfl (fun ls hl => ?_)
  refine lv_iconst (v := (-1)) hx hb dX6_bestNow_2 (by decide) ?_
  refine lv_istore_n (lv' := [(3, .int ((-1) : Int32)), (2, .int ((-1) : Int32)), (0, .ref a_t), (1, .int x1)]) hx hb dX6_bestNow_3 rfl hl (by decide) rfl (fun ls hl => ?_)
  refine lv_iconst (v := (-1)) hx hb dX6_bestNow_4 (by decide) ?_
  refine lv_istore (lv' := [(4, .int ((-1) : Int32)), (3, .int ((-1) : Int32)), (2, .int ((-1) : Int32)), (0, .ref a_t), (1, .int x1)]) hx hb dX6_bestNow_5 hl (by decide) rfl (fun ls hl => ?_)
  refine lv_iconst (v := 0) hx hb dX6_bestNow_7 (by decide) ?_
  refine lv_istore (lv' := [(5, .int (0 : Int32)), (4, .int ((-1) : Int32)), (3, .int ((-1) : Int32)), (2, .int ((-1) : Int32)), (0, .ref a_t), (1, .int x1)]) hx hb dX6_bestNow_8 hl (by decide) rfl (fun ls hl => ?_)
  exact K10 FU c_left c_other ((-1) : Int32) ((-1) : Int32) ((-1) : Int32) (0 : Int32) H locs ls hP hD hS (lv_sub hl [4, 5, 3, 2, 1, 0] rfl) hF
abbrev wd_X6_bestSwap (cI : ClassId) (a_t a_z a_history a_text a_left a_other a_smooth a_weights a_signs a_worked : Nat) (c_states : Int32) (c_length : Int32) (c_thrown : Int32) (c_codes : Int32) (c_read : Int32) (c_isOpen : Int32) (c_hash : Int64) (c_left : Nat → Int32) (c_other : Nat → Int32) (c_z : Nat → Int32) : va_W := [(a_t, .inr (6, [.ref a_z, .int c_states, .ref a_history, .int c_length, .ref a_text, .int c_thrown, .ref a_left, .ref a_other, .ref a_smooth, .ref a_weights, .int c_codes, .ref a_signs, .int c_read, .int c_isOpen, .ref a_worked, .long c_hash])), (a_left, .inl (cI, 6, .inl c_left)), (a_other, .inl (cI, 11, .inl c_other)), (a_z, .inl (cI, 13, .inl c_z))]
def rm_X6_bestSwap : Room := { frames := 7, cells := 0, slots := 0, locals := 161 }
set_option maxHeartbeats 4000000 in
set_option maxRecDepth 100000 in
theorem c_X6_bestSwap (l : Launch) (D : va_G) (cI : ClassId) (a_t a_z a_history a_text a_left a_other a_smooth a_weights a_signs a_worked : Nat) (sz : Nat) (c_states : Int32) (c_length : Int32) (c_thrown : Int32) (c_codes : Int32) (c_read : Int32) (c_isOpen : Int32) (c_hash : Int64) (c_left : Nat → Int32) (c_other : Nat → Int32) (c_z : Nat → Int32) (x1 : Int32) (o : Int32 × Int32 × (Nat → Int32) × (Nat → Int32)) (hF : F_X6_bestSwap c_thrown c_left c_other c_z x1 = some o) : Met l yX6_bestSwap (Cond.code yX6_bestSwap cX6_bestSwap 2 (some .int) :: WL) rm_X6_bestSwap (preM D [(cI, .int)] (wd_X6_bestSwap cI a_t a_z a_history a_text a_left a_other a_smooth a_weights a_signs a_worked c_states c_length c_thrown c_codes c_read c_isOpen c_hash c_left c_other c_z) sz [.ref a_t, .int x1]) (postI D o.1 (wd_X6_bestSwap cI a_t a_z a_history a_text a_left a_other a_smooth a_weights a_signs a_worked c_states c_length o.2.1 c_codes c_read c_isOpen c_hash o.2.2.1 o.2.2.2 c_z) (wd_X6_bestSwap cI a_t a_z a_history a_text a_left a_other a_smooth a_weights a_signs a_worked c_states c_length c_thrown c_codes c_read c_isOpen c_hash c_left c_other c_z) sz) 0 0 (va_A (wd_X6_bestSwap cI a_t a_z a_history a_text a_left a_other a_smooth a_weights a_signs a_worked c_states c_length c_thrown c_codes c_read c_isOpen c_hash c_left c_other c_z) sz) := by
  refine mofI (by decide +kernel) (Nat.le_of_ble_eq_true rfl) ?_
  intro p e s m args below meth c Q A ls hx hb hml hown hts hK hP hD hS hA hG hl hret hsz0
  have hl : lv_has ls 2 [(0, .ref a_t), (1, .int x1)] := hl
  have K15 : ∀ (c_thrown : Int32) (c_left : Nat → Int32) (c_other : Nat → Int32) (v1 : Int32)  (H : Heap) (locs : List Loc) (ls : Array Slot), va_P D vwCl (wd_X6_bestSwap cI a_t a_z a_history a_text a_left a_other a_smooth a_weights a_signs a_worked c_states c_length c_thrown c_codes c_read c_isOpen c_hash c_left c_other c_z) H → va_D A (wd_X6_bestSwap cI a_t a_z a_history a_text a_left a_other a_smooth a_weights a_signs a_worked c_states c_length c_thrown c_codes c_read c_isOpen c_hash c_left c_other c_z) → va_S A s.heap H locs → lv_has ls 2 [(0, .ref a_t), (1, .int x1)] → F_X6_bestSwap_J15 c_z x1 c_thrown c_left c_other v1 = some o → W p l e rm_X6_bestSwap s m args below meth c H locs 0 0 Q (F0 m 15 ls [.int v1, .ref a_t]) := by
    intro c_thrown c_left c_other v1 H locs ls hP hD hS hl hF
    unfold F_X6_bestSwap_J15 at hF
    refine put_X6_37 hx hb hts hown hK hP hD hS 0 rfl rfl rfl (Nat.le_of_ble_eq_true rfl) dX6_bestSwap_15 (fun H locs hP hD hS => ?_)
    have hP : va_P D vwCl (wd_X6_bestSwap cI a_t a_z a_history a_text a_left a_other a_smooth a_weights a_signs a_worked c_states c_length v1 c_codes c_read c_isOpen c_hash c_left c_other c_z) H := hP
    have hD : va_D A (wd_X6_bestSwap cI a_t a_z a_history a_text a_left a_other a_smooth a_weights a_signs a_worked c_states c_length v1 c_codes c_read c_isOpen c_hash c_left c_other c_z) := hD
    refine lv_aload_n hx hb dX6_bestSwap_18 rfl (lv_at hl 0 rfl) ?_
    refine get_X6_37 hx hb hts hown hK hP 0 rfl rfl dX6_bestSwap_19 ?_
    refine lv_if_le (tgt := 29) hx hb dX6_bestSwap_22 (by decide) (fun k22 => ?_) (fun k22 => ?_)
    · replace hF := (if_pos k22).symm.trans hF
      refine lv_aload_n hx hb dX6_bestSwap_29 rfl (lv_at hl 0 rfl) ?_
      refine lv_iload_n hx hb dX6_bestSwap_30 rfl (lv_at hl 1 rfl) ?_
      obtain ⟨r31, hr31, hF⟩ := opb hF
      refine kVI (As := [.int x1]) (rest := []) (ws' := (wd_X6_bestSwap cI a_t a_z a_history a_text a_left a_other a_smooth a_weights a_signs a_worked c_states c_length v1 c_codes c_read c_isOpen c_hash r31.2.1 r31.2.2 c_z)) ⟨hx, hb, hml, hown, hts⟩ (c_X6_bestNow l D cI a_t a_z a_history a_text a_left a_other a_smooth a_weights a_signs a_worked H.size c_states c_length v1 c_codes c_read c_isOpen c_hash c_left c_other c_z x1 r31 hr31) (cwV 1 hts mw_X6_203 rfl rfl rfl hd_X6_bestNow ⟨Nat.le_of_ble_eq_true rfl, Nat.le_of_ble_eq_true rfl⟩) hS hA hG hK hP hD [0, 1, 2, 3] rfl rfl rfl rfl rfl ⟨Nat.zero_le _, Nat.zero_le _⟩ 6 0 rfl rfl rfl rfl hl.1 rfl (Nat.le_of_ble_eq_true rfl) dX6_bestSwap_31 (fun H locs hP hD hS => ?_)
      have ho := Option.some.inj hF
      exact hret H locs ls 34 r31.1 _ hP hS (by rw [← ho]) (by rw [← ho]) dX6_bestSwap_34
    · replace hF := (if_neg k22).symm.trans hF
      refine lv_iconst (v := 0) hx hb dX6_bestSwap_25 (by decide) ?_
      refine lv_goto (tgt := 34) hx hb dX6_bestSwap_26 (by decide) ?_
      have ho := Option.some.inj hF
      exact hret H locs ls 34 (0 : Int32) _ hP hS (by rw [← ho]) (by rw [← ho]) dX6_bestSwap_34
  unfold F_X6_bestSwap at hF
  have hP : va_P D vwCl (wd_X6_bestSwap cI a_t a_z a_history a_text a_left a_other a_smooth a_weights a_signs a_worked c_states c_length c_thrown c_codes c_read c_isOpen c_hash c_left c_other c_z) s.heap := hP
  obtain ⟨H, hH⟩ : ∃ H, H = s.heap := ⟨_, rfl⟩
  rw [← hH]
  rw [← hH] at hP
  obtain ⟨locs, hlo⟩ : ∃ z : List Loc, z = [] := ⟨_, rfl⟩
  rw [← hlo]
  have hS : va_S A s.heap H locs := by rw [hH, hlo]; exact hS
  refine lv_aload_n hx hb dX6_bestSwap_0 rfl (lv_at hl 0 rfl) ?_
  refine lv_iload_n hx hb dX6_bestSwap_1 rfl (lv_at hl 1 rfl) ?_
  refine lv_iconst (v := 0) hx hb dX6_bestSwap_2 (by decide) ?_
  refine lv_iconst (v := 2) hx hb dX6_bestSwap_3 (by decide) ?_
  obtain ⟨r4, hr4, hF⟩ := opb hF
  refine kSI (As := [.int x1, .int (0 : Int32), .int (2 : Int32)]) (rest := [.ref a_t]) (ws' := (wd_X6_bestSwap cI a_t a_z a_history a_text a_left a_other a_smooth a_weights a_signs a_worked c_states c_length c_thrown c_codes c_read c_isOpen c_hash c_left c_other c_z)) ⟨hx, hb, hml, hown, hts⟩ (c_X6_within l D cI  H.size  x1 (0 : Int32) (2 : Int32) r4 hr4) (va_cwS 3 hts mw_X6_44 rfl rfl rfl hd_X6_within ⟨Nat.le_of_ble_eq_true rfl, Nat.le_of_ble_eq_true rfl⟩) hS hA hG hK hP hD [] rfl rfl rfl rfl rfl ⟨Nat.zero_le _, Nat.zero_le _⟩ rfl hl.1 rfl (Nat.le_of_ble_eq_true rfl) dX6_bestSwap_4 (fun H locs hP hD hS => ?_)
  refine lv_if_eq (tgt := 14) hx hb dX6_bestSwap_7 (by decide) (fun k7 => ?_) (fun k7 => ?_)
  · (try simp only [if_pos k7] at hF)
    refine lv_iconst (v := 1) hx hb dX6_bestSwap_14 (by decide) ?_
    exact K15 c_thrown c_left c_other (1 : Int32) H locs ls hP hD hS (lv_sub hl [0, 1] rfl) hF
  · (try simp only [if_neg k7] at hF)
    refine lv_iconst (v := 0) hx hb dX6_bestSwap_10 (by decide) ?_
    refine lv_goto (tgt := 15) hx hb dX6_bestSwap_11 (by decide) ?_
    exact K15 c_thrown c_left c_other (0 : Int32) H locs ls hP hD hS (lv_sub hl [0, 1] rfl) hF
abbrev wd_X6_shareNow (cI : ClassId) (a_t a_z a_history a_text a_left a_other a_smooth a_weights a_signs a_worked : Nat) (c_states : Int32) (c_length : Int32) (c_thrown : Int32) (c_codes : Int32) (c_read : Int32) (c_isOpen : Int32) (c_hash : Int64) (c_left : Nat → Int32) (c_other : Nat → Int32) (c_z : Nat → Int32) : va_W := [(a_t, .inr (6, [.ref a_z, .int c_states, .ref a_history, .int c_length, .ref a_text, .int c_thrown, .ref a_left, .ref a_other, .ref a_smooth, .ref a_weights, .int c_codes, .ref a_signs, .int c_read, .int c_isOpen, .ref a_worked, .long c_hash])), (a_left, .inl (cI, 6, .inl c_left)), (a_other, .inl (cI, 11, .inl c_other)), (a_z, .inl (cI, 13, .inl c_z))]
def rm_X6_shareNow : Room := { frames := 6, cells := 0, slots := 0, locals := 131 }
set_option maxHeartbeats 4000000 in
set_option maxRecDepth 100000 in
theorem c_X6_shareNow (l : Launch) (D : va_G) (cI : ClassId) (a_t a_z a_history a_text a_left a_other a_smooth a_weights a_signs a_worked : Nat) (sz : Nat) (c_states : Int32) (c_length : Int32) (c_thrown : Int32) (c_codes : Int32) (c_read : Int32) (c_isOpen : Int32) (c_hash : Int64) (c_left : Nat → Int32) (c_other : Nat → Int32) (c_z : Nat → Int32) (o : UInt64 × (Nat → Int32) × (Nat → Int32)) (hF : F_X6_shareNow c_left c_other c_z = some o) : Met l yX6_shareNow (Cond.code yX6_shareNow cX6_shareNow 1 (some .double) :: WL) rm_X6_shareNow (preM D [(cI, .int)] (wd_X6_shareNow cI a_t a_z a_history a_text a_left a_other a_smooth a_weights a_signs a_worked c_states c_length c_thrown c_codes c_read c_isOpen c_hash c_left c_other c_z) sz [.ref a_t]) (postD D o.1 (wd_X6_shareNow cI a_t a_z a_history a_text a_left a_other a_smooth a_weights a_signs a_worked c_states c_length c_thrown c_codes c_read c_isOpen c_hash o.2.1 o.2.2 c_z) (wd_X6_shareNow cI a_t a_z a_history a_text a_left a_other a_smooth a_weights a_signs a_worked c_states c_length c_thrown c_codes c_read c_isOpen c_hash c_left c_other c_z) sz) 0 0 (va_A (wd_X6_shareNow cI a_t a_z a_history a_text a_left a_other a_smooth a_weights a_signs a_worked c_states c_length c_thrown c_codes c_read c_isOpen c_hash c_left c_other c_z) sz) := by
  refine mofD (by decide +kernel) (Nat.le_of_ble_eq_true rfl) ?_
  intro p e s m args below meth c Q A ls hx hb hml hown hts hK hP hD hS hA hG hl hret hsz0
  have hl : lv_has ls 1 [(0, .ref a_t)] := hl
  unfold F_X6_shareNow at hF
  have hP : va_P D vwCl (wd_X6_shareNow cI a_t a_z a_history a_text a_left a_other a_smooth a_weights a_signs a_worked c_states c_length c_thrown c_codes c_read c_isOpen c_hash c_left c_other c_z) s.heap := hP
  obtain ⟨H, hH⟩ : ∃ H, H = s.heap := ⟨_, rfl⟩
  rw [← hH]
  rw [← hH] at hP
  obtain ⟨locs, hlo⟩ : ∃ z : List Loc, z = [] := ⟨_, rfl⟩
  rw [← hlo]
  have hS : va_S A s.heap H locs := by rw [hH, hlo]; exact hS
  refine lv_aload_n hx hb dX6_shareNow_0 rfl (lv_at hl 0 rfl) ?_
  obtain ⟨r1, hr1, hF⟩ := opb hF
  refine kVI (As := []) (rest := []) (ws' := (wd_X6_shareNow cI a_t a_z a_history a_text a_left a_other a_smooth a_weights a_signs a_worked c_states c_length c_thrown c_codes c_read c_isOpen c_hash r1.2.1 r1.2.2 c_z)) ⟨hx, hb, hml, hown, hts⟩ (c_X6_rankNow l D cI a_t a_z a_history a_text a_left a_other a_smooth a_weights a_signs a_worked H.size c_states c_length c_thrown c_codes c_read c_isOpen c_hash c_left c_other c_z  r1 hr1) (cwV 0 hts mw_X6_97 rfl rfl rfl hd_X6_rankNow ⟨Nat.le_of_ble_eq_true rfl, Nat.le_of_ble_eq_true rfl⟩) hS hA hG hK hP hD [0, 1, 2, 3] rfl rfl rfl rfl rfl ⟨Nat.zero_le _, Nat.zero_le _⟩ 6 0 rfl rfl rfl rfl hl.1 rfl (Nat.le_of_ble_eq_true rfl) dX6_shareNow_1 (fun H locs hP hD hS => ?_)
  refine lv_i2d hx hb dX6_shareNow_4 ?_
  refine lv_aload_n hx hb dX6_shareNow_5 rfl (lv_at hl 0 rfl) ?_
  obtain ⟨r6, hr6, hF⟩ := opb hF
  refine kVI (As := []) (rest := [.double (FP.i2d r1.1)]) (ws' := (wd_X6_shareNow cI a_t a_z a_history a_text a_left a_other a_smooth a_weights a_signs a_worked c_states c_length c_thrown c_codes c_read c_isOpen c_hash r6.2 r1.2.2 c_z)) ⟨hx, hb, hml, hown, hts⟩ (c_X6_allRows l D cI a_t a_z a_history a_text a_left a_other a_smooth a_weights a_signs a_worked H.size c_states c_length c_thrown c_codes c_read c_isOpen c_hash r1.2.1 c_z  r6 hr6) (cwV 0 hts mw_X6_71 rfl rfl rfl hd_X6_allRows ⟨Nat.le_of_ble_eq_true rfl, Nat.le_of_ble_eq_true rfl⟩) hS hA hG hK hP hD [0, 1, 3] rfl rfl rfl rfl rfl ⟨Nat.zero_le _, Nat.zero_le _⟩ 6 0 rfl rfl rfl rfl hl.1 rfl (Nat.le_of_ble_eq_true rfl) dX6_shareNow_6 (fun H locs hP hD hS => ?_)
  refine lv_i2d hx hb dX6_shareNow_9 ?_
  obtain ⟨g10, hF⟩ := gdb hF
  refine lv_ddiv hx hb dX6_shareNow_10 (nnb g10) ?_
  have ho := Option.some.inj hF
  exact hret H locs ls 11 (FP.ddiv (FP.i2d r1.1) (FP.i2d r6.1)) _ hP hS (by rw [← ho]) (by rw [← ho]) dX6_shareNow_11
abbrev wd_X6_share (cI : ClassId) (a_t a_z a_history a_text a_left a_other a_smooth a_weights a_signs a_worked : Nat) (c_states : Int32) (c_length : Int32) (c_thrown : Int32) (c_codes : Int32) (c_read : Int32) (c_isOpen : Int32) (c_hash : Int64) (c_left : Nat → Int32) (c_other : Nat → Int32) (c_z : Nat → Int32) : va_W := [(a_t, .inr (6, [.ref a_z, .int c_states, .ref a_history, .int c_length, .ref a_text, .int c_thrown, .ref a_left, .ref a_other, .ref a_smooth, .ref a_weights, .int c_codes, .ref a_signs, .int c_read, .int c_isOpen, .ref a_worked, .long c_hash])), (a_left, .inl (cI, 6, .inl c_left)), (a_other, .inl (cI, 11, .inl c_other)), (a_z, .inl (cI, 13, .inl c_z))]
def rm_X6_share : Room := { frames := 7, cells := 0, slots := 0, locals := 151 }
set_option maxHeartbeats 4000000 in
set_option maxRecDepth 100000 in
theorem c_X6_share (l : Launch) (D : va_G) (cI : ClassId) (a_t a_z a_history a_text a_left a_other a_smooth a_weights a_signs a_worked : Nat) (sz : Nat) (c_states : Int32) (c_length : Int32) (c_thrown : Int32) (c_codes : Int32) (c_read : Int32) (c_isOpen : Int32) (c_hash : Int64) (c_left : Nat → Int32) (c_other : Nat → Int32) (c_z : Nat → Int32) (o : UInt64 × Int32 × (Nat → Int32) × (Nat → Int32)) (hF : F_X6_share c_thrown c_left c_other c_z = some o) : Met l yX6_share (Cond.code yX6_share cX6_share 1 (some .double) :: WL) rm_X6_share (preM D [(cI, .int)] (wd_X6_share cI a_t a_z a_history a_text a_left a_other a_smooth a_weights a_signs a_worked c_states c_length c_thrown c_codes c_read c_isOpen c_hash c_left c_other c_z) sz [.ref a_t]) (postD D o.1 (wd_X6_share cI a_t a_z a_history a_text a_left a_other a_smooth a_weights a_signs a_worked c_states c_length o.2.1 c_codes c_read c_isOpen c_hash o.2.2.1 o.2.2.2 c_z) (wd_X6_share cI a_t a_z a_history a_text a_left a_other a_smooth a_weights a_signs a_worked c_states c_length c_thrown c_codes c_read c_isOpen c_hash c_left c_other c_z) sz) 0 0 (va_A (wd_X6_share cI a_t a_z a_history a_text a_left a_other a_smooth a_weights a_signs a_worked c_states c_length c_thrown c_codes c_read c_isOpen c_hash c_left c_other c_z) sz) := by
  refine mofD (by decide +kernel) (Nat.le_of_ble_eq_true rfl) ?_
  intro p e s m args below meth c Q A ls hx hb hml hown hts hK hP hD hS hA hG hl hret hsz0
  have hl : lv_has ls 1 [(0, .ref a_t)] := hl
  unfold F_X6_share at hF
  have hP : va_P D vwCl (wd_X6_share cI a_t a_z a_history a_text a_left a_other a_smooth a_weights a_signs a_worked c_states c_length c_thrown c_codes c_read c_isOpen c_hash c_left c_other c_z) s.heap := hP
  obtain ⟨H, hH⟩ : ∃ H, H = s.heap := ⟨_, rfl⟩
  rw [← hH]
  rw [← hH] at hP
  obtain ⟨locs, hlo⟩ : ∃ z : List Loc, z = [] := ⟨_, rfl⟩
  rw [← hlo]
  have hS : va_S A s.heap H locs := by rw [hH, hlo]; exact hS
  refine lv_aload_n hx hb dX6_share_0 rfl (lv_at hl 0 rfl) ?_
  refine lv_iconst (v := 0) hx hb dX6_share_1 (by decide) ?_
  refine put_X6_37 hx hb hts hown hK hP hD hS 0 rfl rfl rfl (Nat.le_of_ble_eq_true rfl) dX6_share_2 (fun H locs hP hD hS => ?_)
  have hP : va_P D vwCl (wd_X6_share cI a_t a_z a_history a_text a_left a_other a_smooth a_weights a_signs a_worked c_states c_length (0 : Int32) c_codes c_read c_isOpen c_hash c_left c_other c_z) H := hP
  have hD : va_D A (wd_X6_share cI a_t a_z a_history a_text a_left a_other a_smooth a_weights a_signs a_worked c_states c_length (0 : Int32) c_codes c_read c_isOpen c_hash c_left c_other c_z) := hD
  refine lv_aload_n hx hb dX6_share_5 rfl (lv_at hl 0 rfl) ?_
  obtain ⟨r6, hr6, hF⟩ := opb hF
  refine kVD (As := []) (rest := []) (ws' := (wd_X6_share cI a_t a_z a_history a_text a_left a_other a_smooth a_weights a_signs a_worked c_states c_length (0 : Int32) c_codes c_read c_isOpen c_hash r6.2.1 r6.2.2 c_z)) ⟨hx, hb, hml, hown, hts⟩ (c_X6_shareNow l D cI a_t a_z a_history a_text a_left a_other a_smooth a_weights a_signs a_worked H.size c_states c_length (0 : Int32) c_codes c_read c_isOpen c_hash c_left c_other c_z  r6 hr6) (cwV 0 hts mw_X6_206 rfl rfl rfl hd_X6_shareNow ⟨Nat.le_of_ble_eq_true rfl, Nat.le_of_ble_eq_true rfl⟩) hS hA hG hK hP hD [0, 1, 2, 3] rfl rfl rfl rfl rfl ⟨Nat.zero_le _, Nat.zero_le _⟩ 6 0 rfl rfl rfl rfl hl.1 rfl (Nat.le_of_ble_eq_true rfl) dX6_share_6 (fun H locs hP hD hS => ?_)
  have ho := Option.some.inj hF
  exact hret H locs ls 9 r6.1 _ hP hS (by rw [← ho]) (by rw [← ho]) dX6_share_9
abbrev wd_X6_mix (cI : ClassId) (a_t a_z a_history a_text a_left a_other a_smooth a_weights a_signs a_worked : Nat) (c_states : Int32) (c_length : Int32) (c_thrown : Int32) (c_codes : Int32) (c_read : Int32) (c_isOpen : Int32) (c_hash : Int64) : va_W := [(a_t, .inr (6, [.ref a_z, .int c_states, .ref a_history, .int c_length, .ref a_text, .int c_thrown, .ref a_left, .ref a_other, .ref a_smooth, .ref a_weights, .int c_codes, .ref a_signs, .int c_read, .int c_isOpen, .ref a_worked, .long c_hash]))]
def rm_X6_mix : Room := { frames := 0, cells := 0, slots := 0, locals := 0 }
set_option maxHeartbeats 4000000 in
set_option maxRecDepth 100000 in
theorem c_X6_mix (l : Launch) (D : va_G) (cI : ClassId) (a_t a_z a_history a_text a_left a_other a_smooth a_weights a_signs a_worked : Nat) (sz : Nat) (c_states : Int32) (c_length : Int32) (c_thrown : Int32) (c_codes : Int32) (c_read : Int32) (c_isOpen : Int32) (c_hash : Int64) (x1 : Int64) (o : Int64) (hF : F_X6_mix c_hash x1 = some o) : Met l yX6_mix (Cond.code yX6_mix cX6_mix 3 none :: WL) rm_X6_mix (preM D [(cI, .int)] (wd_X6_mix cI a_t a_z a_history a_text a_left a_other a_smooth a_weights a_signs a_worked c_states c_length c_thrown c_codes c_read c_isOpen c_hash) sz [.ref a_t, .long x1]) (postV D (wd_X6_mix cI a_t a_z a_history a_text a_left a_other a_smooth a_weights a_signs a_worked c_states c_length c_thrown c_codes c_read c_isOpen o) (wd_X6_mix cI a_t a_z a_history a_text a_left a_other a_smooth a_weights a_signs a_worked c_states c_length c_thrown c_codes c_read c_isOpen c_hash) sz) 0 0 (va_A (wd_X6_mix cI a_t a_z a_history a_text a_left a_other a_smooth a_weights a_signs a_worked c_states c_length c_thrown c_codes c_read c_isOpen c_hash) sz) := by
  refine mofV (by decide +kernel) (Nat.le_of_ble_eq_true rfl) ?_
  intro p e s m args below meth c Q A ls hx hb hml hown hts hK hP hD hS hA hG hl hret hsz0
  have hl : lv_has ls 3 [(0, .ref a_t), (1, .long x1)] := hl
  unfold F_X6_mix at hF
  have hP : va_P D vwCl (wd_X6_mix cI a_t a_z a_history a_text a_left a_other a_smooth a_weights a_signs a_worked c_states c_length c_thrown c_codes c_read c_isOpen c_hash) s.heap := hP
  obtain ⟨H, hH⟩ : ∃ H, H = s.heap := ⟨_, rfl⟩
  rw [← hH]
  rw [← hH] at hP
  obtain ⟨locs, hlo⟩ : ∃ z : List Loc, z = [] := ⟨_, rfl⟩
  rw [← hlo]
  have hS : va_S A s.heap H locs := by rw [hH, hlo]; exact hS
  refine lv_aload_n hx hb dX6_mix_0 rfl (lv_at hl 0 rfl) ?_
  refine lv_ldc2 (v := 31) hx hb hown (hts _ k5_161) dX6_mix_1 ?_
  refine lv_aload_n hx hb dX6_mix_4 rfl (lv_at hl 0 rfl) ?_
  refine get_X6_212 hx hb hts hown hK hP 0 rfl rfl dX6_mix_5 ?_
  refine lv_lmul hx hb dX6_mix_8 ?_
  refine lv_lload_n hx hb dX6_mix_9 rfl (lv_at hl 1 rfl) ?_
  refine lv_ladd hx hb dX6_mix_10 ?_
  refine put_X6_212 hx hb hts hown hK hP hD hS 0 rfl rfl rfl (Nat.le_of_ble_eq_true rfl) dX6_mix_11 (fun H locs hP hD hS => ?_)
  have hP : va_P D vwCl (wd_X6_mix cI a_t a_z a_history a_text a_left a_other a_smooth a_weights a_signs a_worked c_states c_length c_thrown c_codes c_read c_isOpen (((31 : Int64) * c_hash) + x1)) H := hP
  have hD : va_D A (wd_X6_mix cI a_t a_z a_history a_text a_left a_other a_smooth a_weights a_signs a_worked c_states c_length c_thrown c_codes c_read c_isOpen (((31 : Int64) * c_hash) + x1)) := hD
  have ho := Option.some.inj hF
  exact hret H locs ls 14 _ hP hS (by rw [← ho]) dX6_mix_14
abbrev wd_X6_mixPlace (cI : ClassId) (a_t a_z a_history a_text a_left a_other a_smooth a_weights a_signs a_worked : Nat) (c_states : Int32) (c_length : Int32) (c_thrown : Int32) (c_codes : Int32) (c_read : Int32) (c_isOpen : Int32) (c_hash : Int64) (c_left : Nat → Int32) (c_other : Nat → Int32) (c_smooth : Nat → Int32) (c_weights : Nat → Int32) (c_z : Nat → Int32) : va_W := [(a_t, .inr (6, [.ref a_z, .int c_states, .ref a_history, .int c_length, .ref a_text, .int c_thrown, .ref a_left, .ref a_other, .ref a_smooth, .ref a_weights, .int c_codes, .ref a_signs, .int c_read, .int c_isOpen, .ref a_worked, .long c_hash])), (a_left, .inl (cI, 6, .inl c_left)), (a_other, .inl (cI, 11, .inl c_other)), (a_smooth, .inl (cI, 4200, .inl c_smooth)), (a_weights, .inl (cI, 6, .inl c_weights)), (a_z, .inl (cI, 13, .inl c_z))]
def rm_X6_mixPlace : Room := { frames := 6, cells := 0, slots := 0, locals := 143 }
set_option maxHeartbeats 4000000 in
set_option maxRecDepth 100000 in
theorem c_X6_mixPlace (l : Launch) (D : va_G) (cI : ClassId) (a_t a_z a_history a_text a_left a_other a_smooth a_weights a_signs a_worked : Nat) (sz : Nat) (c_states : Int32) (c_length : Int32) (c_thrown : Int32) (c_codes : Int32) (c_read : Int32) (c_isOpen : Int32) (c_hash : Int64) (c_left : Nat → Int32) (c_other : Nat → Int32) (c_smooth : Nat → Int32) (c_weights : Nat → Int32) (c_z : Nat → Int32) (x1 : Int32) (o : Int32 × Int64 × (Nat → Int32) × (Nat → Int32) × (Nat → Int32) × (Nat → Int32)) (hF : F_X6_mixPlace c_codes c_hash c_left c_other c_smooth c_weights c_z x1 = some o) : Met l yX6_mixPlace (Cond.code yX6_mixPlace cX6_mixPlace 3 none :: WL) rm_X6_mixPlace (preM D [(cI, .int)] (wd_X6_mixPlace cI a_t a_z a_history a_text a_left a_other a_smooth a_weights a_signs a_worked c_states c_length c_thrown c_codes c_read c_isOpen c_hash c_left c_other c_smooth c_weights c_z) sz [.ref a_t, .int x1]) (postV D (wd_X6_mixPlace cI a_t a_z a_history a_text a_left a_other a_smooth a_weights a_signs a_worked c_states c_length c_thrown o.1 c_read c_isOpen o.2.1 o.2.2.1 o.2.2.2.1 o.2.2.2.2.1 o.2.2.2.2.2 c_z) (wd_X6_mixPlace cI a_t a_z a_history a_text a_left a_other a_smooth a_weights a_signs a_worked c_states c_length c_thrown c_codes c_read c_isOpen c_hash c_left c_other c_smooth c_weights c_z) sz) 0 0 (va_A (wd_X6_mixPlace cI a_t a_z a_history a_text a_left a_other a_smooth a_weights a_signs a_worked c_states c_length c_thrown c_codes c_read c_isOpen c_hash c_left c_other c_smooth c_weights c_z) sz) := by
  refine mofV (by decide +kernel) (Nat.le_of_ble_eq_true rfl) ?_
  intro p e s m args below meth c Q A ls hx hb hml hown hts hK hP hD hS hA hG hl hret hsz0
  have hl : lv_has ls 3 [(0, .ref a_t), (1, .int x1)] := hl
  have K25 : ∀ (n25 : Nat) (c_codes : Int32) (c_hash : Int64) (c_left : Nat → Int32) (c_other : Nat → Int32) (c_smooth : Nat → Int32) (c_weights : Nat → Int32) (x2 : Int32) (H : Heap) (locs : List Loc) (ls : Array Slot), va_P D vwCl (wd_X6_mixPlace cI a_t a_z a_history a_text a_left a_other a_smooth a_weights a_signs a_worked c_states c_length c_thrown c_codes c_read c_isOpen c_hash c_left c_other c_smooth c_weights c_z) H → va_D A (wd_X6_mixPlace cI a_t a_z a_history a_text a_left a_other a_smooth a_weights a_signs a_worked c_states c_length c_thrown c_codes c_read c_isOpen c_hash c_left c_other c_smooth c_weights c_z) → va_S A s.heap H locs → lv_has ls 3 [(0, .ref a_t), (1, .int x1), (2, .int x2)] → F_X6_mixPlace_L25 c_z x1 n25 c_codes c_hash c_left c_other c_smooth c_weights x2 = some o → W p l e rm_X6_mixPlace s m args below meth c H locs 0 0 Q (F0 m 25 ls []) := by
    intro n25
    induction n25 with
    | zero => intro c_codes c_hash c_left c_other c_smooth c_weights x2 H locs ls hP hD hS hl hF; exact nos hF
    | succ n25 ih25 =>
      intro c_codes c_hash c_left c_other c_smooth c_weights x2 H locs ls hP hD hS hl hF
      rw [F_X6_mixPlace_L25] at hF
      refine lv_iload_n hx hb dX6_mixPlace_25 rfl (lv_at hl 2 rfl) ?_
      refine lv_iconst (v := 3) hx hb dX6_mixPlace_26 (by decide) ?_
      refine lv_icmp_ge (tgt := 47) hx hb dX6_mixPlace_27 (by decide) (fun k27 => ?_) (fun k27 => ?_)
      · replace hF := (if_pos k27).symm.trans hF
        refine lv_aload_n hx hb dX6_mixPlace_47 rfl (lv_at hl 0 rfl) ?_
        refine lv_aload_n hx hb dX6_mixPlace_48 rfl (lv_at hl 0 rfl) ?_
        refine lv_iload_n hx hb dX6_mixPlace_49 rfl (lv_at hl 1 rfl) ?_
        refine lv_iconst (v := 0) hx hb dX6_mixPlace_50 (by decide) ?_
        obtain ⟨r51, hr51, hF⟩ := opb hF
        refine kVI (As := [.int x1, .int (0 : Int32)]) (rest := [.ref a_t]) (ws' := (wd_X6_mixPlace cI a_t a_z a_history a_text a_left a_other a_smooth a_weights a_signs a_worked c_states c_length c_thrown c_codes c_read c_isOpen c_hash r51.2.1 r51.2.2 c_smooth c_weights c_z)) ⟨hx, hb, hml, hown, hts⟩ (c_X6_swappedRank l D cI a_t a_z a_history a_text a_left a_other a_smooth a_weights a_signs a_worked H.size c_states c_length c_thrown c_codes c_read c_isOpen c_hash c_left c_other c_z x1 (0 : Int32) r51 hr51) (cwV 2 hts mw_X6_184 rfl rfl rfl hd_X6_swappedRank ⟨Nat.le_of_ble_eq_true rfl, Nat.le_of_ble_eq_true rfl⟩) hS hA hG hK hP hD [0, 1, 2, 5] rfl rfl rfl rfl rfl ⟨Nat.zero_le _, Nat.zero_le _⟩ 6 0 rfl rfl rfl rfl hl.1 rfl (Nat.le_of_ble_eq_true rfl) dX6_mixPlace_51 (fun H locs hP hD hS => ?_)
        refine lv_i2l hx hb dX6_mixPlace_54 rfl ?_
        obtain ⟨r55, hr55, hF⟩ := opb hF
        refine kVV (As := [.long ((r51.1).toInt64)]) (rest := []) (ws' := (wd_X6_mixPlace cI a_t a_z a_history a_text a_left a_other a_smooth a_weights a_signs a_worked c_states c_length c_thrown c_codes c_read c_isOpen r55 r51.2.1 r51.2.2 c_smooth c_weights c_z)) ⟨hx, hb, hml, hown, hts⟩ (c_X6_mix l D cI a_t a_z a_history a_text a_left a_other a_smooth a_weights a_signs a_worked H.size c_states c_length c_thrown c_codes c_read c_isOpen c_hash ((r51.1).toInt64) r55 hr55) (cwV 1 hts mw_X6_216 rfl rfl rfl hd_X6_mix ⟨Nat.le_of_ble_eq_true rfl, Nat.le_of_ble_eq_true rfl⟩) hS hA hG hK hP hD [0] rfl rfl rfl rfl rfl ⟨Nat.zero_le _, Nat.zero_le _⟩ 6 0 rfl rfl rfl rfl hl.1 rfl (Nat.le_of_ble_eq_true rfl) dX6_mixPlace_55 (fun H locs hP hD hS => ?_)
        refine lv_aload_n hx hb dX6_mixPlace_58 rfl (lv_at hl 0 rfl) ?_
        refine lv_aload_n hx hb dX6_mixPlace_59 rfl (lv_at hl 0 rfl) ?_
        refine lv_iconst (v := 0) hx hb dX6_mixPlace_60 (by decide) ?_
        refine lv_aload_n hx hb dX6_mixPlace_61 rfl (lv_at hl 0 rfl) ?_
        obtain ⟨r62, hr62, hF⟩ := opb hF
        refine kVI (As := []) (rest := [.int (0 : Int32), .ref a_t, .ref a_t]) (ws' := (wd_X6_mixPlace cI a_t a_z a_history a_text a_left a_other a_smooth a_weights a_signs a_worked c_states c_length c_thrown c_codes c_read c_isOpen r55 r62.2.1 r62.2.2 c_smooth c_weights c_z)) ⟨hx, hb, hml, hown, hts⟩ (c_X6_rankNow l D cI a_t a_z a_history a_text a_left a_other a_smooth a_weights a_signs a_worked H.size c_states c_length c_thrown c_codes c_read c_isOpen r55 r51.2.1 r51.2.2 c_z  r62 hr62) (cwV 0 hts mw_X6_97 rfl rfl rfl hd_X6_rankNow ⟨Nat.le_of_ble_eq_true rfl, Nat.le_of_ble_eq_true rfl⟩) hS hA hG hK hP hD [0, 1, 2, 5] rfl rfl rfl rfl rfl ⟨Nat.zero_le _, Nat.zero_le _⟩ 6 0 rfl rfl rfl rfl hl.1 rfl (Nat.le_of_ble_eq_true rfl) dX6_mixPlace_62 (fun H locs hP hD hS => ?_)
        refine lv_iload_n hx hb dX6_mixPlace_65 rfl (lv_at hl 1 rfl) ?_
        refine lv_iconst (v := 0) hx hb dX6_mixPlace_66 (by decide) ?_
        obtain ⟨r67, hr67, hF⟩ := opb hF
        refine kVI (As := [.int (0 : Int32), .int r62.1, .int x1, .int (0 : Int32)]) (rest := [.ref a_t]) (ws' := (wd_X6_mixPlace cI a_t a_z a_history a_text a_left a_other a_smooth a_weights a_signs a_worked c_states c_length c_thrown c_codes c_read c_isOpen r55 r67.2.1 r67.2.2 c_smooth c_weights c_z)) ⟨hx, hb, hml, hown, hts⟩ (c_X6_havingIn l D cI a_t a_z a_history a_text a_left a_other a_smooth a_weights a_signs a_worked H.size c_states c_length c_thrown c_codes c_read c_isOpen r55 r62.2.1 r62.2.2 c_z (0 : Int32) r62.1 x1 (0 : Int32) r67 hr67) (cwV 4 hts mw_X6_196 rfl rfl rfl hd_X6_havingIn ⟨Nat.le_of_ble_eq_true rfl, Nat.le_of_ble_eq_true rfl⟩) hS hA hG hK hP hD [0, 1, 2, 5] rfl rfl rfl rfl rfl ⟨Nat.zero_le _, Nat.zero_le _⟩ 6 0 rfl rfl rfl rfl hl.1 rfl (Nat.le_of_ble_eq_true rfl) dX6_mixPlace_67 (fun H locs hP hD hS => ?_)
        refine lv_i2l hx hb dX6_mixPlace_70 rfl ?_
        obtain ⟨r71, hr71, hF⟩ := opb hF
        refine kVV (As := [.long ((r67.1).toInt64)]) (rest := []) (ws' := (wd_X6_mixPlace cI a_t a_z a_history a_text a_left a_other a_smooth a_weights a_signs a_worked c_states c_length c_thrown c_codes c_read c_isOpen r71 r67.2.1 r67.2.2 c_smooth c_weights c_z)) ⟨hx, hb, hml, hown, hts⟩ (c_X6_mix l D cI a_t a_z a_history a_text a_left a_other a_smooth a_weights a_signs a_worked H.size c_states c_length c_thrown c_codes c_read c_isOpen r55 ((r67.1).toInt64) r71 hr71) (cwV 1 hts mw_X6_216 rfl rfl rfl hd_X6_mix ⟨Nat.le_of_ble_eq_true rfl, Nat.le_of_ble_eq_true rfl⟩) hS hA hG hK hP hD [0] rfl rfl rfl rfl rfl ⟨Nat.zero_le _, Nat.zero_le _⟩ 6 0 rfl rfl rfl rfl hl.1 rfl (Nat.le_of_ble_eq_true rfl) dX6_mixPlace_71 (fun H locs hP hD hS => ?_)
        have ho := Option.some.inj hF
        exact hret H locs ls 74 _ hP hS (by rw [← ho]) dX6_mixPlace_74
      · replace hF := (if_neg k27).symm.trans hF
        refine lv_aload_n hx hb dX6_mixPlace_30 rfl (lv_at hl 0 rfl) ?_
        refine lv_aload_n hx hb dX6_mixPlace_31 rfl (lv_at hl 0 rfl) ?_
        refine lv_iload_n hx hb dX6_mixPlace_32 rfl (lv_at hl 1 rfl) ?_
        refine lv_iload_n hx hb dX6_mixPlace_33 rfl (lv_at hl 2 rfl) ?_
        obtain ⟨r34, hr34, hF⟩ := opb hF
        refine kVI (As := [.int x1, .int x2]) (rest := [.ref a_t]) (ws' := (wd_X6_mixPlace cI a_t a_z a_history a_text a_left a_other a_smooth a_weights a_signs a_worked c_states c_length c_thrown r34.2.1 c_read c_isOpen c_hash r34.2.2.1 r34.2.2.2.1 r34.2.2.2.2.1 r34.2.2.2.2.2 c_z)) ⟨hx, hb, hml, hown, hts⟩ (c_X6_blockNow l D cI a_t a_z a_history a_text a_left a_other a_smooth a_weights a_signs a_worked H.size c_states c_length c_thrown c_codes c_read c_isOpen c_hash c_left c_other c_smooth c_weights c_z x1 x2 r34 hr34) (cwV 2 hts mw_X6_164 rfl rfl rfl hd_X6_blockNow ⟨Nat.le_of_ble_eq_true rfl, Nat.le_of_ble_eq_true rfl⟩) hS hA hG hK hP hD [0, 1, 2, 3, 4, 5] rfl rfl rfl rfl rfl ⟨Nat.zero_le _, Nat.zero_le _⟩ 6 0 rfl rfl rfl rfl hl.1 rfl (Nat.le_of_ble_eq_true rfl) dX6_mixPlace_34 (fun H locs hP hD hS => ?_)
        refine lv_i2l hx hb dX6_mixPlace_37 rfl ?_
        obtain ⟨r38, hr38, hF⟩ := opb hF
        refine kVV (As := [.long ((r34.1).toInt64)]) (rest := []) (ws' := (wd_X6_mixPlace cI a_t a_z a_history a_text a_left a_other a_smooth a_weights a_signs a_worked c_states c_length c_thrown r34.2.1 c_read c_isOpen r38 r34.2.2.1 r34.2.2.2.1 r34.2.2.2.2.1 r34.2.2.2.2.2 c_z)) ⟨hx, hb, hml, hown, hts⟩ (c_X6_mix l D cI a_t a_z a_history a_text a_left a_other a_smooth a_weights a_signs a_worked H.size c_states c_length c_thrown r34.2.1 c_read c_isOpen c_hash ((r34.1).toInt64) r38 hr38) (cwV 1 hts mw_X6_216 rfl rfl rfl hd_X6_mix ⟨Nat.le_of_ble_eq_true rfl, Nat.le_of_ble_eq_true rfl⟩) hS hA hG hK hP hD [0] rfl rfl rfl rfl rfl ⟨Nat.zero_le _, Nat.zero_le _⟩ 6 0 rfl rfl rfl rfl hl.1 rfl (Nat.le_of_ble_eq_true rfl) dX6_mixPlace_38 (fun H locs hP hD hS => ?_)
        refine lv_iinc (v := x2 + 1) (lv' := [(2, .int (x2 + 1)), (0, .ref a_t), (1, .int x1)]) hx hb dX6_mixPlace_41 hl (k := 2) rfl rfl (by decide) rfl (fun ls hl => ?_)
        refine lv_goto (tgt := 25) hx hb dX6_mixPlace_44 (by decide) ?_
        exact ih25 r34.2.1 r38 r34.2.2.1 r34.2.2.2.1 r34.2.2.2.2.1 r34.2.2.2.2.2 (x2 + 1) H locs ls hP hD hS (lv_sub hl [1, 2, 0] rfl) hF
  unfold F_X6_mixPlace at hF
  have hP : va_P D vwCl (wd_X6_mixPlace cI a_t a_z a_history a_text a_left a_other a_smooth a_weights a_signs a_worked c_states c_length c_thrown c_codes c_read c_isOpen c_hash c_left c_other c_smooth c_weights c_z) s.heap := hP
  obtain ⟨H, hH⟩ : ∃ H, H = s.heap := ⟨_, rfl⟩
  rw [← hH]
  rw [← hH] at hP
  obtain ⟨locs, hlo⟩ : ∃ z : List Loc, z = [] := ⟨_, rfl⟩
  rw [← hlo]
  have hS : va_S A s.heap H locs := by rw [hH, hlo]; exact hS
  refine lv_aload_n hx hb dX6_mixPlace_0 rfl (lv_at hl 0 rfl) ?_
  refine lv_aload_n hx hb dX6_mixPlace_1 rfl (lv_at hl 0 rfl) ?_
  refine get_X6_7 hx hb hts hown hK hP 0 rfl rfl dX6_mixPlace_2 ?_
  refine lv_iconst (v := 2) hx hb dX6_mixPlace_5 (by decide) ?_
  refine lv_iload_n hx hb dX6_mixPlace_6 rfl (lv_at hl 1 rfl) ?_
  refine lv_iadd hx hb dX6_mixPlace_7 ?_
  obtain ⟨g8, hF⟩ := gdb hF
  refine va_iald hx hb hK hP 5 0 rfl rfl (vinb g8) dX6_mixPlace_8 ?_
  refine lv_i2l hx hb dX6_mixPlace_9 rfl ?_
  obtain ⟨r10, hr10, hF⟩ := opb hF
  refine kVV (As := [.long ((c_z ((2 : Int32) + x1).toNatClampNeg).toInt64)]) (rest := []) (ws' := (wd_X6_mixPlace cI a_t a_z a_history a_text a_left a_other a_smooth a_weights a_signs a_worked c_states c_length c_thrown c_codes c_read c_isOpen r10 c_left c_other c_smooth c_weights c_z)) ⟨hx, hb, hml, hown, hts⟩ (c_X6_mix l D cI a_t a_z a_history a_text a_left a_other a_smooth a_weights a_signs a_worked H.size c_states c_length c_thrown c_codes c_read c_isOpen c_hash ((c_z ((2 : Int32) + x1).toNatClampNeg).toInt64) r10 hr10) (cwV 1 hts mw_X6_216 rfl rfl rfl hd_X6_mix ⟨Nat.le_of_ble_eq_true rfl, Nat.le_of_ble_eq_true rfl⟩) hS hA hG hK hP hD [0] rfl rfl rfl rfl rfl ⟨Nat.zero_le _, Nat.zero_le _⟩ 6 0 rfl rfl rfl rfl hl.1 rfl (Nat.le_of_ble_eq_true rfl) dX6_mixPlace_10 (fun H locs hP hD hS => ?_)
  refine lv_aload_n hx hb dX6_mixPlace_13 rfl (lv_at hl 0 rfl) ?_
  refine lv_aload_n hx hb dX6_mixPlace_14 rfl (lv_at hl 0 rfl) ?_
  refine lv_iload_n hx hb dX6_mixPlace_15 rfl (lv_at hl 1 rfl) ?_
  obtain ⟨r16, hr16, hF⟩ := opb hF
  refine kVI (As := [.int x1]) (rest := [.ref a_t]) (ws' := (wd_X6_mixPlace cI a_t a_z a_history a_text a_left a_other a_smooth a_weights a_signs a_worked c_states c_length c_thrown c_codes c_read c_isOpen r10 c_left c_other c_smooth c_weights c_z)) ⟨hx, hb, hml, hown, hts⟩ (c_X6_digitAt l D cI a_t a_z a_history a_text a_left a_other a_smooth a_weights a_signs a_worked H.size c_states c_length c_thrown c_codes c_read c_isOpen r10 c_z x1 r16 hr16) (cwV 1 hts mw_X6_158 rfl rfl rfl hd_X6_digitAt ⟨Nat.le_of_ble_eq_true rfl, Nat.le_of_ble_eq_true rfl⟩) hS hA hG hK hP hD [0, 5] rfl rfl rfl rfl rfl ⟨Nat.zero_le _, Nat.zero_le _⟩ 6 0 rfl rfl rfl rfl hl.1 rfl (Nat.le_of_ble_eq_true rfl) dX6_mixPlace_16 (fun H locs hP hD hS => ?_)
  refine lv_i2l hx hb dX6_mixPlace_19 rfl ?_
  obtain ⟨r20, hr20, hF⟩ := opb hF
  refine kVV (As := [.long ((r16).toInt64)]) (rest := []) (ws' := (wd_X6_mixPlace cI a_t a_z a_history a_text a_left a_other a_smooth a_weights a_signs a_worked c_states c_length c_thrown c_codes c_read c_isOpen r20 c_left c_other c_smooth c_weights c_z)) ⟨hx, hb, hml, hown, hts⟩ (c_X6_mix l D cI a_t a_z a_history a_text a_left a_other a_smooth a_weights a_signs a_worked H.size c_states c_length c_thrown c_codes c_read c_isOpen r10 ((r16).toInt64) r20 hr20) (cwV 1 hts mw_X6_216 rfl rfl rfl hd_X6_mix ⟨Nat.le_of_ble_eq_true rfl, Nat.le_of_ble_eq_true rfl⟩) hS hA hG hK hP hD [0] rfl rfl rfl rfl rfl ⟨Nat.zero_le _, Nat.zero_le _⟩ 6 0 rfl rfl rfl rfl hl.1 rfl (Nat.le_of_ble_eq_true rfl) dX6_mixPlace_20 (fun H locs hP hD hS => ?_)
  refine lv_iconst (v := 0) hx hb dX6_mixPlace_23 (by decide) ?_
  refine lv_istore_n (lv' := [(2, .int (0 : Int32)), (0, .ref a_t), (1, .int x1)]) hx hb dX6_mixPlace_24 rfl hl (by decide) rfl (fun ls hl => ?_)
  exact K25 FU c_codes r20 c_left c_other c_smooth c_weights (0 : Int32) H locs ls hP hD hS (lv_sub hl [1, 2, 0] rfl) hF
abbrev wd_X6_digest (cI : ClassId) (a_t a_z a_history a_text a_left a_other a_smooth a_weights a_signs a_worked : Nat) (c_states : Int32) (c_length : Int32) (c_thrown : Int32) (c_codes : Int32) (c_read : Int32) (c_isOpen : Int32) (c_hash : Int64) (c_left : Nat → Int32) (c_other : Nat → Int32) (c_smooth : Nat → Int32) (c_text : Nat → Int32) (c_weights : Nat → Int32) (c_worked : Nat → Int32) (c_z : Nat → Int32) : va_W := [(a_t, .inr (6, [.ref a_z, .int c_states, .ref a_history, .int c_length, .ref a_text, .int c_thrown, .ref a_left, .ref a_other, .ref a_smooth, .ref a_weights, .int c_codes, .ref a_signs, .int c_read, .int c_isOpen, .ref a_worked, .long c_hash])), (a_left, .inl (cI, 6, .inl c_left)), (a_other, .inl (cI, 11, .inl c_other)), (a_smooth, .inl (cI, 4200, .inl c_smooth)), (a_text, .inl (cI, 60, .inl c_text)), (a_weights, .inl (cI, 6, .inl c_weights)), (a_worked, .inl (cI, 11, .inl c_worked)), (a_z, .inl (cI, 13, .inl c_z))]
def rm_X6_digest : Room := { frames := 7, cells := 0, slots := 0, locals := 165 }
set_option maxHeartbeats 4000000 in
set_option maxRecDepth 100000 in
theorem c_X6_digest (l : Launch) (D : va_G) (cI : ClassId) (a_t a_z a_history a_text a_left a_other a_smooth a_weights a_signs a_worked : Nat) (sz : Nat) (c_states : Int32) (c_length : Int32) (c_thrown : Int32) (c_codes : Int32) (c_read : Int32) (c_isOpen : Int32) (c_hash : Int64) (c_left : Nat → Int32) (c_other : Nat → Int32) (c_smooth : Nat → Int32) (c_text : Nat → Int32) (c_weights : Nat → Int32) (c_worked : Nat → Int32) (c_z : Nat → Int32) (o : Int64 × Int32 × Int32 × Int64 × (Nat → Int32) × (Nat → Int32) × (Nat → Int32) × (Nat → Int32) × (Nat → Int32)) (hF : F_X6_digest c_states c_length c_thrown c_codes c_hash c_left c_other c_smooth c_text c_weights c_worked c_z = some o) : Met l yX6_digest (Cond.code yX6_digest cX6_digest 2 (some .long) :: WL) rm_X6_digest (preM D [(cI, .int)] (wd_X6_digest cI a_t a_z a_history a_text a_left a_other a_smooth a_weights a_signs a_worked c_states c_length c_thrown c_codes c_read c_isOpen c_hash c_left c_other c_smooth c_text c_weights c_worked c_z) sz [.ref a_t]) (postL D o.1 (wd_X6_digest cI a_t a_z a_history a_text a_left a_other a_smooth a_weights a_signs a_worked c_states c_length o.2.1 o.2.2.1 c_read c_isOpen o.2.2.2.1 o.2.2.2.2.1 o.2.2.2.2.2.1 o.2.2.2.2.2.2.1 c_text o.2.2.2.2.2.2.2.1 o.2.2.2.2.2.2.2.2 c_z) (wd_X6_digest cI a_t a_z a_history a_text a_left a_other a_smooth a_weights a_signs a_worked c_states c_length c_thrown c_codes c_read c_isOpen c_hash c_left c_other c_smooth c_text c_weights c_worked c_z) sz) 0 0 (va_A (wd_X6_digest cI a_t a_z a_history a_text a_left a_other a_smooth a_weights a_signs a_worked c_states c_length c_thrown c_codes c_read c_isOpen c_hash c_left c_other c_smooth c_text c_weights c_worked c_z) sz) := by
  refine mofL (by decide +kernel) (Nat.le_of_ble_eq_true rfl) ?_
  intro p e s m args below meth c Q A ls hx hb hml hown hts hK hP hD hS hA hG hl hret hsz0
  have hl : lv_has ls 2 [(0, .ref a_t)] := hl
  have K177 : ∀ (n177 : Nat) (c_thrown : Int32) (c_codes : Int32) (c_hash : Int64) (c_left : Nat → Int32) (c_other : Nat → Int32) (c_smooth : Nat → Int32) (c_weights : Nat → Int32) (c_worked : Nat → Int32) (x1 : Int32) (H : Heap) (locs : List Loc) (ls : Array Slot), va_P D vwCl (wd_X6_digest cI a_t a_z a_history a_text a_left a_other a_smooth a_weights a_signs a_worked c_states c_length c_thrown c_codes c_read c_isOpen c_hash c_left c_other c_smooth c_text c_weights c_worked c_z) H → va_D A (wd_X6_digest cI a_t a_z a_history a_text a_left a_other a_smooth a_weights a_signs a_worked c_states c_length c_thrown c_codes c_read c_isOpen c_hash c_left c_other c_smooth c_text c_weights c_worked c_z) → va_S A s.heap H locs → lv_has ls 2 [(0, .ref a_t), (1, .int x1)] → F_X6_digest_L177 c_states c_length c_text c_z n177 c_thrown c_codes c_hash c_left c_other c_smooth c_weights c_worked x1 = some o → W p l e rm_X6_digest s m args below meth c H locs 0 0 Q (F0 m 177 ls []) := by
    intro n177
    induction n177 with
    | zero => intro c_thrown c_codes c_hash c_left c_other c_smooth c_weights c_worked x1 H locs ls hP hD hS hl hF; exact nos hF
    | succ n177 ih177 =>
      intro c_thrown c_codes c_hash c_left c_other c_smooth c_weights c_worked x1 H locs ls hP hD hS hl hF
      rw [F_X6_digest_L177] at hF
      refine lv_iload_n hx hb dX6_digest_177 rfl (lv_at hl 1 rfl) ?_
      refine lv_aload_n hx hb dX6_digest_178 rfl (lv_at hl 0 rfl) ?_
      refine get_X6_142 hx hb hts hown hK hP 0 rfl rfl dX6_digest_179 ?_
      refine lv_icmp_ge (tgt := 202) hx hb dX6_digest_182 (by decide) (fun k182 => ?_) (fun k182 => ?_)
      · replace hF := (if_pos k182).symm.trans hF
        refine lv_aload_n hx hb dX6_digest_202 rfl (lv_at hl 0 rfl) ?_
        refine get_X6_212 hx hb hts hown hK hP 0 rfl rfl dX6_digest_203 ?_
        have ho := Option.some.inj hF
        exact hret H locs ls 206 c_hash _ hP hS (by rw [← ho]) (by rw [← ho]) dX6_digest_206
      · replace hF := (if_neg k182).symm.trans hF
        refine lv_aload_n hx hb dX6_digest_185 rfl (lv_at hl 0 rfl) ?_
        refine lv_aload_n hx hb dX6_digest_186 rfl (lv_at hl 0 rfl) ?_
        refine get_X6_16 hx hb hts hown hK hP 0 rfl rfl dX6_digest_187 ?_
        refine lv_iload_n hx hb dX6_digest_190 rfl (lv_at hl 1 rfl) ?_
        obtain ⟨g191, hF⟩ := gdb hF
        refine va_iald hx hb hK hP 4 0 rfl rfl (vinb g191) dX6_digest_191 ?_
        refine lv_i2l hx hb dX6_digest_192 rfl ?_
        obtain ⟨r193, hr193, hF⟩ := opb hF
        refine kVV (As := [.long ((c_text (x1).toNatClampNeg).toInt64)]) (rest := []) (ws' := (wd_X6_digest cI a_t a_z a_history a_text a_left a_other a_smooth a_weights a_signs a_worked c_states c_length c_thrown c_codes c_read c_isOpen r193 c_left c_other c_smooth c_text c_weights c_worked c_z)) ⟨hx, hb, hml, hown, hts⟩ (c_X6_mix l D cI a_t a_z a_history a_text a_left a_other a_smooth a_weights a_signs a_worked H.size c_states c_length c_thrown c_codes c_read c_isOpen c_hash ((c_text (x1).toNatClampNeg).toInt64) r193 hr193) (cwV 1 hts mw_X6_216 rfl rfl rfl hd_X6_mix ⟨Nat.le_of_ble_eq_true rfl, Nat.le_of_ble_eq_true rfl⟩) hS hA hG hK hP hD [0] rfl rfl rfl rfl rfl ⟨Nat.zero_le _, Nat.zero_le _⟩ 6 0 rfl rfl rfl rfl hl.1 rfl (Nat.le_of_ble_eq_true rfl) dX6_digest_193 (fun H locs hP hD hS => ?_)
        refine lv_iinc (v := x1 + 1) (lv' := [(1, .int (x1 + 1)), (0, .ref a_t)]) hx hb dX6_digest_196 hl (k := 1) rfl rfl (by decide) rfl (fun ls hl => ?_)
        refine lv_goto (tgt := 177) hx hb dX6_digest_199 (by decide) ?_
        exact ih177 c_thrown c_codes r193 c_left c_other c_smooth c_weights c_worked (x1 + 1) H locs ls hP hD hS (lv_sub hl [1, 0] rfl) hF
  have K134 : ∀ (n134 : Nat) (c_thrown : Int32) (c_codes : Int32) (c_hash : Int64) (c_left : Nat → Int32) (c_other : Nat → Int32) (c_smooth : Nat → Int32) (c_weights : Nat → Int32) (c_worked : Nat → Int32) (x1 : Int32) (H : Heap) (locs : List Loc) (ls : Array Slot), va_P D vwCl (wd_X6_digest cI a_t a_z a_history a_text a_left a_other a_smooth a_weights a_signs a_worked c_states c_length c_thrown c_codes c_read c_isOpen c_hash c_left c_other c_smooth c_text c_weights c_worked c_z) H → va_D A (wd_X6_digest cI a_t a_z a_history a_text a_left a_other a_smooth a_weights a_signs a_worked c_states c_length c_thrown c_codes c_read c_isOpen c_hash c_left c_other c_smooth c_text c_weights c_worked c_z) → va_S A s.heap H locs → lv_has ls 2 [(0, .ref a_t), (1, .int x1)] → F_X6_digest_L134 c_states c_length c_text c_z n134 c_thrown c_codes c_hash c_left c_other c_smooth c_weights c_worked x1 = some o → W p l e rm_X6_digest s m args below meth c H locs 0 0 Q (F0 m 134 ls []) := by
    intro n134
    induction n134 with
    | zero => intro c_thrown c_codes c_hash c_left c_other c_smooth c_weights c_worked x1 H locs ls hP hD hS hl hF; exact nos hF
    | succ n134 ih134 =>
      intro c_thrown c_codes c_hash c_left c_other c_smooth c_weights c_worked x1 H locs ls hP hD hS hl hF
      rw [F_X6_digest_L134] at hF
      refine lv_iload_n hx hb dX6_digest_134 rfl (lv_at hl 1 rfl) ?_
      refine lv_iconst (v := 3) hx hb dX6_digest_135 (by decide) ?_
      refine lv_icmp_ge (tgt := 155) hx hb dX6_digest_136 (by decide) (fun k136 => ?_) (fun k136 => ?_)
      · replace hF := (if_pos k136).symm.trans hF
        refine lv_aload_n hx hb dX6_digest_155 rfl (lv_at hl 0 rfl) ?_
        refine lv_aload_n hx hb dX6_digest_156 rfl (lv_at hl 0 rfl) ?_
        obtain ⟨r157, hr157, hF⟩ := opb hF
        refine kVD (As := []) (rest := [.ref a_t]) (ws' := (wd_X6_digest cI a_t a_z a_history a_text a_left a_other a_smooth a_weights a_signs a_worked c_states c_length c_thrown c_codes c_read c_isOpen c_hash r157.2.1 r157.2.2 c_smooth c_text c_weights c_worked c_z)) ⟨hx, hb, hml, hown, hts⟩ (c_X6_shareNow l D cI a_t a_z a_history a_text a_left a_other a_smooth a_weights a_signs a_worked H.size c_states c_length c_thrown c_codes c_read c_isOpen c_hash c_left c_other c_z  r157 hr157) (cwV 0 hts mw_X6_206 rfl rfl rfl hd_X6_shareNow ⟨Nat.le_of_ble_eq_true rfl, Nat.le_of_ble_eq_true rfl⟩) hS hA hG hK hP hD [0, 1, 2, 7] rfl rfl rfl rfl rfl ⟨Nat.zero_le _, Nat.zero_le _⟩ 6 0 rfl rfl rfl rfl hl.1 rfl (Nat.le_of_ble_eq_true rfl) dX6_digest_157 (fun H locs hP hD hS => ?_)
        obtain ⟨r160, hr160, hF⟩ := opb hF
        refine kSL (As := [.double r157.1]) (rest := [.ref a_t]) (ws' := (wd_X6_digest cI a_t a_z a_history a_text a_left a_other a_smooth a_weights a_signs a_worked c_states c_length c_thrown c_codes c_read c_isOpen c_hash r157.2.1 r157.2.2 c_smooth c_text c_weights c_worked c_z)) ⟨hx, hb, hml, hown, hts⟩ (c_Jxe99ae_doubleToLongBits_ccdee l D cI  H.size  r157.1 r160 hr160) (va_cwS 1 hts mw_X6_225 rfl rfl rfl hd_Jxe99ae_doubleToLongBits_ccdee ⟨Nat.le_of_ble_eq_true rfl, Nat.le_of_ble_eq_true rfl⟩) hS hA hG hK hP hD [] rfl rfl rfl rfl rfl ⟨Nat.zero_le _, Nat.zero_le _⟩ rfl hl.1 rfl (Nat.le_of_ble_eq_true rfl) dX6_digest_160 (fun H locs hP hD hS => ?_)
        obtain ⟨r163, hr163, hF⟩ := opb hF
        refine kVV (As := [.long r160]) (rest := []) (ws' := (wd_X6_digest cI a_t a_z a_history a_text a_left a_other a_smooth a_weights a_signs a_worked c_states c_length c_thrown c_codes c_read c_isOpen r163 r157.2.1 r157.2.2 c_smooth c_text c_weights c_worked c_z)) ⟨hx, hb, hml, hown, hts⟩ (c_X6_mix l D cI a_t a_z a_history a_text a_left a_other a_smooth a_weights a_signs a_worked H.size c_states c_length c_thrown c_codes c_read c_isOpen c_hash r160 r163 hr163) (cwV 1 hts mw_X6_216 rfl rfl rfl hd_X6_mix ⟨Nat.le_of_ble_eq_true rfl, Nat.le_of_ble_eq_true rfl⟩) hS hA hG hK hP hD [0] rfl rfl rfl rfl rfl ⟨Nat.zero_le _, Nat.zero_le _⟩ 6 0 rfl rfl rfl rfl hl.1 rfl (Nat.le_of_ble_eq_true rfl) dX6_digest_163 (fun H locs hP hD hS => ?_)
        refine lv_aload_n hx hb dX6_digest_166 rfl (lv_at hl 0 rfl) ?_
        refine lv_aload_n hx hb dX6_digest_167 rfl (lv_at hl 0 rfl) ?_
        refine get_X6_142 hx hb hts hown hK hP 0 rfl rfl dX6_digest_168 ?_
        refine lv_i2l hx hb dX6_digest_171 rfl ?_
        obtain ⟨r172, hr172, hF⟩ := opb hF
        refine kVV (As := [.long ((c_length).toInt64)]) (rest := []) (ws' := (wd_X6_digest cI a_t a_z a_history a_text a_left a_other a_smooth a_weights a_signs a_worked c_states c_length c_thrown c_codes c_read c_isOpen r172 r157.2.1 r157.2.2 c_smooth c_text c_weights c_worked c_z)) ⟨hx, hb, hml, hown, hts⟩ (c_X6_mix l D cI a_t a_z a_history a_text a_left a_other a_smooth a_weights a_signs a_worked H.size c_states c_length c_thrown c_codes c_read c_isOpen r163 ((c_length).toInt64) r172 hr172) (cwV 1 hts mw_X6_216 rfl rfl rfl hd_X6_mix ⟨Nat.le_of_ble_eq_true rfl, Nat.le_of_ble_eq_true rfl⟩) hS hA hG hK hP hD [0] rfl rfl rfl rfl rfl ⟨Nat.zero_le _, Nat.zero_le _⟩ 6 0 rfl rfl rfl rfl hl.1 rfl (Nat.le_of_ble_eq_true rfl) dX6_digest_172 (fun H locs hP hD hS => ?_)
        refine lv_iconst (v := 0) hx hb dX6_digest_175 (by decide) ?_
        refine lv_istore_n (lv' := [(1, .int (0 : Int32)), (0, .ref a_t)]) hx hb dX6_digest_176 rfl hl (by decide) rfl (fun ls hl => ?_)
        exact K177 FU c_thrown c_codes r172 r157.2.1 r157.2.2 c_smooth c_weights c_worked (0 : Int32) H locs ls hP hD hS (lv_sub hl [1, 0] rfl) hF
      · replace hF := (if_neg k136).symm.trans hF
        refine lv_aload_n hx hb dX6_digest_139 rfl (lv_at hl 0 rfl) ?_
        refine lv_aload_n hx hb dX6_digest_140 rfl (lv_at hl 0 rfl) ?_
        refine lv_iload_n hx hb dX6_digest_141 rfl (lv_at hl 1 rfl) ?_
        obtain ⟨r142, hr142, hF⟩ := opb hF
        refine kVI (As := [.int x1]) (rest := [.ref a_t]) (ws' := (wd_X6_digest cI a_t a_z a_history a_text a_left a_other a_smooth a_weights a_signs a_worked c_states c_length c_thrown c_codes c_read c_isOpen c_hash r142.2.1 r142.2.2 c_smooth c_text c_weights c_worked c_z)) ⟨hx, hb, hml, hown, hts⟩ (c_X6_bestNow l D cI a_t a_z a_history a_text a_left a_other a_smooth a_weights a_signs a_worked H.size c_states c_length c_thrown c_codes c_read c_isOpen c_hash c_left c_other c_z x1 r142 hr142) (cwV 1 hts mw_X6_203 rfl rfl rfl hd_X6_bestNow ⟨Nat.le_of_ble_eq_true rfl, Nat.le_of_ble_eq_true rfl⟩) hS hA hG hK hP hD [0, 1, 2, 7] rfl rfl rfl rfl rfl ⟨Nat.zero_le _, Nat.zero_le _⟩ 6 0 rfl rfl rfl rfl hl.1 rfl (Nat.le_of_ble_eq_true rfl) dX6_digest_142 (fun H locs hP hD hS => ?_)
        refine lv_i2l hx hb dX6_digest_145 rfl ?_
        obtain ⟨r146, hr146, hF⟩ := opb hF
        refine kVV (As := [.long ((r142.1).toInt64)]) (rest := []) (ws' := (wd_X6_digest cI a_t a_z a_history a_text a_left a_other a_smooth a_weights a_signs a_worked c_states c_length c_thrown c_codes c_read c_isOpen r146 r142.2.1 r142.2.2 c_smooth c_text c_weights c_worked c_z)) ⟨hx, hb, hml, hown, hts⟩ (c_X6_mix l D cI a_t a_z a_history a_text a_left a_other a_smooth a_weights a_signs a_worked H.size c_states c_length c_thrown c_codes c_read c_isOpen c_hash ((r142.1).toInt64) r146 hr146) (cwV 1 hts mw_X6_216 rfl rfl rfl hd_X6_mix ⟨Nat.le_of_ble_eq_true rfl, Nat.le_of_ble_eq_true rfl⟩) hS hA hG hK hP hD [0] rfl rfl rfl rfl rfl ⟨Nat.zero_le _, Nat.zero_le _⟩ 6 0 rfl rfl rfl rfl hl.1 rfl (Nat.le_of_ble_eq_true rfl) dX6_digest_146 (fun H locs hP hD hS => ?_)
        refine lv_iinc (v := x1 + 1) (lv' := [(1, .int (x1 + 1)), (0, .ref a_t)]) hx hb dX6_digest_149 hl (k := 1) rfl rfl (by decide) rfl (fun ls hl => ?_)
        refine lv_goto (tgt := 134) hx hb dX6_digest_152 (by decide) ?_
        exact ih134 c_thrown c_codes r146 r142.2.1 r142.2.2 c_smooth c_weights c_worked (x1 + 1) H locs ls hP hD hS (lv_sub hl [1, 0] rfl) hF
  have K85 : ∀ (n85 : Nat) (c_thrown : Int32) (c_codes : Int32) (c_hash : Int64) (c_left : Nat → Int32) (c_other : Nat → Int32) (c_smooth : Nat → Int32) (c_weights : Nat → Int32) (c_worked : Nat → Int32) (x1 : Int32) (H : Heap) (locs : List Loc) (ls : Array Slot), va_P D vwCl (wd_X6_digest cI a_t a_z a_history a_text a_left a_other a_smooth a_weights a_signs a_worked c_states c_length c_thrown c_codes c_read c_isOpen c_hash c_left c_other c_smooth c_text c_weights c_worked c_z) H → va_D A (wd_X6_digest cI a_t a_z a_history a_text a_left a_other a_smooth a_weights a_signs a_worked c_states c_length c_thrown c_codes c_read c_isOpen c_hash c_left c_other c_smooth c_text c_weights c_worked c_z) → va_S A s.heap H locs → lv_has ls 2 [(0, .ref a_t), (1, .int x1)] → F_X6_digest_L85 c_states c_length c_text c_z n85 c_thrown c_codes c_hash c_left c_other c_smooth c_weights c_worked x1 = some o → W p l e rm_X6_digest s m args below meth c H locs 0 0 Q (F0 m 85 ls []) := by
    intro n85
    induction n85 with
    | zero => intro c_thrown c_codes c_hash c_left c_other c_smooth c_weights c_worked x1 H locs ls hP hD hS hl hF; exact nos hF
    | succ n85 ih85 =>
      intro c_thrown c_codes c_hash c_left c_other c_smooth c_weights c_worked x1 H locs ls hP hD hS hl hF
      rw [F_X6_digest_L85] at hF
      refine lv_iload_n hx hb dX6_digest_85 rfl (lv_at hl 1 rfl) ?_
      refine lv_aload_n hx hb dX6_digest_86 rfl (lv_at hl 0 rfl) ?_
      refine get_X6_7 hx hb hts hown hK hP 0 rfl rfl dX6_digest_87 ?_
      refine lv_iconst (v := 0) hx hb dX6_digest_90 (by decide) ?_
      obtain ⟨g91, hF⟩ := gdb hF
      refine va_iald hx hb hK hP 7 0 rfl rfl (vinb g91) dX6_digest_91 ?_
      refine lv_icmp_ge (tgt := 117) hx hb dX6_digest_92 (by decide) (fun k92 => ?_) (fun k92 => ?_)
      · replace hF := (if_pos k92).symm.trans hF
        refine lv_aload_n hx hb dX6_digest_117 rfl (lv_at hl 0 rfl) ?_
        refine lv_aload_n hx hb dX6_digest_118 rfl (lv_at hl 0 rfl) ?_
        refine lv_aload_n hx hb dX6_digest_119 rfl (lv_at hl 0 rfl) ?_
        obtain ⟨r120, hr120, hF⟩ := opb hF
        refine kVI (As := []) (rest := [.ref a_t, .ref a_t]) (ws' := (wd_X6_digest cI a_t a_z a_history a_text a_left a_other a_smooth a_weights a_signs a_worked c_states c_length c_thrown c_codes c_read c_isOpen c_hash r120.2 c_other c_smooth c_text c_weights c_worked c_z)) ⟨hx, hb, hml, hown, hts⟩ (c_X6_allRows l D cI a_t a_z a_history a_text a_left a_other a_smooth a_weights a_signs a_worked H.size c_states c_length c_thrown c_codes c_read c_isOpen c_hash c_left c_z  r120 hr120) (cwV 0 hts mw_X6_71 rfl rfl rfl hd_X6_allRows ⟨Nat.le_of_ble_eq_true rfl, Nat.le_of_ble_eq_true rfl⟩) hS hA hG hK hP hD [0, 1, 7] rfl rfl rfl rfl rfl ⟨Nat.zero_le _, Nat.zero_le _⟩ 6 0 rfl rfl rfl rfl hl.1 rfl (Nat.le_of_ble_eq_true rfl) dX6_digest_120 (fun H locs hP hD hS => ?_)
        refine lv_iconst (v := 2) hx hb dX6_digest_123 (by decide) ?_
        obtain ⟨g124, hF⟩ := gdb hF
        refine lv_idiv hx hb dX6_digest_124 (nzb g124) ?_
        obtain ⟨r125, hr125, hF⟩ := opb hF
        refine kVI (As := [.int (r120.1 / (2 : Int32))]) (rest := [.ref a_t]) (ws' := (wd_X6_digest cI a_t a_z a_history a_text a_left a_other a_smooth a_weights a_signs a_worked c_states c_length c_thrown c_codes c_read c_isOpen c_hash r125.2.1 r125.2.2.1 c_smooth c_text c_weights r125.2.2.2 c_z)) ⟨hx, hb, hml, hown, hts⟩ (c_X6_stepsNow l D cI a_t a_z a_history a_text a_left a_other a_smooth a_weights a_signs a_worked H.size c_states c_length c_thrown c_codes c_read c_isOpen c_hash r120.2 c_other c_worked c_z (r120.1 / (2 : Int32)) r125 hr125) (cwV 1 hts mw_X6_200 rfl rfl rfl hd_X6_stepsNow ⟨Nat.le_of_ble_eq_true rfl, Nat.le_of_ble_eq_true rfl⟩) hS hA hG hK hP hD [0, 1, 2, 6, 7] rfl rfl rfl rfl rfl ⟨Nat.zero_le _, Nat.zero_le _⟩ 6 0 rfl rfl rfl rfl hl.1 rfl (Nat.le_of_ble_eq_true rfl) dX6_digest_125 (fun H locs hP hD hS => ?_)
        refine lv_i2l hx hb dX6_digest_128 rfl ?_
        obtain ⟨r129, hr129, hF⟩ := opb hF
        refine kVV (As := [.long ((r125.1).toInt64)]) (rest := []) (ws' := (wd_X6_digest cI a_t a_z a_history a_text a_left a_other a_smooth a_weights a_signs a_worked c_states c_length c_thrown c_codes c_read c_isOpen r129 r125.2.1 r125.2.2.1 c_smooth c_text c_weights r125.2.2.2 c_z)) ⟨hx, hb, hml, hown, hts⟩ (c_X6_mix l D cI a_t a_z a_history a_text a_left a_other a_smooth a_weights a_signs a_worked H.size c_states c_length c_thrown c_codes c_read c_isOpen c_hash ((r125.1).toInt64) r129 hr129) (cwV 1 hts mw_X6_216 rfl rfl rfl hd_X6_mix ⟨Nat.le_of_ble_eq_true rfl, Nat.le_of_ble_eq_true rfl⟩) hS hA hG hK hP hD [0] rfl rfl rfl rfl rfl ⟨Nat.zero_le _, Nat.zero_le _⟩ 6 0 rfl rfl rfl rfl hl.1 rfl (Nat.le_of_ble_eq_true rfl) dX6_digest_129 (fun H locs hP hD hS => ?_)
        refine lv_iconst (v := 0) hx hb dX6_digest_132 (by decide) ?_
        refine lv_istore_n (lv' := [(1, .int (0 : Int32)), (0, .ref a_t)]) hx hb dX6_digest_133 rfl hl (by decide) rfl (fun ls hl => ?_)
        exact K134 FU c_thrown c_codes r129 r125.2.1 r125.2.2.1 c_smooth c_weights r125.2.2.2 (0 : Int32) H locs ls hP hD hS (lv_sub hl [1, 0] rfl) hF
      · replace hF := (if_neg k92).symm.trans hF
        refine lv_aload_n hx hb dX6_digest_95 rfl (lv_at hl 0 rfl) ?_
        refine lv_aload_n hx hb dX6_digest_96 rfl (lv_at hl 0 rfl) ?_
        refine lv_aload_n hx hb dX6_digest_97 rfl (lv_at hl 0 rfl) ?_
        obtain ⟨r98, hr98, hF⟩ := opb hF
        refine kVI (As := []) (rest := [.ref a_t, .ref a_t]) (ws' := (wd_X6_digest cI a_t a_z a_history a_text a_left a_other a_smooth a_weights a_signs a_worked c_states c_length c_thrown c_codes c_read c_isOpen c_hash r98.2 c_other c_smooth c_text c_weights c_worked c_z)) ⟨hx, hb, hml, hown, hts⟩ (c_X6_allRows l D cI a_t a_z a_history a_text a_left a_other a_smooth a_weights a_signs a_worked H.size c_states c_length c_thrown c_codes c_read c_isOpen c_hash c_left c_z  r98 hr98) (cwV 0 hts mw_X6_71 rfl rfl rfl hd_X6_allRows ⟨Nat.le_of_ble_eq_true rfl, Nat.le_of_ble_eq_true rfl⟩) hS hA hG hK hP hD [0, 1, 7] rfl rfl rfl rfl rfl ⟨Nat.zero_le _, Nat.zero_le _⟩ 6 0 rfl rfl rfl rfl hl.1 rfl (Nat.le_of_ble_eq_true rfl) dX6_digest_98 (fun H locs hP hD hS => ?_)
        refine lv_iconst (v := 2) hx hb dX6_digest_101 (by decide) ?_
        obtain ⟨g102, hF⟩ := gdb hF
        refine lv_idiv hx hb dX6_digest_102 (nzb g102) ?_
        refine lv_iload_n hx hb dX6_digest_103 rfl (lv_at hl 1 rfl) ?_
        obtain ⟨r104, hr104, hF⟩ := opb hF
        refine kVI (As := [.int (r98.1 / (2 : Int32)), .int x1]) (rest := [.ref a_t]) (ws' := (wd_X6_digest cI a_t a_z a_history a_text a_left a_other a_smooth a_weights a_signs a_worked c_states c_length c_thrown c_codes c_read c_isOpen c_hash r104.2.1 r104.2.2 c_smooth c_text c_weights c_worked c_z)) ⟨hx, hb, hml, hown, hts⟩ (c_X6_signAt l D cI a_t a_z a_history a_text a_left a_other a_smooth a_weights a_signs a_worked H.size c_states c_length c_thrown c_codes c_read c_isOpen c_hash r98.2 c_other c_z (r98.1 / (2 : Int32)) x1 r104 hr104) (cwV 2 hts mw_X6_187 rfl rfl rfl hd_X6_signAt ⟨Nat.le_of_ble_eq_true rfl, Nat.le_of_ble_eq_true rfl⟩) hS hA hG hK hP hD [0, 1, 2, 7] rfl rfl rfl rfl rfl ⟨Nat.zero_le _, Nat.zero_le _⟩ 6 0 rfl rfl rfl rfl hl.1 rfl (Nat.le_of_ble_eq_true rfl) dX6_digest_104 (fun H locs hP hD hS => ?_)
        refine lv_i2l hx hb dX6_digest_107 rfl ?_
        obtain ⟨r108, hr108, hF⟩ := opb hF
        refine kVV (As := [.long ((r104.1).toInt64)]) (rest := []) (ws' := (wd_X6_digest cI a_t a_z a_history a_text a_left a_other a_smooth a_weights a_signs a_worked c_states c_length c_thrown c_codes c_read c_isOpen r108 r104.2.1 r104.2.2 c_smooth c_text c_weights c_worked c_z)) ⟨hx, hb, hml, hown, hts⟩ (c_X6_mix l D cI a_t a_z a_history a_text a_left a_other a_smooth a_weights a_signs a_worked H.size c_states c_length c_thrown c_codes c_read c_isOpen c_hash ((r104.1).toInt64) r108 hr108) (cwV 1 hts mw_X6_216 rfl rfl rfl hd_X6_mix ⟨Nat.le_of_ble_eq_true rfl, Nat.le_of_ble_eq_true rfl⟩) hS hA hG hK hP hD [0] rfl rfl rfl rfl rfl ⟨Nat.zero_le _, Nat.zero_le _⟩ 6 0 rfl rfl rfl rfl hl.1 rfl (Nat.le_of_ble_eq_true rfl) dX6_digest_108 (fun H locs hP hD hS => ?_)
        refine lv_iinc (v := x1 + 1) (lv' := [(1, .int (x1 + 1)), (0, .ref a_t)]) hx hb dX6_digest_111 hl (k := 1) rfl rfl (by decide) rfl (fun ls hl => ?_)
        refine lv_goto (tgt := 85) hx hb dX6_digest_114 (by decide) ?_
        exact ih85 c_thrown c_codes r108 r104.2.1 r104.2.2 c_smooth c_weights c_worked (x1 + 1) H locs ls hP hD hS (lv_sub hl [1, 0] rfl) hF
  have K61 : ∀ (n61 : Nat) (c_thrown : Int32) (c_codes : Int32) (c_hash : Int64) (c_left : Nat → Int32) (c_other : Nat → Int32) (c_smooth : Nat → Int32) (c_weights : Nat → Int32) (c_worked : Nat → Int32) (x1 : Int32) (H : Heap) (locs : List Loc) (ls : Array Slot), va_P D vwCl (wd_X6_digest cI a_t a_z a_history a_text a_left a_other a_smooth a_weights a_signs a_worked c_states c_length c_thrown c_codes c_read c_isOpen c_hash c_left c_other c_smooth c_text c_weights c_worked c_z) H → va_D A (wd_X6_digest cI a_t a_z a_history a_text a_left a_other a_smooth a_weights a_signs a_worked c_states c_length c_thrown c_codes c_read c_isOpen c_hash c_left c_other c_smooth c_text c_weights c_worked c_z) → va_S A s.heap H locs → lv_has ls 2 [(0, .ref a_t), (1, .int x1)] → F_X6_digest_L61 c_states c_length c_text c_z n61 c_thrown c_codes c_hash c_left c_other c_smooth c_weights c_worked x1 = some o → W p l e rm_X6_digest s m args below meth c H locs 0 0 Q (F0 m 61 ls []) := by
    intro n61
    induction n61 with
    | zero => intro c_thrown c_codes c_hash c_left c_other c_smooth c_weights c_worked x1 H locs ls hP hD hS hl hF; exact nos hF
    | succ n61 ih61 =>
      intro c_thrown c_codes c_hash c_left c_other c_smooth c_weights c_worked x1 H locs ls hP hD hS hl hF
      rw [F_X6_digest_L61] at hF
      refine lv_iload_n hx hb dX6_digest_61 rfl (lv_at hl 1 rfl) ?_
      refine lv_bipush (v := 6) hx hb dX6_digest_62 (by decide) ?_
      refine lv_icmp_ge (tgt := 83) hx hb dX6_digest_64 (by decide) (fun k64 => ?_) (fun k64 => ?_)
      · replace hF := (if_pos k64).symm.trans hF
        refine lv_iconst (v := 0) hx hb dX6_digest_83 (by decide) ?_
        refine lv_istore_n (lv' := [(1, .int (0 : Int32)), (0, .ref a_t)]) hx hb dX6_digest_84 rfl hl (by decide) rfl (fun ls hl => ?_)
        exact K85 FU c_thrown c_codes c_hash c_left c_other c_smooth c_weights c_worked (0 : Int32) H locs ls hP hD hS (lv_sub hl [1, 0] rfl) hF
      · replace hF := (if_neg k64).symm.trans hF
        refine lv_aload_n hx hb dX6_digest_67 rfl (lv_at hl 0 rfl) ?_
        refine lv_aload_n hx hb dX6_digest_68 rfl (lv_at hl 0 rfl) ?_
        refine lv_iload_n hx hb dX6_digest_69 rfl (lv_at hl 1 rfl) ?_
        obtain ⟨r70, hr70, hF⟩ := opb hF
        refine kVI (As := [.int x1]) (rest := [.ref a_t]) (ws' := (wd_X6_digest cI a_t a_z a_history a_text a_left a_other a_smooth a_weights a_signs a_worked c_states c_length c_thrown c_codes c_read c_isOpen c_hash r70.2 c_other c_smooth c_text c_weights c_worked c_z)) ⟨hx, hb, hml, hown, hts⟩ (c_X6_manyOf l D cI a_t a_z a_history a_text a_left a_other a_smooth a_weights a_signs a_worked H.size c_states c_length c_thrown c_codes c_read c_isOpen c_hash c_left c_z x1 r70 hr70) (cwV 1 hts mw_X6_161 rfl rfl rfl hd_X6_manyOf ⟨Nat.le_of_ble_eq_true rfl, Nat.le_of_ble_eq_true rfl⟩) hS hA hG hK hP hD [0, 1, 7] rfl rfl rfl rfl rfl ⟨Nat.zero_le _, Nat.zero_le _⟩ 6 0 rfl rfl rfl rfl hl.1 rfl (Nat.le_of_ble_eq_true rfl) dX6_digest_70 (fun H locs hP hD hS => ?_)
        refine lv_i2l hx hb dX6_digest_73 rfl ?_
        obtain ⟨r74, hr74, hF⟩ := opb hF
        refine kVV (As := [.long ((r70.1).toInt64)]) (rest := []) (ws' := (wd_X6_digest cI a_t a_z a_history a_text a_left a_other a_smooth a_weights a_signs a_worked c_states c_length c_thrown c_codes c_read c_isOpen r74 r70.2 c_other c_smooth c_text c_weights c_worked c_z)) ⟨hx, hb, hml, hown, hts⟩ (c_X6_mix l D cI a_t a_z a_history a_text a_left a_other a_smooth a_weights a_signs a_worked H.size c_states c_length c_thrown c_codes c_read c_isOpen c_hash ((r70.1).toInt64) r74 hr74) (cwV 1 hts mw_X6_216 rfl rfl rfl hd_X6_mix ⟨Nat.le_of_ble_eq_true rfl, Nat.le_of_ble_eq_true rfl⟩) hS hA hG hK hP hD [0] rfl rfl rfl rfl rfl ⟨Nat.zero_le _, Nat.zero_le _⟩ 6 0 rfl rfl rfl rfl hl.1 rfl (Nat.le_of_ble_eq_true rfl) dX6_digest_74 (fun H locs hP hD hS => ?_)
        refine lv_iinc (v := x1 + 1) (lv' := [(1, .int (x1 + 1)), (0, .ref a_t)]) hx hb dX6_digest_77 hl (k := 1) rfl rfl (by decide) rfl (fun ls hl => ?_)
        refine lv_goto (tgt := 61) hx hb dX6_digest_80 (by decide) ?_
        exact ih61 c_thrown c_codes r74 r70.2 c_other c_smooth c_weights c_worked (x1 + 1) H locs ls hP hD hS (lv_sub hl [1, 0] rfl) hF
  have K38 : ∀ (n38 : Nat) (c_thrown : Int32) (c_codes : Int32) (c_hash : Int64) (c_left : Nat → Int32) (c_other : Nat → Int32) (c_smooth : Nat → Int32) (c_weights : Nat → Int32) (c_worked : Nat → Int32) (x1 : Int32) (H : Heap) (locs : List Loc) (ls : Array Slot), va_P D vwCl (wd_X6_digest cI a_t a_z a_history a_text a_left a_other a_smooth a_weights a_signs a_worked c_states c_length c_thrown c_codes c_read c_isOpen c_hash c_left c_other c_smooth c_text c_weights c_worked c_z) H → va_D A (wd_X6_digest cI a_t a_z a_history a_text a_left a_other a_smooth a_weights a_signs a_worked c_states c_length c_thrown c_codes c_read c_isOpen c_hash c_left c_other c_smooth c_text c_weights c_worked c_z) → va_S A s.heap H locs → lv_has ls 2 [(0, .ref a_t), (1, .int x1)] → F_X6_digest_L38 c_states c_length c_text c_z n38 c_thrown c_codes c_hash c_left c_other c_smooth c_weights c_worked x1 = some o → W p l e rm_X6_digest s m args below meth c H locs 0 0 Q (F0 m 38 ls []) := by
    intro n38
    induction n38 with
    | zero => intro c_thrown c_codes c_hash c_left c_other c_smooth c_weights c_worked x1 H locs ls hP hD hS hl hF; exact nos hF
    | succ n38 ih38 =>
      intro c_thrown c_codes c_hash c_left c_other c_smooth c_weights c_worked x1 H locs ls hP hD hS hl hF
      rw [F_X6_digest_L38] at hF
      refine lv_iload_n hx hb dX6_digest_38 rfl (lv_at hl 1 rfl) ?_
      refine lv_aload_n hx hb dX6_digest_39 rfl (lv_at hl 0 rfl) ?_
      refine get_X6_7 hx hb hts hown hK hP 0 rfl rfl dX6_digest_40 ?_
      refine lv_iconst (v := 0) hx hb dX6_digest_43 (by decide) ?_
      obtain ⟨g44, hF⟩ := gdb hF
      refine va_iald hx hb hK hP 7 0 rfl rfl (vinb g44) dX6_digest_44 ?_
      refine lv_icmp_ge (tgt := 59) hx hb dX6_digest_45 (by decide) (fun k45 => ?_) (fun k45 => ?_)
      · replace hF := (if_pos k45).symm.trans hF
        refine lv_iconst (v := 0) hx hb dX6_digest_59 (by decide) ?_
        refine lv_istore_n (lv' := [(1, .int (0 : Int32)), (0, .ref a_t)]) hx hb dX6_digest_60 rfl hl (by decide) rfl (fun ls hl => ?_)
        exact K61 FU c_thrown c_codes c_hash c_left c_other c_smooth c_weights c_worked (0 : Int32) H locs ls hP hD hS (lv_sub hl [1, 0] rfl) hF
      · replace hF := (if_neg k45).symm.trans hF
        refine lv_aload_n hx hb dX6_digest_48 rfl (lv_at hl 0 rfl) ?_
        refine lv_iload_n hx hb dX6_digest_49 rfl (lv_at hl 1 rfl) ?_
        obtain ⟨r50, hr50, hF⟩ := opb hF
        refine kVV (As := [.int x1]) (rest := []) (ws' := (wd_X6_digest cI a_t a_z a_history a_text a_left a_other a_smooth a_weights a_signs a_worked c_states c_length c_thrown r50.1 c_read c_isOpen r50.2.1 r50.2.2.1 r50.2.2.2.1 r50.2.2.2.2.1 c_text r50.2.2.2.2.2 c_worked c_z)) ⟨hx, hb, hml, hown, hts⟩ (c_X6_mixPlace l D cI a_t a_z a_history a_text a_left a_other a_smooth a_weights a_signs a_worked H.size c_states c_length c_thrown c_codes c_read c_isOpen c_hash c_left c_other c_smooth c_weights c_z x1 r50 hr50) (cwV 1 hts mw_X6_222 rfl rfl rfl hd_X6_mixPlace ⟨Nat.le_of_ble_eq_true rfl, Nat.le_of_ble_eq_true rfl⟩) hS hA hG hK hP hD [0, 1, 2, 3, 5, 7] rfl rfl rfl rfl rfl ⟨Nat.zero_le _, Nat.zero_le _⟩ 6 0 rfl rfl rfl rfl hl.1 rfl (Nat.le_of_ble_eq_true rfl) dX6_digest_50 (fun H locs hP hD hS => ?_)
        refine lv_iinc (v := x1 + 1) (lv' := [(1, .int (x1 + 1)), (0, .ref a_t)]) hx hb dX6_digest_53 hl (k := 1) rfl rfl (by decide) rfl (fun ls hl => ?_)
        refine lv_goto (tgt := 38) hx hb dX6_digest_56 (by decide) ?_
        exact ih38 c_thrown r50.1 r50.2.1 r50.2.2.1 r50.2.2.2.1 r50.2.2.2.2.1 r50.2.2.2.2.2 c_worked (x1 + 1) H locs ls hP hD hS (lv_sub hl [1, 0] rfl) hF
  have K14 : ∀ (n14 : Nat) (c_thrown : Int32) (c_codes : Int32) (c_hash : Int64) (c_left : Nat → Int32) (c_other : Nat → Int32) (c_smooth : Nat → Int32) (c_weights : Nat → Int32) (c_worked : Nat → Int32) (x1 : Int32) (H : Heap) (locs : List Loc) (ls : Array Slot), va_P D vwCl (wd_X6_digest cI a_t a_z a_history a_text a_left a_other a_smooth a_weights a_signs a_worked c_states c_length c_thrown c_codes c_read c_isOpen c_hash c_left c_other c_smooth c_text c_weights c_worked c_z) H → va_D A (wd_X6_digest cI a_t a_z a_history a_text a_left a_other a_smooth a_weights a_signs a_worked c_states c_length c_thrown c_codes c_read c_isOpen c_hash c_left c_other c_smooth c_text c_weights c_worked c_z) → va_S A s.heap H locs → lv_has ls 2 [(0, .ref a_t), (1, .int x1)] → F_X6_digest_L14 c_states c_length c_text c_z n14 c_thrown c_codes c_hash c_left c_other c_smooth c_weights c_worked x1 = some o → W p l e rm_X6_digest s m args below meth c H locs 0 0 Q (F0 m 14 ls []) := by
    intro n14
    induction n14 with
    | zero => intro c_thrown c_codes c_hash c_left c_other c_smooth c_weights c_worked x1 H locs ls hP hD hS hl hF; exact nos hF
    | succ n14 ih14 =>
      intro c_thrown c_codes c_hash c_left c_other c_smooth c_weights c_worked x1 H locs ls hP hD hS hl hF
      rw [F_X6_digest_L14] at hF
      refine lv_iload_n hx hb dX6_digest_14 rfl (lv_at hl 1 rfl) ?_
      refine lv_bipush (v := 14) hx hb dX6_digest_15 (by decide) ?_
      refine lv_icmp_ge (tgt := 36) hx hb dX6_digest_17 (by decide) (fun k17 => ?_) (fun k17 => ?_)
      · replace hF := (if_pos k17).symm.trans hF
        refine lv_iconst (v := 0) hx hb dX6_digest_36 (by decide) ?_
        refine lv_istore_n (lv' := [(1, .int (0 : Int32)), (0, .ref a_t)]) hx hb dX6_digest_37 rfl hl (by decide) rfl (fun ls hl => ?_)
        exact K38 FU c_thrown c_codes c_hash c_left c_other c_smooth c_weights c_worked (0 : Int32) H locs ls hP hD hS (lv_sub hl [1, 0] rfl) hF
      · replace hF := (if_neg k17).symm.trans hF
        refine lv_aload_n hx hb dX6_digest_20 rfl (lv_at hl 0 rfl) ?_
        refine lv_aload_n hx hb dX6_digest_21 rfl (lv_at hl 0 rfl) ?_
        refine lv_iload_n hx hb dX6_digest_22 rfl (lv_at hl 1 rfl) ?_
        obtain ⟨r23, hr23, hF⟩ := opb hF
        refine kVI (As := [.int x1]) (rest := [.ref a_t]) (ws' := (wd_X6_digest cI a_t a_z a_history a_text a_left a_other a_smooth a_weights a_signs a_worked c_states c_length c_thrown r23.2.1 c_read c_isOpen c_hash r23.2.2.1 r23.2.2.2.1 r23.2.2.2.2.1 c_text r23.2.2.2.2.2 c_worked c_z)) ⟨hx, hb, hml, hown, hts⟩ (c_X6_counted l D cI a_t a_z a_history a_text a_left a_other a_smooth a_weights a_signs a_worked H.size c_states c_length c_thrown c_codes c_read c_isOpen c_hash c_left c_other c_smooth c_weights c_z x1 r23 hr23) (cwV 1 hts mw_X6_181 rfl rfl rfl hd_X6_counted ⟨Nat.le_of_ble_eq_true rfl, Nat.le_of_ble_eq_true rfl⟩) hS hA hG hK hP hD [0, 1, 2, 3, 5, 7] rfl rfl rfl rfl rfl ⟨Nat.zero_le _, Nat.zero_le _⟩ 6 0 rfl rfl rfl rfl hl.1 rfl (Nat.le_of_ble_eq_true rfl) dX6_digest_23 (fun H locs hP hD hS => ?_)
        refine lv_i2l hx hb dX6_digest_26 rfl ?_
        obtain ⟨r27, hr27, hF⟩ := opb hF
        refine kVV (As := [.long ((r23.1).toInt64)]) (rest := []) (ws' := (wd_X6_digest cI a_t a_z a_history a_text a_left a_other a_smooth a_weights a_signs a_worked c_states c_length c_thrown r23.2.1 c_read c_isOpen r27 r23.2.2.1 r23.2.2.2.1 r23.2.2.2.2.1 c_text r23.2.2.2.2.2 c_worked c_z)) ⟨hx, hb, hml, hown, hts⟩ (c_X6_mix l D cI a_t a_z a_history a_text a_left a_other a_smooth a_weights a_signs a_worked H.size c_states c_length c_thrown r23.2.1 c_read c_isOpen c_hash ((r23.1).toInt64) r27 hr27) (cwV 1 hts mw_X6_216 rfl rfl rfl hd_X6_mix ⟨Nat.le_of_ble_eq_true rfl, Nat.le_of_ble_eq_true rfl⟩) hS hA hG hK hP hD [0] rfl rfl rfl rfl rfl ⟨Nat.zero_le _, Nat.zero_le _⟩ 6 0 rfl rfl rfl rfl hl.1 rfl (Nat.le_of_ble_eq_true rfl) dX6_digest_27 (fun H locs hP hD hS => ?_)
        refine lv_iinc (v := x1 + 1) (lv' := [(1, .int (x1 + 1)), (0, .ref a_t)]) hx hb dX6_digest_30 hl (k := 1) rfl rfl (by decide) rfl (fun ls hl => ?_)
        refine lv_goto (tgt := 14) hx hb dX6_digest_33 (by decide) ?_
        exact ih14 c_thrown r23.2.1 r27 r23.2.2.1 r23.2.2.2.1 r23.2.2.2.2.1 r23.2.2.2.2.2 c_worked (x1 + 1) H locs ls hP hD hS (lv_sub hl [1, 0] rfl) hF
  unfold F_X6_digest at hF
  have hP : va_P D vwCl (wd_X6_digest cI a_t a_z a_history a_text a_left a_other a_smooth a_weights a_signs a_worked c_states c_length c_thrown c_codes c_read c_isOpen c_hash c_left c_other c_smooth c_text c_weights c_worked c_z) s.heap := hP
  obtain ⟨H, hH⟩ : ∃ H, H = s.heap := ⟨_, rfl⟩
  rw [← hH]
  rw [← hH] at hP
  obtain ⟨locs, hlo⟩ : ∃ z : List Loc, z = [] := ⟨_, rfl⟩
  rw [← hlo]
  have hS : va_S A s.heap H locs := by rw [hH, hlo]; exact hS
  refine lv_aload_n hx hb dX6_digest_0 rfl (lv_at hl 0 rfl) ?_
  refine lv_iconst (v := 0) hx hb dX6_digest_1 (by decide) ?_
  refine put_X6_37 hx hb hts hown hK hP hD hS 0 rfl rfl rfl (Nat.le_of_ble_eq_true rfl) dX6_digest_2 (fun H locs hP hD hS => ?_)
  have hP : va_P D vwCl (wd_X6_digest cI a_t a_z a_history a_text a_left a_other a_smooth a_weights a_signs a_worked c_states c_length (0 : Int32) c_codes c_read c_isOpen c_hash c_left c_other c_smooth c_text c_weights c_worked c_z) H := hP
  have hD : va_D A (wd_X6_digest cI a_t a_z a_history a_text a_left a_other a_smooth a_weights a_signs a_worked c_states c_length (0 : Int32) c_codes c_read c_isOpen c_hash c_left c_other c_smooth c_text c_weights c_worked c_z) := hD
  refine lv_aload_n hx hb dX6_digest_5 rfl (lv_at hl 0 rfl) ?_
  refine lv_ldc2 (v := 2579) hx hb hown (hts _ k5_156) dX6_digest_6 ?_
  refine put_X6_212 hx hb hts hown hK hP hD hS 0 rfl rfl rfl (Nat.le_of_ble_eq_true rfl) dX6_digest_9 (fun H locs hP hD hS => ?_)
  have hP : va_P D vwCl (wd_X6_digest cI a_t a_z a_history a_text a_left a_other a_smooth a_weights a_signs a_worked c_states c_length (0 : Int32) c_codes c_read c_isOpen (2579 : Int64) c_left c_other c_smooth c_text c_weights c_worked c_z) H := hP
  have hD : va_D A (wd_X6_digest cI a_t a_z a_history a_text a_left a_other a_smooth a_weights a_signs a_worked c_states c_length (0 : Int32) c_codes c_read c_isOpen (2579 : Int64) c_left c_other c_smooth c_text c_weights c_worked c_z) := hD
  refine lv_iconst (v := 0) hx hb dX6_digest_12 (by decide) ?_
  refine lv_istore_n (lv' := [(1, .int (0 : Int32)), (0, .ref a_t)]) hx hb dX6_digest_13 rfl hl (by decide) rfl (fun ls hl => ?_)
  exact K14 FU (0 : Int32) c_codes (2579 : Int64) c_left c_other c_smooth c_weights c_worked (0 : Int32) H locs ls hP hD hS (lv_sub hl [1, 0] rfl) hF
