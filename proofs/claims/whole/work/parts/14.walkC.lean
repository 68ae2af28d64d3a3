abbrev wd_X5_blockSize (cI : ClassId) (a_t a_row a_work a_rest a_bag a_smooth a_text a_saves a_bag_often a_row_signs : Nat) (c_gone : Int32) (c_bag_total : Int32) (c_bag_often : Nat → Int32) (c_row_length : Int32) (c_row_signs : Nat → Int32) : va_W := [(a_t, .inr (5, [.ref a_row, .ref a_work, .ref a_rest, .ref a_bag, .ref a_smooth, .ref a_text, .ref a_saves, .int c_gone])), (a_bag, .inr (0, [.ref a_bag_often, .int c_bag_total])), (a_bag_often, .inl (cI, 6, .inl c_bag_often)), (a_row, .inr (1, [.ref a_row_signs, .int c_row_length])), (a_row_signs, .inl (cI, 11, .inl c_row_signs))]
def rm_X5_blockSize : Room := { frames := 2, cells := 0, slots := 0, locals := 44 }
set_option maxHeartbeats 4000000 in
set_option maxRecDepth 100000 in
theorem c_X5_blockSize (l : Launch) (D : va_G) (cI : ClassId) (a_t a_row a_work a_rest a_bag a_smooth a_text a_saves a_bag_often a_row_signs : Nat) (sz : Nat) (c_gone : Int32) (c_bag_total : Int32) (c_bag_often : Nat → Int32) (c_row_length : Int32) (c_row_signs : Nat → Int32) (x1 : Int32) (o : Int32 × Int32 × (Nat → Int32)) (hF : F_X5_blockSize c_bag_total c_bag_often c_row_length c_row_signs x1 = some o) : Met l yX5_blockSize (Cond.code yX5_blockSize cX5_blockSize 2 (some .int) :: WL) rm_X5_blockSize (preM D [(cI, .int)] (wd_X5_blockSize cI a_t a_row a_work a_rest a_bag a_smooth a_text a_saves a_bag_often a_row_signs c_gone c_bag_total c_bag_often c_row_length c_row_signs) sz [.ref a_t, .int x1]) (postI D o.1 (wd_X5_blockSize cI a_t a_row a_work a_rest a_bag a_smooth a_text a_saves a_bag_often a_row_signs c_gone o.2.1 o.2.2 c_row_length c_row_signs) (wd_X5_blockSize cI a_t a_row a_work a_rest a_bag a_smooth a_text a_saves a_bag_often a_row_signs c_gone c_bag_total c_bag_often c_row_length c_row_signs) sz) 0 0 (va_A (wd_X5_blockSize cI a_t a_row a_work a_rest a_bag a_smooth a_text a_saves a_bag_often a_row_signs c_gone c_bag_total c_bag_often c_row_length c_row_signs) sz) := by
  refine mofI (by decide +kernel) (Nat.le_of_ble_eq_true rfl) ?_
  intro p e s m args below meth c Q A ls hx hb hml hown hts hK hP hD hS hA hG hl hret hsz0
  have hl : lv_has ls 2 [(0, .ref a_t), (1, .int x1)] := hl
  unfold F_X5_blockSize at hF
  have hP : va_P D vwCl (wd_X5_blockSize cI a_t a_row a_work a_rest a_bag a_smooth a_text a_saves a_bag_often a_row_signs c_gone c_bag_total c_bag_often c_row_length c_row_signs) s.heap := hP
  obtain ⟨H, hH⟩ : ∃ H, H = s.heap := ⟨_, rfl⟩
  rw [← hH]
  rw [← hH] at hP
  obtain ⟨locs, hlo⟩ : ∃ z : List Loc, z = [] := ⟨_, rfl⟩
  rw [← hlo]
  have hS : va_S A s.heap H locs := by rw [hH, hlo]; exact hS
  refine lv_aload_n hx hb dX5_blockSize_0 rfl (lv_at hl 0 rfl) ?_
  refine get_X5_25 hx hb hts hown hK hP 0 rfl rfl dX5_blockSize_1 ?_
  refine lv_aload_n hx hb dX5_blockSize_4 rfl (lv_at hl 0 rfl) ?_
  refine get_X5_10 hx hb hts hown hK hP 0 rfl rfl dX5_blockSize_5 ?_
  refine lv_iload_n hx hb dX5_blockSize_8 rfl (lv_at hl 1 rfl) ?_
  obtain ⟨r9, hr9, hF⟩ := opb hF
  refine kVV (As := [.ref a_row, .int x1]) (rest := []) (ws' := (wd_X5_blockSize cI a_t a_row a_work a_rest a_bag a_smooth a_text a_saves a_bag_often a_row_signs c_gone r9.1 r9.2 c_row_length c_row_signs)) ⟨hx, hb, hml, hown, hts⟩ (c_X0_fill l D cI a_bag a_row a_bag_often a_row_signs H.size c_bag_total c_bag_often c_row_length c_row_signs x1 r9 hr9) (cwV 2 hts mw_X5_171 rfl rfl rfl hd_X0_fill ⟨Nat.le_of_ble_eq_true rfl, Nat.le_of_ble_eq_true rfl⟩) hS hA hG hK hP hD [1, 2, 3, 4] rfl rfl rfl rfl rfl ⟨Nat.zero_le _, Nat.zero_le _⟩ 0 1 rfl rfl rfl rfl hl.1 rfl (Nat.le_of_ble_eq_true rfl) dX5_blockSize_9 (fun H locs hP hD hS => ?_)
  refine lv_aload_n hx hb dX5_blockSize_12 rfl (lv_at hl 0 rfl) ?_
  refine get_X5_25 hx hb hts hown hK hP 0 rfl rfl dX5_blockSize_13 ?_
  obtain ⟨r16, hr16, hF⟩ := opb hF
  refine kVI (As := []) (rest := []) (ws' := (wd_X5_blockSize cI a_t a_row a_work a_rest a_bag a_smooth a_text a_saves a_bag_often a_row_signs c_gone r9.1 r9.2 c_row_length c_row_signs)) ⟨hx, hb, hml, hown, hts⟩ (c_X0_ways l D cI a_bag a_bag_often H.size r9.1 r9.2  r16 hr16) (cwV 0 hts mw_X5_289 rfl rfl rfl hd_X0_ways ⟨Nat.le_of_ble_eq_true rfl, Nat.le_of_ble_eq_true rfl⟩) hS hA hG hK hP hD [1, 2] rfl rfl rfl rfl rfl ⟨Nat.zero_le _, Nat.zero_le _⟩ 0 1 rfl rfl rfl rfl hl.1 rfl (Nat.le_of_ble_eq_true rfl) dX5_blockSize_16 (fun H locs hP hD hS => ?_)
  have ho := Option.some.inj hF
  exact hret H locs ls 19 r16 _ hP hS (by rw [← ho]) (by rw [← ho]) dX5_blockSize_19
abbrev wd_X5_all (cI : ClassId) (a_t a_row a_work a_rest a_bag a_smooth a_text a_saves a_bag_often a_row_signs : Nat) (c_gone : Int32) (c_bag_total : Int32) (c_bag_often : Nat → Int32) (c_row_length : Int32) (c_row_signs : Nat → Int32) : va_W := [(a_t, .inr (5, [.ref a_row, .ref a_work, .ref a_rest, .ref a_bag, .ref a_smooth, .ref a_text, .ref a_saves, .int c_gone])), (a_bag, .inr (0, [.ref a_bag_often, .int c_bag_total])), (a_bag_often, .inl (cI, 6, .inl c_bag_often)), (a_row, .inr (1, [.ref a_row_signs, .int c_row_length])), (a_row_signs, .inl (cI, 11, .inl c_row_signs))]
def rm_X5_all : Room := { frames := 3, cells := 0, slots := 0, locals := 65 }
set_option maxHeartbeats 4000000 in
set_option maxRecDepth 100000 in
theorem c_X5_all (l : Launch) (D : va_G) (cI : ClassId) (a_t a_row a_work a_rest a_bag a_smooth a_text a_saves a_bag_often a_row_signs : Nat) (sz : Nat) (c_gone : Int32) (c_bag_total : Int32) (c_bag_often : Nat → Int32) (c_row_length : Int32) (c_row_signs : Nat → Int32) (o : Int32 × Int32 × (Nat → Int32)) (hF : F_X5_all c_bag_total c_bag_often c_row_length c_row_signs = some o) : Met l yX5_all (Cond.code yX5_all cX5_all 1 (some .int) :: WL) rm_X5_all (preM D [(cI, .int)] (wd_X5_all cI a_t a_row a_work a_rest a_bag a_smooth a_text a_saves a_bag_often a_row_signs c_gone c_bag_total c_bag_often c_row_length c_row_signs) sz [.ref a_t]) (postI D o.1 (wd_X5_all cI a_t a_row a_work a_rest a_bag a_smooth a_text a_saves a_bag_often a_row_signs c_gone o.2.1 o.2.2 c_row_length c_row_signs) (wd_X5_all cI a_t a_row a_work a_rest a_bag a_smooth a_text a_saves a_bag_often a_row_signs c_gone c_bag_total c_bag_often c_row_length c_row_signs) sz) 0 0 (va_A (wd_X5_all cI a_t a_row a_work a_rest a_bag a_smooth a_text a_saves a_bag_often a_row_signs c_gone c_bag_total c_bag_often c_row_length c_row_signs) sz) := by
  refine mofI (by decide +kernel) (Nat.le_of_ble_eq_true rfl) ?_
  intro p e s m args below meth c Q A ls hx hb hml hown hts hK hP hD hS hA hG hl hret hsz0
  have hl : lv_has ls 1 [(0, .ref a_t)] := hl
  unfold F_X5_all at hF
  have hP : va_P D vwCl (wd_X5_all cI a_t a_row a_work a_rest a_bag a_smooth a_text a_saves a_bag_often a_row_signs c_gone c_bag_total c_bag_often c_row_length c_row_signs) s.heap := hP
  obtain ⟨H, hH⟩ : ∃ H, H = s.heap := ⟨_, rfl⟩
  rw [← hH]
  rw [← hH] at hP
  obtain ⟨locs, hlo⟩ : ∃ z : List Loc, z = [] := ⟨_, rfl⟩
  rw [← hlo]
  have hS : va_S A s.heap H locs := by rw [hH, hlo]; exact hS
  refine lv_aload_n hx hb dX5_all_0 rfl (lv_at hl 0 rfl) ?_
  refine lv_iconst (v := 0) hx hb dX5_all_1 (by decide) ?_
  obtain ⟨r2, hr2, hF⟩ := opb hF
  refine kVI (As := [.int (0 : Int32)]) (rest := []) (ws' := (wd_X5_all cI a_t a_row a_work a_rest a_bag a_smooth a_text a_saves a_bag_often a_row_signs c_gone r2.2.1 r2.2.2 c_row_length c_row_signs)) ⟨hx, hb, hml, hown, hts⟩ (c_X5_blockSize l D cI a_t a_row a_work a_rest a_bag a_smooth a_text a_saves a_bag_often a_row_signs H.size c_gone c_bag_total c_bag_often c_row_length c_row_signs (0 : Int32) r2 hr2) (cwV 1 hts mw_X5_185 rfl rfl rfl hd_X5_blockSize ⟨Nat.le_of_ble_eq_true rfl, Nat.le_of_ble_eq_true rfl⟩) hS hA hG hK hP hD [0, 1, 2, 3, 4] rfl rfl rfl rfl rfl ⟨Nat.zero_le _, Nat.zero_le _⟩ 5 0 rfl rfl rfl rfl hl.1 rfl (Nat.le_of_ble_eq_true rfl) dX5_all_2 (fun H locs hP hD hS => ?_)
  have ho := Option.some.inj hF
  exact hret H locs ls 5 r2.1 _ hP hS (by rw [← ho]) (by rw [← ho]) dX5_all_5
abbrev wd_X5_need (cI : ClassId)  : va_W := []
def rm_X5_need : Room := { frames := 0, cells := 0, slots := 0, locals := 0 }
set_option maxHeartbeats 4000000 in
set_option maxRecDepth 100000 in
theorem c_X5_need (l : Launch) (D : va_G) (cI : ClassId) (sz : Nat) (x0 : Int32) (o : Unit) (hF : F_X5_need x0 = some o) : Met l yX5_need (Cond.code yX5_need cX5_need 1 none :: WL) rm_X5_need (preM D [(cI, .int)] (wd_X5_need cI ) sz [.int x0]) (postV D (wd_X5_need cI ) (wd_X5_need cI ) sz) 0 0 (va_A (wd_X5_need cI ) sz) := by
  refine mofV (by decide +kernel) (Nat.le_of_ble_eq_true rfl) ?_
  intro p e s m args below meth c Q A ls hx hb hml hown hts hK hP hD hS hA hG hl hret hsz0
  have hl : lv_has ls 1 [(0, .int x0)] := hl
  unfold F_X5_need at hF
  have hP : va_P D vwCl (wd_X5_need cI ) s.heap := hP
  obtain ⟨H, hH⟩ : ∃ H, H = s.heap := ⟨_, rfl⟩
  rw [← hH]
  rw [← hH] at hP
  obtain ⟨locs, hlo⟩ : ∃ z : List Loc, z = [] := ⟨_, rfl⟩
  rw [← hlo]
  have hS : va_S A s.heap H locs := by rw [hH, hlo]; exact hS
  refine lv_iload_n hx hb dX5_need_0 rfl (lv_at hl 0 rfl) ?_
  refine lv_if_ne (tgt := 15) hx hb dX5_need_1 (by decide) (fun k1 => ?_) (fun k1 => ?_)
  · replace hF := (if_neg k1).symm.trans hF
    have ho := Option.some.inj hF
    exact hret H locs ls 15 _ hP hS rfl dX5_need_15
  · replace hF := (if_pos k1).symm.trans hF
    exact nos hF
abbrev wd_X5_needRank (cI : ClassId) (a_t a_row a_work a_rest a_bag a_smooth a_text a_saves a_bag_often a_row_signs : Nat) (c_gone : Int32) (c_bag_total : Int32) (c_bag_often : Nat → Int32) (c_row_length : Int32) (c_row_signs : Nat → Int32) : va_W := [(a_t, .inr (5, [.ref a_row, .ref a_work, .ref a_rest, .ref a_bag, .ref a_smooth, .ref a_text, .ref a_saves, .int c_gone])), (a_bag, .inr (0, [.ref a_bag_often, .int c_bag_total])), (a_bag_often, .inl (cI, 6, .inl c_bag_often)), (a_row, .inr (1, [.ref a_row_signs, .int c_row_length])), (a_row_signs, .inl (cI, 11, .inl c_row_signs))]
def rm_X5_needRank : Room := { frames := 4, cells := 0, slots := 0, locals := 85 }
set_option maxHeartbeats 4000000 in
set_option maxRecDepth 100000 in
theorem c_X5_needRank (l : Launch) (D : va_G) (cI : ClassId) (a_t a_row a_work a_rest a_bag a_smooth a_text a_saves a_bag_often a_row_signs : Nat) (sz : Nat) (c_gone : Int32) (c_bag_total : Int32) (c_bag_often : Nat → Int32) (c_row_length : Int32) (c_row_signs : Nat → Int32) (x1 : Int32) (o : Int32 × (Nat → Int32)) (hF : F_X5_needRank c_bag_total c_bag_often c_row_length c_row_signs x1 = some o) : Met l yX5_needRank (Cond.code yX5_needRank cX5_needRank 2 none :: WL) rm_X5_needRank (preM D [(cI, .int)] (wd_X5_needRank cI a_t a_row a_work a_rest a_bag a_smooth a_text a_saves a_bag_often a_row_signs c_gone c_bag_total c_bag_often c_row_length c_row_signs) sz [.ref a_t, .int x1]) (postV D (wd_X5_needRank cI a_t a_row a_work a_rest a_bag a_smooth a_text a_saves a_bag_often a_row_signs c_gone o.1 o.2 c_row_length c_row_signs) (wd_X5_needRank cI a_t a_row a_work a_rest a_bag a_smooth a_text a_saves a_bag_often a_row_signs c_gone c_bag_total c_bag_often c_row_length c_row_signs) sz) 0 0 (va_A (wd_X5_needRank cI a_t a_row a_work a_rest a_bag a_smooth a_text a_saves a_bag_often a_row_signs c_gone c_bag_total c_bag_often c_row_length c_row_signs) sz) := by
  refine mofV (by decide +kernel) (Nat.le_of_ble_eq_true rfl) ?_
  intro p e s m args below meth c Q A ls hx hb hml hown hts hK hP hD hS hA hG hl hret hsz0
  have hl : lv_has ls 2 [(0, .ref a_t), (1, .int x1)] := hl
  have K17 : ∀ (c_bag_total : Int32) (c_bag_often : Nat → Int32) (v0 : Int32)  (H : Heap) (locs : List Loc) (ls : Array Slot), va_P D vwCl (wd_X5_needRank cI a_t a_row a_work a_rest a_bag a_smooth a_text a_saves a_bag_often a_row_signs c_gone c_bag_total c_bag_often c_row_length c_row_signs) H → va_D A (wd_X5_needRank cI a_t a_row a_work a_rest a_bag a_smooth a_text a_saves a_bag_often a_row_signs c_gone c_bag_total c_bag_often c_row_length c_row_signs) → va_S A s.heap H locs → lv_has ls 2 [] → F_X5_needRank_J17 c_row_length c_row_signs x1 c_bag_total c_bag_often v0 = some o → W p l e rm_X5_needRank s m args below meth c H locs 0 0 Q (F0 m 17 ls [.int v0]) := by
    intro c_bag_total c_bag_often v0 H locs ls hP hD hS hl hF
    unfold F_X5_needRank_J17 at hF
    obtain ⟨r17, hr17, hF⟩ := opb hF
    refine kSV (As := [.int v0]) (rest := []) (ws' := (wd_X5_needRank cI a_t a_row a_work a_rest a_bag a_smooth a_text a_saves a_bag_often a_row_signs c_gone c_bag_total c_bag_often c_row_length c_row_signs)) ⟨hx, hb, hml, hown, hts⟩ (c_X5_need l D cI  H.size  v0 r17 hr17) (va_cwS 1 hts mw_X5_112 rfl rfl rfl hd_X5_need ⟨Nat.le_of_ble_eq_true rfl, Nat.le_of_ble_eq_true rfl⟩) hS hA hG hK hP hD [] rfl rfl rfl rfl rfl ⟨Nat.zero_le _, Nat.zero_le _⟩ rfl hl.1 rfl (Nat.le_of_ble_eq_true rfl) dX5_needRank_17 (fun H locs hP hD hS => ?_)
    have ho := Option.some.inj hF
    exact hret H locs ls 20 _ hP hS (by rw [← ho]) dX5_needRank_20
  unfold F_X5_needRank at hF
  have hP : va_P D vwCl (wd_X5_needRank cI a_t a_row a_work a_rest a_bag a_smooth a_text a_saves a_bag_often a_row_signs c_gone c_bag_total c_bag_often c_row_length c_row_signs) s.heap := hP
  obtain ⟨H, hH⟩ : ∃ H, H = s.heap := ⟨_, rfl⟩
  rw [← hH]
  rw [← hH] at hP
  obtain ⟨locs, hlo⟩ : ∃ z : List Loc, z = [] := ⟨_, rfl⟩
  rw [← hlo]
  have hS : va_S A s.heap H locs := by rw [hH, hlo]; exact hS
  refine lv_iload_n hx hb dX5_needRank_0 rfl (lv_at hl 1 rfl) ?_
  refine lv_if_lt (tgt := 16) hx hb dX5_needRank_1 (by decide) (fun k1 => ?_) (fun k1 => ?_)
  · replace hF := (if_pos k1).symm.trans hF
    refine lv_iconst (v := 0) hx hb dX5_needRank_16 (by decide) ?_
    exact K17 c_bag_total c_bag_often (0 : Int32) H locs ls hP hD hS (lv_sub hl [] rfl) hF
  · replace hF := (if_neg k1).symm.trans hF
    refine lv_iload_n hx hb dX5_needRank_4 rfl (lv_at hl 1 rfl) ?_
    refine lv_aload_n hx hb dX5_needRank_5 rfl (lv_at hl 0 rfl) ?_
    obtain ⟨r6, hr6, hF⟩ := opb hF
    refine kVI (As := []) (rest := [.int x1]) (ws' := (wd_X5_needRank cI a_t a_row a_work a_rest a_bag a_smooth a_text a_saves a_bag_often a_row_signs c_gone r6.2.1 r6.2.2 c_row_length c_row_signs)) ⟨hx, hb, hml, hown, hts⟩ (c_X5_all l D cI a_t a_row a_work a_rest a_bag a_smooth a_text a_saves a_bag_often a_row_signs H.size c_gone c_bag_total c_bag_often c_row_length c_row_signs  r6 hr6) (cwV 0 hts mw_X5_65 rfl rfl rfl hd_X5_all ⟨Nat.le_of_ble_eq_true rfl, Nat.le_of_ble_eq_true rfl⟩) hS hA hG hK hP hD [0, 1, 2, 3, 4] rfl rfl rfl rfl rfl ⟨Nat.zero_le _, Nat.zero_le _⟩ 5 0 rfl rfl rfl rfl hl.1 rfl (Nat.le_of_ble_eq_true rfl) dX5_needRank_6 (fun H locs hP hD hS => ?_)
    refine lv_icmp_ge (tgt := 16) hx hb dX5_needRank_9 (by decide) (fun k9 => ?_) (fun k9 => ?_)
    · (try simp only [if_pos k9] at hF)
      refine lv_iconst (v := 0) hx hb dX5_needRank_16 (by decide) ?_
      exact K17 r6.2.1 r6.2.2 (0 : Int32) H locs ls hP hD hS (lv_sub hl [] rfl) hF
    · (try simp only [if_neg k9] at hF)
      refine lv_iconst (v := 1) hx hb dX5_needRank_12 (by decide) ?_
      refine lv_goto (tgt := 17) hx hb dX5_needRank_13 (by decide) ?_
      exact K17 r6.2.1 r6.2.2 (1 : Int32) H locs ls hP hD hS (lv_sub hl [] rfl) hF
abbrev wd_X5_part (cI : ClassId)  : va_W := []
def rm_X5_part : Room := { frames := 0, cells := 0, slots := 0, locals := 0 }
set_option maxHeartbeats 4000000 in
set_option maxRecDepth 100000 in
theorem c_X5_part (l : Launch) (D : va_G) (cI : ClassId) (sz : Nat) (x0 : Int32) (x1 : Int32) (x2 : Int32) (o : Int32) (hF : F_X5_part x0 x1 x2 = some o) : Met l yX5_part (Cond.code yX5_part cX5_part 3 (some .int) :: WL) rm_X5_part (preM D [(cI, .int)] (wd_X5_part cI ) sz [.int x0, .int x1, .int x2]) (postI D o (wd_X5_part cI ) (wd_X5_part cI ) sz) 0 0 (va_A (wd_X5_part cI ) sz) := by
  refine mofI (by decide +kernel) (Nat.le_of_ble_eq_true rfl) ?_
  intro p e s m args below meth c Q A ls hx hb hml hown hts hK hP hD hS hA hG hl hret hsz0
  have hl : lv_has ls 3 [(0, .int x0), (1, .int x1), (2, .int x2)] := hl
  unfold F_X5_part at hF
  have hP : va_P D vwCl (wd_X5_part cI ) s.heap := hP
  obtain ⟨H, hH⟩ : ∃ H, H = s.heap := ⟨_, rfl⟩
  rw [← hH]
  rw [← hH] at hP
  obtain ⟨locs, hlo⟩ : ∃ z : List Loc, z = [] := ⟨_, rfl⟩
  rw [← hlo]
  have hS : va_S A s.heap H locs := by rw [hH, hlo]; exact hS
  refine lv_iload_n hx hb dX5_part_0 rfl (lv_at hl 2 rfl) ?_
  refine lv_if_le (tgt := 12) hx hb dX5_part_1 (by decide) (fun k1 => ?_) (fun k1 => ?_)
  · replace hF := (if_pos k1).symm.trans hF
    refine lv_iconst (v := 0) hx hb dX5_part_12 (by decide) ?_
    have ho := Option.some.inj hF
    exact hret H locs ls 13 (0 : Int32) _ hP hS rfl ho dX5_part_13
  · replace hF := (if_neg k1).symm.trans hF
    refine lv_iload_n hx hb dX5_part_4 rfl (lv_at hl 0 rfl) ?_
    refine lv_iload_n hx hb dX5_part_5 rfl (lv_at hl 1 rfl) ?_
    refine lv_imul hx hb dX5_part_6 ?_
    refine lv_iload_n hx hb dX5_part_7 rfl (lv_at hl 2 rfl) ?_
    obtain ⟨g8, hF⟩ := gdb hF
    refine lv_idiv hx hb dX5_part_8 (nzb g8) ?_
    refine lv_goto (tgt := 13) hx hb dX5_part_9 (by decide) ?_
    have ho := Option.some.inj hF
    exact hret H locs ls 13 ((x0 * x1) / x2) _ hP hS rfl ho dX5_part_13
abbrev wd_X5_lowestRank (cI : ClassId) (a_t a_p a_row a_work a_rest a_bag a_smooth a_text a_saves a_bag_often a_p_signs : Nat) (c_gone : Int32) (c_bag_total : Int32) (c_bag_often : Nat → Int32) (c_p_length : Int32) (c_p_signs : Nat → Int32) : va_W := [(a_t, .inr (5, [.ref a_row, .ref a_work, .ref a_rest, .ref a_bag, .ref a_smooth, .ref a_text, .ref a_saves, .int c_gone])), (a_bag, .inr (0, [.ref a_bag_often, .int c_bag_total])), (a_bag_often, .inl (cI, 6, .inl c_bag_often)), (a_p, .inr (1, [.ref a_p_signs, .int c_p_length])), (a_p_signs, .inl (cI, 11, .inl c_p_signs))]
def rm_X5_lowestRank : Room := { frames := 2, cells := 0, slots := 0, locals := 44 }
set_option maxHeartbeats 4000000 in
set_option maxRecDepth 100000 in
theorem c_X5_lowestRank (l : Launch) (D : va_G) (cI : ClassId) (a_t a_p a_row a_work a_rest a_bag a_smooth a_text a_saves a_bag_often a_p_signs : Nat) (sz : Nat) (c_gone : Int32) (c_bag_total : Int32) (c_bag_often : Nat → Int32) (c_p_length : Int32) (c_p_signs : Nat → Int32) (x2 : Int32) (o : Int32 × Int32 × (Nat → Int32)) (hF : F_X5_lowestRank c_bag_total c_bag_often c_p_length c_p_signs x2 = some o) : Met l yX5_lowestRank (Cond.code yX5_lowestRank cX5_lowestRank 7 (some .int) :: WL) rm_X5_lowestRank (preM D [(cI, .int)] (wd_X5_lowestRank cI a_t a_p a_row a_work a_rest a_bag a_smooth a_text a_saves a_bag_often a_p_signs c_gone c_bag_total c_bag_often c_p_length c_p_signs) sz [.ref a_t, .ref a_p, .int x2]) (postI D o.1 (wd_X5_lowestRank cI a_t a_p a_row a_work a_rest a_bag a_smooth a_text a_saves a_bag_often a_p_signs c_gone o.2.1 o.2.2 c_p_length c_p_signs) (wd_X5_lowestRank cI a_t a_p a_row a_work a_rest a_bag a_smooth a_text a_saves a_bag_often a_p_signs c_gone c_bag_total c_bag_often c_p_length c_p_signs) sz) 0 0 (va_A (wd_X5_lowestRank cI a_t a_p a_row a_work a_rest a_bag a_smooth a_text a_saves a_bag_often a_p_signs c_gone c_bag_total c_bag_often c_p_length c_p_signs) sz) := by
  refine mofI (by decide +kernel) (Nat.le_of_ble_eq_true rfl) ?_
  intro p e s m args below meth c Q A ls hx hb hml hown hts hK hP hD hS hA hG hl hret hsz0
  have hl : lv_has ls 7 [(0, .ref a_t), (1, .ref a_p), (2, .int x2)] := hl
  have K23 : ∀ (n23 : Nat) (c_bag_total : Int32) (c_bag_often : Nat → Int32) (x3 : Int32) (x4 : Int32) (x5 : Int32) (H : Heap) (locs : List Loc) (ls : Array Slot), va_P D vwCl (wd_X5_lowestRank cI a_t a_p a_row a_work a_rest a_bag a_smooth a_text a_saves a_bag_often a_p_signs c_gone c_bag_total c_bag_often c_p_length c_p_signs) H → va_D A (wd_X5_lowestRank cI a_t a_p a_row a_work a_rest a_bag a_smooth a_text a_saves a_bag_often a_p_signs c_gone c_bag_total c_bag_often c_p_length c_p_signs) → va_S A s.heap H locs → lv_has ls 7 [(0, .ref a_t), (1, .ref a_p), (2, .int x2), (3, .int x3), (4, .int x4), (5, .int x5)] → F_X5_lowestRank_L23 c_p_length c_p_signs x2 n23 c_bag_total c_bag_often x3 x4 x5 = some o → W p l e rm_X5_lowestRank s m args below meth c H locs 0 0 Q (F0 m 23 ls []) := by
    intro n23
    induction n23 with
    | zero => intro c_bag_total c_bag_often x3 x4 x5 H locs ls hP hD hS hl hF; exact nos hF
    | succ n23 ih23 =>
      intro c_bag_total c_bag_often x3 x4 x5 H locs ls hP hD hS hl hF
      rw [F_X5_lowestRank_L23] at hF
      refine lv_iload hx hb dX5_lowestRank_23 (lv_at hl 5 rfl) ?_
      refine lv_iload_n hx hb dX5_lowestRank_25 rfl (lv_at hl 2 rfl) ?_
      refine lv_icmp_ge (tgt := 98) hx hb dX5_lowestRank_26 (by decide) (fun k26 => ?_) (fun k26 => ?_)
      · replace hF := (if_pos k26).symm.trans hF
        refine lv_iload hx hb dX5_lowestRank_98 (lv_at hl 4 rfl) ?_
        have ho := Option.some.inj hF
        exact hret H locs ls 100 x4 _ hP hS (by rw [← ho]) (by rw [← ho]) dX5_lowestRank_100
      · replace hF := (if_neg k26).symm.trans hF
        refine lv_aload_n hx hb dX5_lowestRank_29 rfl (lv_at hl 1 rfl) ?_
        refine lv_iload hx hb dX5_lowestRank_30 (lv_at hl 5 rfl) ?_
        obtain ⟨r32, hr32, hF⟩ := opb hF
        refine kVI (As := [.int x5]) (rest := []) (ws' := (wd_X5_lowestRank cI a_t a_p a_row a_work a_rest a_bag a_smooth a_text a_saves a_bag_often a_p_signs c_gone c_bag_total c_bag_often c_p_length c_p_signs)) ⟨hx, hb, hml, hown, hts⟩ (c_X1_at l D cI a_p a_p_signs H.size c_p_length c_p_signs x5 r32 hr32) (cwV 1 hts mw_X5_137 rfl rfl rfl hd_X1_at ⟨Nat.le_of_ble_eq_true rfl, Nat.le_of_ble_eq_true rfl⟩) hS hA hG hK hP hD [3, 4] rfl rfl rfl rfl rfl ⟨Nat.zero_le _, Nat.zero_le _⟩ 1 3 rfl rfl rfl rfl hl.1 rfl (Nat.le_of_ble_eq_true rfl) dX5_lowestRank_32 (fun H locs hP hD hS => ?_)
        refine lv_istore (lv' := [(6, .int r32), (0, .ref a_t), (1, .ref a_p), (2, .int x2), (3, .int x3), (4, .int x4), (5, .int x5)]) hx hb dX5_lowestRank_35 hl (by decide) rfl (fun ls hl => ?_)
        refine lv_iload hx hb dX5_lowestRank_37 (lv_at hl 5 rfl) ?_
        refine lv_iload_n hx hb dX5_lowestRank_39 rfl (lv_at hl 4 rfl) ?_
        refine lv_aload_n hx hb dX5_lowestRank_40 rfl (lv_at hl 1 rfl) ?_
        refine get_X5_25 hx hb hts hown hK hP 0 rfl rfl dX5_lowestRank_41 ?_
        refine lv_iload hx hb dX5_lowestRank_44 (lv_at hl 0 rfl) ?_
        obtain ⟨r46, hr46, hF⟩ := opb hF
        refine kVI (As := [.int r32]) (rest := [.int x3, .int x4]) (ws' := (wd_X5_lowestRank cI a_t a_p a_row a_work a_rest a_bag a_smooth a_text a_saves a_bag_often a_p_signs c_gone c_bag_total c_bag_often c_p_length c_p_signs)) ⟨hx, hb, hml, hown, hts⟩ (c_X0_below l D cI a_bag a_bag_often H.size c_bag_total c_bag_often r32 r46 hr46) (cwV 1 hts mw_X5_292 rfl rfl rfl hd_X0_below ⟨Nat.le_of_ble_eq_true rfl, Nat.le_of_ble_eq_true rfl⟩) hS hA hG hK hP hD [1, 2] rfl rfl rfl rfl rfl ⟨Nat.zero_le _, Nat.zero_le _⟩ 0 1 rfl rfl rfl rfl hl.1 rfl (Nat.le_of_ble_eq_true rfl) dX5_lowestRank_46 (fun H locs hP hD hS => ?_)
        refine lv_aload_n hx hb dX5_lowestRank_49 rfl (lv_at hl 1 rfl) ?_
        refine get_X5_25 hx hb hts hown hK hP 0 rfl rfl dX5_lowestRank_50 ?_
        obtain ⟨r53, hr53, hF⟩ := opb hF
        refine kVI (As := []) (rest := [.int r46, .int x3, .int x4]) (ws' := (wd_X5_lowestRank cI a_t a_p a_row a_work a_rest a_bag a_smooth a_text a_saves a_bag_often a_p_signs c_gone c_bag_total c_bag_often c_p_length c_p_signs)) ⟨hx, hb, hml, hown, hts⟩ (c_X0_total l D cI a_bag a_bag_often H.size c_bag_total  r53 hr53) (cwV 0 hts mw_X5_295 rfl rfl rfl hd_X0_total ⟨Nat.le_of_ble_eq_true rfl, Nat.le_of_ble_eq_true rfl⟩) hS hA hG hK hP hD [1] rfl rfl rfl rfl rfl ⟨Nat.zero_le _, Nat.zero_le _⟩ 0 1 rfl rfl rfl rfl hl.1 rfl (Nat.le_of_ble_eq_true rfl) dX5_lowestRank_53 (fun H locs hP hD hS => ?_)
        obtain ⟨r56, hr56, hF⟩ := opb hF
        refine kSI (As := [.int x3, .int r46, .int r53]) (rest := [.int x4]) (ws' := (wd_X5_lowestRank cI a_t a_p a_row a_work a_rest a_bag a_smooth a_text a_saves a_bag_often a_p_signs c_gone c_bag_total c_bag_often c_p_length c_p_signs)) ⟨hx, hb, hml, hown, hts⟩ (c_X5_part l D cI  H.size  x3 r46 r53 r56 hr56) (va_cwS 3 hts mw_X5_298 rfl rfl rfl hd_X5_part ⟨Nat.le_of_ble_eq_true rfl, Nat.le_of_ble_eq_true rfl⟩) hS hA hG hK hP hD [] rfl rfl rfl rfl rfl ⟨Nat.zero_le _, Nat.zero_le _⟩ rfl hl.1 rfl (Nat.le_of_ble_eq_true rfl) dX5_lowestRank_56 (fun H locs hP hD hS => ?_)
        refine lv_iadd hx hb dX5_lowestRank_59 ?_
        refine lv_istore (lv' := [(4, .int (x4 + r56)), (6, .int r32), (0, .ref a_t), (1, .ref a_p), (2, .int x2), (3, .int x3), (5, .int x5)]) hx hb dX5_lowestRank_60 hl (by decide) rfl (fun ls hl => ?_)
        refine lv_iload_n hx hb dX5_lowestRank_62 rfl (lv_at hl 5 rfl) ?_
        refine lv_aload_n hx hb dX5_lowestRank_63 rfl (lv_at hl 2 rfl) ?_
        refine get_X5_25 hx hb hts hown hK hP 0 rfl rfl dX5_lowestRank_64 ?_
        refine lv_iload hx hb dX5_lowestRank_67 (lv_at hl 1 rfl) ?_
        obtain ⟨r69, hr69, hF⟩ := opb hF
        refine kVI (As := [.int r32]) (rest := [.int x3]) (ws' := (wd_X5_lowestRank cI a_t a_p a_row a_work a_rest a_bag a_smooth a_text a_saves a_bag_often a_p_signs c_gone c_bag_total c_bag_often c_p_length c_p_signs)) ⟨hx, hb, hml, hown, hts⟩ (c_X0_of l D cI a_bag a_bag_often H.size c_bag_total c_bag_often r32 r69 hr69) (cwV 1 hts mw_X5_178 rfl rfl rfl hd_X0_of ⟨Nat.le_of_ble_eq_true rfl, Nat.le_of_ble_eq_true rfl⟩) hS hA hG hK hP hD [1, 2] rfl rfl rfl rfl rfl ⟨Nat.zero_le _, Nat.zero_le _⟩ 0 1 rfl rfl rfl rfl hl.1 rfl (Nat.le_of_ble_eq_true rfl) dX5_lowestRank_69 (fun H locs hP hD hS => ?_)
        refine lv_aload_n hx hb dX5_lowestRank_72 rfl (lv_at hl 2 rfl) ?_
        refine get_X5_25 hx hb hts hown hK hP 0 rfl rfl dX5_lowestRank_73 ?_
        obtain ⟨r76, hr76, hF⟩ := opb hF
        refine kVI (As := []) (rest := [.int r69, .int x3]) (ws' := (wd_X5_lowestRank cI a_t a_p a_row a_work a_rest a_bag a_smooth a_text a_saves a_bag_often a_p_signs c_gone c_bag_total c_bag_often c_p_length c_p_signs)) ⟨hx, hb, hml, hown, hts⟩ (c_X0_total l D cI a_bag a_bag_often H.size c_bag_total  r76 hr76) (cwV 0 hts mw_X5_295 rfl rfl rfl hd_X0_total ⟨Nat.le_of_ble_eq_true rfl, Nat.le_of_ble_eq_true rfl⟩) hS hA hG hK hP hD [1] rfl rfl rfl rfl rfl ⟨Nat.zero_le _, Nat.zero_le _⟩ 0 1 rfl rfl rfl rfl hl.1 rfl (Nat.le_of_ble_eq_true rfl) dX5_lowestRank_76 (fun H locs hP hD hS => ?_)
        obtain ⟨r79, hr79, hF⟩ := opb hF
        refine kSI (As := [.int x3, .int r69, .int r76]) (rest := []) (ws' := (wd_X5_lowestRank cI a_t a_p a_row a_work a_rest a_bag a_smooth a_text a_saves a_bag_often a_p_signs c_gone c_bag_total c_bag_often c_p_length c_p_signs)) ⟨hx, hb, hml, hown, hts⟩ (c_X5_part l D cI  H.size  x3 r69 r76 r79 hr79) (va_cwS 3 hts mw_X5_298 rfl rfl rfl hd_X5_part ⟨Nat.le_of_ble_eq_true rfl, Nat.le_of_ble_eq_true rfl⟩) hS hA hG hK hP hD [] rfl rfl rfl rfl rfl ⟨Nat.zero_le _, Nat.zero_le _⟩ rfl hl.1 rfl (Nat.le_of_ble_eq_true rfl) dX5_lowestRank_79 (fun H locs hP hD hS => ?_)
        refine lv_istore_n (lv' := [(3, .int r79), (4, .int (x4 + r56)), (6, .int r32), (0, .ref a_t), (1, .ref a_p), (2, .int x2), (5, .int x5)]) hx hb dX5_lowestRank_82 rfl hl (by decide) rfl (fun ls hl => ?_)
        refine lv_aload_n hx hb dX5_lowestRank_83 rfl (lv_at hl 3 rfl) ?_
        refine get_X5_25 hx hb hts hown hK hP 0 rfl rfl dX5_lowestRank_84 ?_
        refine lv_iload hx hb dX5_lowestRank_87 (lv_at hl 2 rfl) ?_
        obtain ⟨r89, hr89, hF⟩ := opb hF
        refine kVV (As := [.int r32]) (rest := []) (ws' := (wd_X5_lowestRank cI a_t a_p a_row a_work a_rest a_bag a_smooth a_text a_saves a_bag_often a_p_signs c_gone r89.1 r89.2 c_p_length c_p_signs)) ⟨hx, hb, hml, hown, hts⟩ (c_X0_drop l D cI a_bag a_bag_often H.size c_bag_total c_bag_often r32 r89 hr89) (cwV 1 hts mw_X5_301 rfl rfl rfl hd_X0_drop ⟨Nat.le_of_ble_eq_true rfl, Nat.le_of_ble_eq_true rfl⟩) hS hA hG hK hP hD [1, 2] rfl rfl rfl rfl rfl ⟨Nat.zero_le _, Nat.zero_le _⟩ 0 1 rfl rfl rfl rfl hl.1 rfl (Nat.le_of_ble_eq_true rfl) dX5_lowestRank_89 (fun H locs hP hD hS => ?_)
        refine lv_iinc (v := x5 + 1) (lv' := [(5, .int (x5 + 1)), (3, .int r79), (4, .int (x4 + r56)), (6, .int r32), (0, .ref a_t), (1, .ref a_p), (2, .int x2)]) hx hb dX5_lowestRank_92 hl (k := 6) rfl rfl (by decide) rfl (fun ls hl => ?_)
        refine lv_goto (tgt := 23) hx hb dX5_lowestRank_95 (by decide) ?_
        exact ih23 r89.1 r89.2 r79 (x4 + r56) (x5 + 1) H locs ls hP hD hS (lv_sub hl [4, 5, 6, 1, 2, 0] rfl) hF
  unfold F_X5_lowestRank at hF
  have hP : va_P D vwCl (wd_X5_lowestRank cI a_t a_p a_row a_work a_rest a_bag a_smooth a_text a_saves a_bag_often a_p_signs c_gone c_bag_total c_bag_often c_p_length c_p_signs) s.heap := hP
  obtain ⟨H, hH⟩ : ∃ H, H = s.heap := ⟨_, rfl⟩
  rw [← hH]
  rw [← hH] at hP
  obtain ⟨locs, hlo⟩ : ∃ z : List Loc, z = [] := ⟨_, rfl⟩
  rw [← hlo]
  have hS : va_S A s.heap H locs := by rw [hH, hlo]; exact hS
  refine lv_aload_n hx hb dX5_lowestRank_0 rfl (lv_at hl 0 rfl) ?_
  refine get_X5_25 hx hb hts hown hK hP 0 rfl rfl dX5_lowestRank_1 ?_
  refine lv_aload_n hx hb dX5_lowestRank_4 rfl (lv_at hl 1 rfl) ?_
  refine lv_iconst (v := 0) hx hb dX5_lowestRank_5 (by decide) ?_
  obtain ⟨r6, hr6, hF⟩ := opb hF
  refine kVV (As := [.ref a_p, .int (0 : Int32)]) (rest := []) (ws' := (wd_X5_lowestRank cI a_t a_p a_row a_work a_rest a_bag a_smooth a_text a_saves a_bag_often a_p_signs c_gone r6.1 r6.2 c_p_length c_p_signs)) ⟨hx, hb, hml, hown, hts⟩ (c_X0_fill l D cI a_bag a_p a_bag_often a_p_signs H.size c_bag_total c_bag_often c_p_length c_p_signs (0 : Int32) r6 hr6) (cwV 2 hts mw_X5_171 rfl rfl rfl hd_X0_fill ⟨Nat.le_of_ble_eq_true rfl, Nat.le_of_ble_eq_true rfl⟩) hS hA hG hK hP hD [1, 2, 3, 4] rfl rfl rfl rfl rfl ⟨Nat.zero_le _, Nat.zero_le _⟩ 0 1 rfl rfl rfl rfl hl.1 rfl (Nat.le_of_ble_eq_true rfl) dX5_lowestRank_6 (fun H locs hP hD hS => ?_)
  refine lv_aload_n hx hb dX5_lowestRank_9 rfl (lv_at hl 0 rfl) ?_
  refine get_X5_25 hx hb hts hown hK hP 0 rfl rfl dX5_lowestRank_10 ?_
  obtain ⟨r13, hr13, hF⟩ := opb hF
  refine kVI (As := []) (rest := []) (ws' := (wd_X5_lowestRank cI a_t a_p a_row a_work a_rest a_bag a_smooth a_text a_saves a_bag_often a_p_signs c_gone r6.1 r6.2 c_p_length c_p_signs)) ⟨hx, hb, hml, hown, hts⟩ (c_X0_ways l D cI a_bag a_bag_often H.size r6.1 r6.2  r13 hr13) (cwV 0 hts mw_X5_289 rfl rfl rfl hd_X0_ways ⟨Nat.le_of_ble_eq_true rfl, Nat.le_of_ble_eq_true rfl⟩) hS hA hG hK hP hD [1, 2] rfl rfl rfl rfl rfl ⟨Nat.zero_le _, Nat.zero_le _⟩ 0 1 rfl rfl rfl rfl hl.1 rfl (Nat.le_of_ble_eq_true rfl) dX5_lowestRank_13 (fun H locs hP hD hS => ?_)
  refine lv_istore_n (lv' := [(3, .int r13), (0, .ref a_t), (1, .ref a_p), (2, .int x2)]) hx hb dX5_lowestRank_16 rfl hl (by decide) rfl (fun ls hl => ?_)
  refine lv_iconst (v := 0) hx hb dX5_lowestRank_17 (by decide) ?_
  refine lv_istore (lv' := [(4, .int (0 : Int32)), (3, .int r13), (0, .ref a_t), (1, .ref a_p), (2, .int x2)]) hx hb dX5_lowestRank_18 hl (by decide) rfl (fun ls hl => ?_)
  refine lv_iconst (v := 0) hx hb dX5_lowestRank_20 (by decide) ?_
  refine lv_istore (lv' := [(5, .int (0 : Int32)), (4, .int (0 : Int32)), (3, .int r13), (0, .ref a_t), (1, .ref a_p), (2, .int x2)]) hx hb dX5_lowestRank_21 hl (by decide) rfl (fun ls hl => ?_)
  exact K23 FU r6.1 r6.2 r13 (0 : Int32) (0 : Int32) H locs ls hP hD hS (lv_sub hl [3, 4, 5, 2, 1, 0] rfl) hF
abbrev wd_X5_rankOf (cI : ClassId) (a_t a_p a_row a_work a_rest a_bag a_smooth a_text a_saves a_bag_often a_p_signs : Nat) (c_gone : Int32) (c_bag_total : Int32) (c_bag_often : Nat → Int32) (c_p_length : Int32) (c_p_signs : Nat → Int32) : va_W := [(a_t, .inr (5, [.ref a_row, .ref a_work, .ref a_rest, .ref a_bag, .ref a_smooth, .ref a_text, .ref a_saves, .int c_gone])), (a_bag, .inr (0, [.ref a_bag_often, .int c_bag_total])), (a_bag_often, .inl (cI, 6, .inl c_bag_often)), (a_p, .inr (1, [.ref a_p_signs, .int c_p_length])), (a_p_signs, .inl (cI, 11, .inl c_p_signs))]
def rm_X5_rankOf : Room := { frames := 3, cells := 0, slots := 0, locals := 70 }
set_option maxHeartbeats 4000000 in
set_option maxRecDepth 100000 in
theorem c_X5_rankOf (l : Launch) (D : va_G) (cI : ClassId) (a_t a_p a_row a_work a_rest a_bag a_smooth a_text a_saves a_bag_often a_p_signs : Nat) (sz : Nat) (c_gone : Int32) (c_bag_total : Int32) (c_bag_often : Nat → Int32) (c_p_length : Int32) (c_p_signs : Nat → Int32) (o : Int32 × Int32 × (Nat → Int32)) (hF : F_X5_rankOf c_bag_total c_bag_often c_p_length c_p_signs = some o) : Met l yX5_rankOf (Cond.code yX5_rankOf cX5_rankOf 2 (some .int) :: WL) rm_X5_rankOf (preM D [(cI, .int)] (wd_X5_rankOf cI a_t a_p a_row a_work a_rest a_bag a_smooth a_text a_saves a_bag_often a_p_signs c_gone c_bag_total c_bag_often c_p_length c_p_signs) sz [.ref a_t, .ref a_p]) (postI D o.1 (wd_X5_rankOf cI a_t a_p a_row a_work a_rest a_bag a_smooth a_text a_saves a_bag_often a_p_signs c_gone o.2.1 o.2.2 c_p_length c_p_signs) (wd_X5_rankOf cI a_t a_p a_row a_work a_rest a_bag a_smooth a_text a_saves a_bag_often a_p_signs c_gone c_bag_total c_bag_often c_p_length c_p_signs) sz) 0 0 (va_A (wd_X5_rankOf cI a_t a_p a_row a_work a_rest a_bag a_smooth a_text a_saves a_bag_often a_p_signs c_gone c_bag_total c_bag_often c_p_length c_p_signs) sz) := by
  refine mofI (by decide +kernel) (Nat.le_of_ble_eq_true rfl) ?_
  intro p e s m args below meth c Q A ls hx hb hml hown hts hK hP hD hS hA hG hl hret hsz0
  have hl : lv_has ls 2 [(0, .ref a_t), (1, .ref a_p)] := hl
  unfold F_X5_rankOf at hF
  have hP : va_P D vwCl (wd_X5_rankOf cI a_t a_p a_row a_work a_rest a_bag a_smooth a_text a_saves a_bag_often a_p_signs c_gone c_bag_total c_bag_often c_p_length c_p_signs) s.heap := hP
  obtain ⟨H, hH⟩ : ∃ H, H = s.heap := ⟨_, rfl⟩
  rw [← hH]
  rw [← hH] at hP
  obtain ⟨locs, hlo⟩ : ∃ z : List Loc, z = [] := ⟨_, rfl⟩
  rw [← hlo]
  have hS : va_S A s.heap H locs := by rw [hH, hlo]; exact hS
  refine lv_aload_n hx hb dX5_rankOf_0 rfl (lv_at hl 0 rfl) ?_
  refine lv_aload_n hx hb dX5_rankOf_1 rfl (lv_at hl 1 rfl) ?_
  refine lv_aload_n hx hb dX5_rankOf_2 rfl (lv_at hl 1 rfl) ?_
  obtain ⟨r3, hr3, hF⟩ := opb hF
  refine kVI (As := []) (rest := [.ref a_p, .ref a_t]) (ws' := (wd_X5_rankOf cI a_t a_p a_row a_work a_rest a_bag a_smooth a_text a_saves a_bag_often a_p_signs c_gone c_bag_total c_bag_often c_p_length c_p_signs)) ⟨hx, hb, hml, hown, hts⟩ (c_X1_length l D cI a_p a_p_signs H.size c_p_length  r3 hr3) (cwV 0 hts mw_X5_79 rfl rfl rfl hd_X1_length ⟨Nat.le_of_ble_eq_true rfl, Nat.le_of_ble_eq_true rfl⟩) hS hA hG hK hP hD [3] rfl rfl rfl rfl rfl ⟨Nat.zero_le _, Nat.zero_le _⟩ 1 3 rfl rfl rfl rfl hl.1 rfl (Nat.le_of_ble_eq_true rfl) dX5_rankOf_3 (fun H locs hP hD hS => ?_)
  obtain ⟨r6, hr6, hF⟩ := opb hF
  refine kVI (As := [.ref a_p, .int r3]) (rest := []) (ws' := (wd_X5_rankOf cI a_t a_p a_row a_work a_rest a_bag a_smooth a_text a_saves a_bag_often a_p_signs c_gone r6.2.1 r6.2.2 c_p_length c_p_signs)) ⟨hx, hb, hml, hown, hts⟩ (c_X5_lowestRank l D cI a_t a_p a_row a_work a_rest a_bag a_smooth a_text a_saves a_bag_often a_p_signs H.size c_gone c_bag_total c_bag_often c_p_length c_p_signs r3 r6 hr6) (cwV 2 hts mw_X5_181 rfl rfl rfl hd_X5_lowestRank ⟨Nat.le_of_ble_eq_true rfl, Nat.le_of_ble_eq_true rfl⟩) hS hA hG hK hP hD [0, 1, 2, 3, 4] rfl rfl rfl rfl rfl ⟨Nat.zero_le _, Nat.zero_le _⟩ 5 0 rfl rfl rfl rfl hl.1 rfl (Nat.le_of_ble_eq_true rfl) dX5_rankOf_6 (fun H locs hP hD hS => ?_)
  have ho := Option.some.inj hF
  exact hret H locs ls 9 r6.1 _ hP hS (by rw [← ho]) (by rw [← ho]) dX5_rankOf_9
abbrev wd_X5_layOut (cI : ClassId) (a_t a_row a_work a_rest a_bag a_smooth a_text a_saves a_bag_often a_row_signs a_work_signs : Nat) (c_gone : Int32) (c_bag_total : Int32) (c_bag_often : Nat → Int32) (c_row_length : Int32) (c_row_signs : Nat → Int32) (c_work_length : Int32) (c_work_signs : Nat → Int32) : va_W := [(a_t, .inr (5, [.ref a_row, .ref a_work, .ref a_rest, .ref a_bag, .ref a_smooth, .ref a_text, .ref a_saves, .int c_gone])), (a_bag, .inr (0, [.ref a_bag_often, .int c_bag_total])), (a_bag_often, .inl (cI, 6, .inl c_bag_often)), (a_row, .inr (1, [.ref a_row_signs, .int c_row_length])), (a_row_signs, .inl (cI, 11, .inl c_row_signs)), (a_work, .inr (1, [.ref a_work_signs, .int c_work_length])), (a_work_signs, .inl (cI, 11, .inl c_work_signs))]
def rm_X5_layOut : Room := { frames := 2, cells := 0, slots := 0, locals := 44 }
set_option maxHeartbeats 4000000 in
set_option maxRecDepth 100000 in
theorem c_X5_layOut (l : Launch) (D : va_G) (cI : ClassId) (a_t a_row a_work a_rest a_bag a_smooth a_text a_saves a_bag_often a_row_signs a_work_signs : Nat) (sz : Nat) (c_gone : Int32) (c_bag_total : Int32) (c_bag_often : Nat → Int32) (c_row_length : Int32) (c_row_signs : Nat → Int32) (c_work_length : Int32) (c_work_signs : Nat → Int32) (x1 : Int32) (o : Int32 × (Nat → Int32) × Int32 × (Nat → Int32)) (hF : F_X5_layOut c_bag_total c_bag_often c_row_length c_row_signs c_work_length c_work_signs x1 = some o) : Met l yX5_layOut (Cond.code yX5_layOut cX5_layOut 7 none :: WL) rm_X5_layOut (preM D [(cI, .int)] (wd_X5_layOut cI a_t a_row a_work a_rest a_bag a_smooth a_text a_saves a_bag_often a_row_signs a_work_signs c_gone c_bag_total c_bag_often c_row_length c_row_signs c_work_length c_work_signs) sz [.ref a_t, .int x1]) (postV D (wd_X5_layOut cI a_t a_row a_work a_rest a_bag a_smooth a_text a_saves a_bag_often a_row_signs a_work_signs c_gone o.1 o.2.1 c_row_length c_row_signs o.2.2.1 o.2.2.2) (wd_X5_layOut cI a_t a_row a_work a_rest a_bag a_smooth a_text a_saves a_bag_often a_row_signs a_work_signs c_gone c_bag_total c_bag_often c_row_length c_row_signs c_work_length c_work_signs) sz) 0 0 (va_A (wd_X5_layOut cI a_t a_row a_work a_rest a_bag a_smooth a_text a_saves a_bag_often a_row_signs a_work_signs c_gone c_bag_total c_bag_often c_row_length c_row_signs c_work_length c_work_signs) sz) := by
  refine mofV (by decide +kernel) (Nat.le_of_ble_eq_true rfl) ?_
  intro p e s m args below meth c Q A ls hx hb hml hown hts hK hP hD hS hA hG hl hret hsz0
  have hl : lv_has ls 7 [(0, .ref a_t), (1, .int x1)] := hl
  have K32 : ∀ (n32 : Nat) (c_bag_total : Int32) (c_bag_often : Nat → Int32) (c_work_length : Int32) (c_work_signs : Nat → Int32) (x2 : Int32) (x3 : Int32) (x4 : Int32) (H : Heap) (locs : List Loc) (ls : Array Slot), va_P D vwCl (wd_X5_layOut cI a_t a_row a_work a_rest a_bag a_smooth a_text a_saves a_bag_often a_row_signs a_work_signs c_gone c_bag_total c_bag_often c_row_length c_row_signs c_work_length c_work_signs) H → va_D A (wd_X5_layOut cI a_t a_row a_work a_rest a_bag a_smooth a_text a_saves a_bag_often a_row_signs a_work_signs c_gone c_bag_total c_bag_often c_row_length c_row_signs c_work_length c_work_signs) → va_S A s.heap H locs → lv_has ls 7 [(0, .ref a_t), (2, .int x2), (3, .int x3), (4, .int x4)] → F_X5_layOut_L32 c_row_length c_row_signs x1 n32 c_bag_total c_bag_often c_work_length c_work_signs x2 x3 x4 = some o → W p l e rm_X5_layOut s m args below meth c H locs 0 0 Q (F0 m 32 ls []) := by
    intro n32
    induction n32 with
    | zero => intro c_bag_total c_bag_often c_work_length c_work_signs x2 x3 x4 H locs ls hP hD hS hl hF; exact nos hF
    | succ n32 ih32 =>
      have K114 : ∀ (c_bag_total : Int32) (c_bag_often : Nat → Int32) (c_work_length : Int32) (c_work_signs : Nat → Int32) (x3 : Int32) (x4 : Int32) (x5 : Int32) (x6 : Int32)  (H : Heap) (locs : List Loc) (ls : Array Slot), va_P D vwCl (wd_X5_layOut cI a_t a_row a_work a_rest a_bag a_smooth a_text a_saves a_bag_often a_row_signs a_work_signs c_gone c_bag_total c_bag_often c_row_length c_row_signs c_work_length c_work_signs) H → va_D A (wd_X5_layOut cI a_t a_row a_work a_rest a_bag a_smooth a_text a_saves a_bag_often a_row_signs a_work_signs c_gone c_bag_total c_bag_often c_row_length c_row_signs c_work_length c_work_signs) → va_S A s.heap H locs → lv_has ls 7 [(0, .ref a_t), (3, .int x3), (4, .int x4), (5, .int x5), (6, .int x6)] → F_X5_layOut_J114 (F_X5_layOut_L32 c_row_length c_row_signs x1 n32) c_row_length c_row_signs x1 c_bag_total c_bag_often c_work_length c_work_signs x3 x4 x5 x6 = some o → W p l e rm_X5_layOut s m args below meth c H locs 0 0 Q (F0 m 114 ls []) := by
        intro c_bag_total c_bag_often c_work_length c_work_signs x3 x4 x5 x6 H locs ls hP hD hS hl hF
        unfold F_X5_layOut_J114 at hF
        refine lv_iload hx hb dX5_layOut_114 (lv_at hl 4 rfl) ?_
        refine lv_istore_n (lv' := [(2, .int x6), (0, .ref a_t), (3, .int x3), (4, .int x4), (5, .int x5), (6, .int x6)]) hx hb dX5_layOut_116 rfl hl (by decide) rfl (fun ls hl => ?_)
        refine lv_aload_n hx hb dX5_layOut_117 rfl (lv_at hl 1 rfl) ?_
        refine get_X5_16 hx hb hts hown hK hP 0 rfl rfl dX5_layOut_118 ?_
        refine lv_iload hx hb dX5_layOut_121 (lv_at hl 4 rfl) ?_
        obtain ⟨r123, hr123, hF⟩ := opb hF
        refine kVV (As := [.int x5]) (rest := []) (ws' := (wd_X5_layOut cI a_t a_row a_work a_rest a_bag a_smooth a_text a_saves a_bag_often a_row_signs a_work_signs c_gone c_bag_total c_bag_often c_row_length c_row_signs r123.1 r123.2)) ⟨hx, hb, hml, hown, hts⟩ (c_X1_add l D cI a_work a_work_signs H.size c_work_length c_work_signs x5 r123 hr123) (cwV 1 hts mw_X5_50 rfl rfl rfl hd_X1_add ⟨Nat.le_of_ble_eq_true rfl, Nat.le_of_ble_eq_true rfl⟩) hS hA hG hK hP hD [5, 6] rfl rfl rfl rfl rfl ⟨Nat.zero_le _, Nat.zero_le _⟩ 1 5 rfl rfl rfl rfl hl.1 rfl (Nat.le_of_ble_eq_true rfl) dX5_layOut_123 (fun H locs hP hD hS => ?_)
        refine lv_aload_n hx hb dX5_layOut_126 rfl (lv_at hl 1 rfl) ?_
        refine get_X5_25 hx hb hts hown hK hP 0 rfl rfl dX5_layOut_127 ?_
        refine lv_iload hx hb dX5_layOut_130 (lv_at hl 4 rfl) ?_
        obtain ⟨r132, hr132, hF⟩ := opb hF
        refine kVV (As := [.int x5]) (rest := []) (ws' := (wd_X5_layOut cI a_t a_row a_work a_rest a_bag a_smooth a_text a_saves a_bag_often a_row_signs a_work_signs c_gone r132.1 r132.2 c_row_length c_row_signs r123.1 r123.2)) ⟨hx, hb, hml, hown, hts⟩ (c_X0_drop l D cI a_bag a_bag_often H.size c_bag_total c_bag_often x5 r132 hr132) (cwV 1 hts mw_X5_301 rfl rfl rfl hd_X0_drop ⟨Nat.le_of_ble_eq_true rfl, Nat.le_of_ble_eq_true rfl⟩) hS hA hG hK hP hD [1, 2] rfl rfl rfl rfl rfl ⟨Nat.zero_le _, Nat.zero_le _⟩ 0 1 rfl rfl rfl rfl hl.1 rfl (Nat.le_of_ble_eq_true rfl) dX5_layOut_132 (fun H locs hP hD hS => ?_)
        refine lv_iinc (v := x4 + 1) (lv' := [(4, .int (x4 + 1)), (2, .int x6), (0, .ref a_t), (3, .int x3), (5, .int x5), (6, .int x6)]) hx hb dX5_layOut_135 hl (k := 3) rfl rfl (by decide) rfl (fun ls hl => ?_)
        refine lv_goto (tgt := 32) hx hb dX5_layOut_138 (by decide) ?_
        exact ih32 r132.1 r132.2 r123.1 r123.2 x6 x3 (x4 + 1) H locs ls hP hD hS (lv_sub hl [2, 1, 3, 0] rfl) hF
      have K69 : ∀ (n69 : Nat) (c_bag_total : Int32) (c_bag_often : Nat → Int32) (c_work_length : Int32) (c_work_signs : Nat → Int32) (x2 : Int32) (x3 : Int32) (x4 : Int32) (x5 : Int32) (x6 : Int32) (H : Heap) (locs : List Loc) (ls : Array Slot), va_P D vwCl (wd_X5_layOut cI a_t a_row a_work a_rest a_bag a_smooth a_text a_saves a_bag_often a_row_signs a_work_signs c_gone c_bag_total c_bag_often c_row_length c_row_signs c_work_length c_work_signs) H → va_D A (wd_X5_layOut cI a_t a_row a_work a_rest a_bag a_smooth a_text a_saves a_bag_often a_row_signs a_work_signs c_gone c_bag_total c_bag_often c_row_length c_row_signs c_work_length c_work_signs) → va_S A s.heap H locs → lv_has ls 7 [(0, .ref a_t), (2, .int x2), (3, .int x3), (4, .int x4), (5, .int x5), (6, .int x6)] → F_X5_layOut_L69 (F_X5_layOut_L32 c_row_length c_row_signs x1 n32) c_row_length c_row_signs x1 n69 c_bag_total c_bag_often c_work_length c_work_signs x2 x3 x4 x5 x6 = some o → W p l e rm_X5_layOut s m args below meth c H locs 0 0 Q (F0 m 69 ls []) := by
        intro n69
        induction n69 with
        | zero => intro c_bag_total c_bag_often c_work_length c_work_signs x2 x3 x4 x5 x6 H locs ls hP hD hS hl hF; exact nos hF
        | succ n69 ih69 =>
          intro c_bag_total c_bag_often c_work_length c_work_signs x2 x3 x4 x5 x6 H locs ls hP hD hS hl hF
          rw [F_X5_layOut_L69] at hF
          refine lv_iload hx hb dX5_layOut_69 (lv_at hl 4 rfl) ?_
          refine lv_iconst (v := 5) hx hb dX5_layOut_71 (by decide) ?_
          refine lv_icmp_ge (tgt := 114) hx hb dX5_layOut_72 (by decide) (fun k72 => ?_) (fun k72 => ?_)
          · replace hF := (if_pos k72).symm.trans hF
            exact K114 c_bag_total c_bag_often c_work_length c_work_signs x3 x4 x5 x6 H locs ls hP hD hS (lv_sub hl [0, 2, 3, 4, 5] rfl) hF
          · replace hF := (if_neg k72).symm.trans hF
            refine lv_iload_n hx hb dX5_layOut_75 rfl (lv_at hl 2 rfl) ?_
            refine lv_iload hx hb dX5_layOut_76 (lv_at hl 5 rfl) ?_
            refine lv_icmp_lt (tgt := 114) hx hb dX5_layOut_78 (by decide) (fun k78 => ?_) (fun k78 => ?_)
            · replace hF := (if_pos k78).symm.trans hF
              exact K114 c_bag_total c_bag_often c_work_length c_work_signs x3 x4 x5 x6 H locs ls hP hD hS (lv_sub hl [0, 2, 3, 4, 5] rfl) hF
            · replace hF := (if_neg k78).symm.trans hF
              refine lv_iload_n hx hb dX5_layOut_81 rfl (lv_at hl 2 rfl) ?_
              refine lv_iload hx hb dX5_layOut_82 (lv_at hl 5 rfl) ?_
              refine lv_isub hx hb dX5_layOut_84 ?_
              refine lv_istore_n (lv' := [(3, .int (x3 - x6)), (0, .ref a_t), (2, .int x2), (4, .int x4), (5, .int x5), (6, .int x6)]) hx hb dX5_layOut_85 rfl hl (by decide) rfl (fun ls hl => ?_)
              refine lv_iinc (v := x5 + 1) (lv' := [(5, .int (x5 + 1)), (3, .int (x3 - x6)), (0, .ref a_t), (2, .int x2), (4, .int x4), (6, .int x6)]) hx hb dX5_layOut_86 hl (k := 4) rfl rfl (by decide) rfl (fun ls hl => ?_)
              refine lv_iload_n hx hb dX5_layOut_89 rfl (lv_at hl 3 rfl) ?_
              refine lv_aload_n hx hb dX5_layOut_90 rfl (lv_at hl 2 rfl) ?_
              refine get_X5_25 hx hb hts hown hK hP 0 rfl rfl dX5_layOut_91 ?_
              refine lv_iload hx hb dX5_layOut_94 (lv_at hl 0 rfl) ?_
              obtain ⟨r96, hr96, hF⟩ := opb hF
              refine kVI (As := [.int (x5 + 1)]) (rest := [.int x2]) (ws' := (wd_X5_layOut cI a_t a_row a_work a_rest a_bag a_smooth a_text a_saves a_bag_often a_row_signs a_work_signs c_gone c_bag_total c_bag_often c_row_length c_row_signs c_work_length c_work_signs)) ⟨hx, hb, hml, hown, hts⟩ (c_X0_of l D cI a_bag a_bag_often H.size c_bag_total c_bag_often (x5 + 1) r96 hr96) (cwV 1 hts mw_X5_178 rfl rfl rfl hd_X0_of ⟨Nat.le_of_ble_eq_true rfl, Nat.le_of_ble_eq_true rfl⟩) hS hA hG hK hP hD [1, 2] rfl rfl rfl rfl rfl ⟨Nat.zero_le _, Nat.zero_le _⟩ 0 1 rfl rfl rfl rfl hl.1 rfl (Nat.le_of_ble_eq_true rfl) dX5_layOut_96 (fun H locs hP hD hS => ?_)
              refine lv_aload_n hx hb dX5_layOut_99 rfl (lv_at hl 2 rfl) ?_
              refine get_X5_25 hx hb hts hown hK hP 0 rfl rfl dX5_layOut_100 ?_
              obtain ⟨r103, hr103, hF⟩ := opb hF
              refine kVI (As := []) (rest := [.int r96, .int x2]) (ws' := (wd_X5_layOut cI a_t a_row a_work a_rest a_bag a_smooth a_text a_saves a_bag_often a_row_signs a_work_signs c_gone c_bag_total c_bag_often c_row_length c_row_signs c_work_length c_work_signs)) ⟨hx, hb, hml, hown, hts⟩ (c_X0_total l D cI a_bag a_bag_often H.size c_bag_total  r103 hr103) (cwV 0 hts mw_X5_295 rfl rfl rfl hd_X0_total ⟨Nat.le_of_ble_eq_true rfl, Nat.le_of_ble_eq_true rfl⟩) hS hA hG hK hP hD [1] rfl rfl rfl rfl rfl ⟨Nat.zero_le _, Nat.zero_le _⟩ 0 1 rfl rfl rfl rfl hl.1 rfl (Nat.le_of_ble_eq_true rfl) dX5_layOut_103 (fun H locs hP hD hS => ?_)
              obtain ⟨r106, hr106, hF⟩ := opb hF
              refine kSI (As := [.int x2, .int r96, .int r103]) (rest := []) (ws' := (wd_X5_layOut cI a_t a_row a_work a_rest a_bag a_smooth a_text a_saves a_bag_often a_row_signs a_work_signs c_gone c_bag_total c_bag_often c_row_length c_row_signs c_work_length c_work_signs)) ⟨hx, hb, hml, hown, hts⟩ (c_X5_part l D cI  H.size  x2 r96 r103 r106 hr106) (va_cwS 3 hts mw_X5_298 rfl rfl rfl hd_X5_part ⟨Nat.le_of_ble_eq_true rfl, Nat.le_of_ble_eq_true rfl⟩) hS hA hG hK hP hD [] rfl rfl rfl rfl rfl ⟨Nat.zero_le _, Nat.zero_le _⟩ rfl hl.1 rfl (Nat.le_of_ble_eq_true rfl) dX5_layOut_106 (fun H locs hP hD hS => ?_)
              refine lv_istore (lv' := [(6, .int r106), (5, .int (x5 + 1)), (3, .int (x3 - x6)), (0, .ref a_t), (2, .int x2), (4, .int x4)]) hx hb dX5_layOut_109 hl (by decide) rfl (fun ls hl => ?_)
              refine lv_goto (tgt := 69) hx hb dX5_layOut_111 (by decide) ?_
              exact ih69 c_bag_total c_bag_often c_work_length c_work_signs x2 (x3 - x6) x4 (x5 + 1) r106 H locs ls hP hD hS (lv_sub hl [3, 4, 2, 5, 1, 0] rfl) hF
      intro c_bag_total c_bag_often c_work_length c_work_signs x2 x3 x4 H locs ls hP hD hS hl hF
      rw [F_X5_layOut_L32] at hF
      refine lv_iload hx hb dX5_layOut_32 (lv_at hl 3 rfl) ?_
      refine lv_aload_n hx hb dX5_layOut_34 rfl (lv_at hl 0 rfl) ?_
      refine get_X5_10 hx hb hts hown hK hP 0 rfl rfl dX5_layOut_35 ?_
      obtain ⟨r38, hr38, hF⟩ := opb hF
      refine kVI (As := []) (rest := [.int x4]) (ws' := (wd_X5_layOut cI a_t a_row a_work a_rest a_bag a_smooth a_text a_saves a_bag_often a_row_signs a_work_signs c_gone c_bag_total c_bag_often c_row_length c_row_signs c_work_length c_work_signs)) ⟨hx, hb, hml, hown, hts⟩ (c_X1_length l D cI a_row a_row_signs H.size c_row_length  r38 hr38) (cwV 0 hts mw_X5_79 rfl rfl rfl hd_X1_length ⟨Nat.le_of_ble_eq_true rfl, Nat.le_of_ble_eq_true rfl⟩) hS hA hG hK hP hD [3] rfl rfl rfl rfl rfl ⟨Nat.zero_le _, Nat.zero_le _⟩ 1 3 rfl rfl rfl rfl hl.1 rfl (Nat.le_of_ble_eq_true rfl) dX5_layOut_38 (fun H locs hP hD hS => ?_)
      refine lv_icmp_ge (tgt := 141) hx hb dX5_layOut_41 (by decide) (fun k41 => ?_) (fun k41 => ?_)
      · replace hF := (if_pos k41).symm.trans hF
        have ho := Option.some.inj hF
        exact hret H locs ls 141 _ hP hS (by rw [← ho]) dX5_layOut_141
      · replace hF := (if_neg k41).symm.trans hF
        refine lv_iconst (v := 0) hx hb dX5_layOut_44 (by decide) ?_
        refine lv_istore (lv' := [(5, .int (0 : Int32)), (0, .ref a_t), (2, .int x2), (3, .int x3), (4, .int x4)]) hx hb dX5_layOut_45 hl (by decide) rfl (fun ls hl => ?_)
        refine lv_iload_n hx hb dX5_layOut_47 rfl (lv_at hl 2 rfl) ?_
        refine lv_aload_n hx hb dX5_layOut_48 rfl (lv_at hl 1 rfl) ?_
        refine get_X5_25 hx hb hts hown hK hP 0 rfl rfl dX5_layOut_49 ?_
        refine lv_iload hx hb dX5_layOut_52 (lv_at hl 0 rfl) ?_
        obtain ⟨r54, hr54, hF⟩ := opb hF
        refine kVI (As := [.int (0 : Int32)]) (rest := [.int x2]) (ws' := (wd_X5_layOut cI a_t a_row a_work a_rest a_bag a_smooth a_text a_saves a_bag_often a_row_signs a_work_signs c_gone c_bag_total c_bag_often c_row_length c_row_signs c_work_length c_work_signs)) ⟨hx, hb, hml, hown, hts⟩ (c_X0_of l D cI a_bag a_bag_often H.size c_bag_total c_bag_often (0 : Int32) r54 hr54) (cwV 1 hts mw_X5_178 rfl rfl rfl hd_X0_of ⟨Nat.le_of_ble_eq_true rfl, Nat.le_of_ble_eq_true rfl⟩) hS hA hG hK hP hD [1, 2] rfl rfl rfl rfl rfl ⟨Nat.zero_le _, Nat.zero_le _⟩ 0 1 rfl rfl rfl rfl hl.1 rfl (Nat.le_of_ble_eq_true rfl) dX5_layOut_54 (fun H locs hP hD hS => ?_)
        refine lv_aload_n hx hb dX5_layOut_57 rfl (lv_at hl 1 rfl) ?_
        refine get_X5_25 hx hb hts hown hK hP 0 rfl rfl dX5_layOut_58 ?_
        obtain ⟨r61, hr61, hF⟩ := opb hF
        refine kVI (As := []) (rest := [.int r54, .int x2]) (ws' := (wd_X5_layOut cI a_t a_row a_work a_rest a_bag a_smooth a_text a_saves a_bag_often a_row_signs a_work_signs c_gone c_bag_total c_bag_often c_row_length c_row_signs c_work_length c_work_signs)) ⟨hx, hb, hml, hown, hts⟩ (c_X0_total l D cI a_bag a_bag_often H.size c_bag_total  r61 hr61) (cwV 0 hts mw_X5_295 rfl rfl rfl hd_X0_total ⟨Nat.le_of_ble_eq_true rfl, Nat.le_of_ble_eq_true rfl⟩) hS hA hG hK hP hD [1] rfl rfl rfl rfl rfl ⟨Nat.zero_le _, Nat.zero_le _⟩ 0 1 rfl rfl rfl rfl hl.1 rfl (Nat.le_of_ble_eq_true rfl) dX5_layOut_61 (fun H locs hP hD hS => ?_)
        obtain ⟨r64, hr64, hF⟩ := opb hF
        refine kSI (As := [.int x2, .int r54, .int r61]) (rest := []) (ws' := (wd_X5_layOut cI a_t a_row a_work a_rest a_bag a_smooth a_text a_saves a_bag_often a_row_signs a_work_signs c_gone c_bag_total c_bag_often c_row_length c_row_signs c_work_length c_work_signs)) ⟨hx, hb, hml, hown, hts⟩ (c_X5_part l D cI  H.size  x2 r54 r61 r64 hr64) (va_cwS 3 hts mw_X5_298 rfl rfl rfl hd_X5_part ⟨Nat.le_of_ble_eq_true rfl, Nat.le_of_ble_eq_true rfl⟩) hS hA hG hK hP hD [] rfl rfl rfl rfl rfl ⟨Nat.zero_le _, Nat.zero_le _⟩ rfl hl.1 rfl (Nat.le_of_ble_eq_true rfl) dX5_layOut_64 (fun H locs hP hD hS => ?_)
        refine lv_istore (lv' := [(6, .int r64), (5, .int (0 : Int32)), (0, .ref a_t), (2, .int x2), (3, .int x3), (4, .int x4)]) hx hb dX5_layOut_67 hl (by decide) rfl (fun ls hl => ?_)
        exact K69 FU c_bag_total c_bag_often c_work_length c_work_signs x2 x3 x4 (0 : Int32) r64 H locs ls hP hD hS (lv_sub hl [2, 3, 4, 5, 1, 0] rfl) hF
  unfold F_X5_layOut at hF
  have hP : va_P D vwCl (wd_X5_layOut cI a_t a_row a_work a_rest a_bag a_smooth a_text a_saves a_bag_often a_row_signs a_work_signs c_gone c_bag_total c_bag_often c_row_length c_row_signs c_work_length c_work_signs) s.heap := hP
  obtain ⟨H, hH⟩ : ∃ H, H = s.heap := ⟨_, rfl⟩
  rw [← hH]
  rw [← hH] at hP
  obtain ⟨locs, hlo⟩ : ∃ z : List Loc, z = [] := ⟨_, rfl⟩
  rw [← hlo]
  have hS : va_S A s.heap H locs := by rw [hH, hlo]; exact hS
  refine lv_aload_n hx hb dX5_layOut_0 rfl (lv_at hl 0 rfl) ?_
  refine get_X5_16 hx hb hts hown hK hP 0 rfl rfl dX5_layOut_1 ?_
  obtain ⟨r4, hr4, hF⟩ := opb hF
  refine kVV (As := []) (rest := []) (ws' := (wd_X5_layOut cI a_t a_row a_work a_rest a_bag a_smooth a_text a_saves a_bag_often a_row_signs a_work_signs c_gone c_bag_total c_bag_often c_row_length c_row_signs r4 c_work_signs)) ⟨hx, hb, hml, hown, hts⟩ (c_X1_clear l D cI a_work a_work_signs H.size c_work_length  r4 hr4) (cwV 0 hts mw_X5_307 rfl rfl rfl hd_X1_clear ⟨Nat.le_of_ble_eq_true rfl, Nat.le_of_ble_eq_true rfl⟩) hS hA hG hK hP hD [5] rfl rfl rfl rfl rfl ⟨Nat.zero_le _, Nat.zero_le _⟩ 1 5 rfl rfl rfl rfl hl.1 rfl (Nat.le_of_ble_eq_true rfl) dX5_layOut_4 (fun H locs hP hD hS => ?_)
  refine lv_aload_n hx hb dX5_layOut_7 rfl (lv_at hl 0 rfl) ?_
  refine get_X5_25 hx hb hts hown hK hP 0 rfl rfl dX5_layOut_8 ?_
  refine lv_aload_n hx hb dX5_layOut_11 rfl (lv_at hl 0 rfl) ?_
  refine get_X5_10 hx hb hts hown hK hP 0 rfl rfl dX5_layOut_12 ?_
  refine lv_iconst (v := 0) hx hb dX5_layOut_15 (by decide) ?_
  obtain ⟨r16, hr16, hF⟩ := opb hF
  refine kVV (As := [.ref a_row, .int (0 : Int32)]) (rest := []) (ws' := (wd_X5_layOut cI a_t a_row a_work a_rest a_bag a_smooth a_text a_saves a_bag_often a_row_signs a_work_signs c_gone r16.1 r16.2 c_row_length c_row_signs r4 c_work_signs)) ⟨hx, hb, hml, hown, hts⟩ (c_X0_fill l D cI a_bag a_row a_bag_often a_row_signs H.size c_bag_total c_bag_often c_row_length c_row_signs (0 : Int32) r16 hr16) (cwV 2 hts mw_X5_171 rfl rfl rfl hd_X0_fill ⟨Nat.le_of_ble_eq_true rfl, Nat.le_of_ble_eq_true rfl⟩) hS hA hG hK hP hD [1, 2, 3, 4] rfl rfl rfl rfl rfl ⟨Nat.zero_le _, Nat.zero_le _⟩ 0 1 rfl rfl rfl rfl hl.1 rfl (Nat.le_of_ble_eq_true rfl) dX5_layOut_16 (fun H locs hP hD hS => ?_)
  refine lv_aload_n hx hb dX5_layOut_19 rfl (lv_at hl 0 rfl) ?_
  refine get_X5_25 hx hb hts hown hK hP 0 rfl rfl dX5_layOut_20 ?_
  obtain ⟨r23, hr23, hF⟩ := opb hF
  refine kVI (As := []) (rest := []) (ws' := (wd_X5_layOut cI a_t a_row a_work a_rest a_bag a_smooth a_text a_saves a_bag_often a_row_signs a_work_signs c_gone r16.1 r16.2 c_row_length c_row_signs r4 c_work_signs)) ⟨hx, hb, hml, hown, hts⟩ (c_X0_ways l D cI a_bag a_bag_often H.size r16.1 r16.2  r23 hr23) (cwV 0 hts mw_X5_289 rfl rfl rfl hd_X0_ways ⟨Nat.le_of_ble_eq_true rfl, Nat.le_of_ble_eq_true rfl⟩) hS hA hG hK hP hD [1, 2] rfl rfl rfl rfl rfl ⟨Nat.zero_le _, Nat.zero_le _⟩ 0 1 rfl rfl rfl rfl hl.1 rfl (Nat.le_of_ble_eq_true rfl) dX5_layOut_23 (fun H locs hP hD hS => ?_)
  refine lv_istore_n (lv' := [(2, .int r23), (0, .ref a_t), (1, .int x1)]) hx hb dX5_layOut_26 rfl hl (by decide) rfl (fun ls hl => ?_)
  refine lv_iload_n hx hb dX5_layOut_27 rfl (lv_at hl 2 rfl) ?_
  refine lv_istore_n (lv' := [(3, .int x1), (2, .int r23), (0, .ref a_t), (1, .int x1)]) hx hb dX5_layOut_28 rfl hl (by decide) rfl (fun ls hl => ?_)
  refine lv_iconst (v := 0) hx hb dX5_layOut_29 (by decide) ?_
  refine lv_istore (lv' := [(4, .int (0 : Int32)), (3, .int x1), (2, .int r23), (0, .ref a_t), (1, .int x1)]) hx hb dX5_layOut_30 hl (by decide) rfl (fun ls hl => ?_)
  exact K32 FU r16.1 r16.2 r4 c_work_signs r23 x1 (0 : Int32) H locs ls hP hD hS (lv_sub hl [3, 2, 1, 0] rfl) hF
abbrev wd_X5_save (cI : ClassId) (a_t a_row a_work a_rest a_bag a_smooth a_text a_saves a_row_signs a_saves_slots : Nat) (c_gone : Int32) (c_row_length : Int32) (c_row_signs : Nat → Int32) (c_saves_held : Int32) (c_saves_slots : Nat → Int32) : va_W := [(a_t, .inr (5, [.ref a_row, .ref a_work, .ref a_rest, .ref a_bag, .ref a_smooth, .ref a_text, .ref a_saves, .int c_gone])), (a_row, .inr (1, [.ref a_row_signs, .int c_row_length])), (a_row_signs, .inl (cI, 11, .inl c_row_signs)), (a_saves, .inr (2, [.ref a_saves_slots, .int c_saves_held])), (a_saves_slots, .inl (cI, 78, .inl c_saves_slots))]
def rm_X5_save : Room := { frames := 3, cells := 0, slots := 0, locals := 67 }
set_option maxHeartbeats 4000000 in
set_option maxRecDepth 100000 in
theorem c_X5_save (l : Launch) (D : va_G) (cI : ClassId) (a_t a_row a_work a_rest a_bag a_smooth a_text a_saves a_row_signs a_saves_slots : Nat) (sz : Nat) (c_gone : Int32) (c_row_length : Int32) (c_row_signs : Nat → Int32) (c_saves_held : Int32) (c_saves_slots : Nat → Int32) (o : Int32 × (Nat → Int32)) (hF : F_X5_save c_gone c_row_length c_row_signs c_saves_held c_saves_slots = some o) : Met l yX5_save (Cond.code yX5_save cX5_save 1 none :: WL) rm_X5_save (preM D [(cI, .int)] (wd_X5_save cI a_t a_row a_work a_rest a_bag a_smooth a_text a_saves a_row_signs a_saves_slots c_gone c_row_length c_row_signs c_saves_held c_saves_slots) sz [.ref a_t]) (postV D (wd_X5_save cI a_t a_row a_work a_rest a_bag a_smooth a_text a_saves a_row_signs a_saves_slots c_gone c_row_length c_row_signs o.1 o.2) (wd_X5_save cI a_t a_row a_work a_rest a_bag a_smooth a_text a_saves a_row_signs a_saves_slots c_gone c_row_length c_row_signs c_saves_held c_saves_slots) sz) 0 0 (va_A (wd_X5_save cI a_t a_row a_work a_rest a_bag a_smooth a_text a_saves a_row_signs a_saves_slots c_gone c_row_length c_row_signs c_saves_held c_saves_slots) sz) := by
  refine mofV (by decide +kernel) (Nat.le_of_ble_eq_true rfl) ?_
  intro p e s m args below meth c Q A ls hx hb hml hown hts hK hP hD hS hA hG hl hret hsz0
  have hl : lv_has ls 1 [(0, .ref a_t)] := hl
  unfold F_X5_save at hF
  have hP : va_P D vwCl (wd_X5_save cI a_t a_row a_work a_rest a_bag a_smooth a_text a_saves a_row_signs a_saves_slots c_gone c_row_length c_row_signs c_saves_held c_saves_slots) s.heap := hP
  obtain ⟨H, hH⟩ : ∃ H, H = s.heap := ⟨_, rfl⟩
  rw [← hH]
  rw [← hH] at hP
  obtain ⟨locs, hlo⟩ : ∃ z : List Loc, z = [] := ⟨_, rfl⟩
  rw [← hlo]
  have hS : va_S A s.heap H locs := by rw [hH, hlo]; exact hS
  refine lv_aload_n hx hb dX5_save_0 rfl (lv_at hl 0 rfl) ?_
  refine get_X5_46 hx hb hts hown hK hP 0 rfl rfl dX5_save_1 ?_
  refine lv_aload_n hx hb dX5_save_4 rfl (lv_at hl 0 rfl) ?_
  refine get_X5_10 hx hb hts hown hK hP 0 rfl rfl dX5_save_5 ?_
  refine lv_aload_n hx hb dX5_save_8 rfl (lv_at hl 0 rfl) ?_
  refine get_X5_167 hx hb hts hown hK hP 0 rfl rfl dX5_save_9 ?_
  obtain ⟨r12, hr12, hF⟩ := opb hF
  refine kVV (As := [.ref a_row, .int c_gone]) (rest := []) (ws' := (wd_X5_save cI a_t a_row a_work a_rest a_bag a_smooth a_text a_saves a_row_signs a_saves_slots c_gone c_row_length c_row_signs r12.1 r12.2)) ⟨hx, hb, hml, hown, hts⟩ (c_X2_keep l D cI a_saves a_row a_saves_slots a_row_signs H.size c_saves_held c_saves_slots c_row_length c_row_signs c_gone r12 hr12) (cwV 2 hts mw_X5_280 rfl rfl rfl hd_X2_keep ⟨Nat.le_of_ble_eq_true rfl, Nat.le_of_ble_eq_true rfl⟩) hS hA hG hK hP hD [3, 4, 1, 2] rfl rfl rfl rfl rfl ⟨Nat.zero_le _, Nat.zero_le _⟩ 2 3 rfl rfl rfl rfl hl.1 rfl (Nat.le_of_ble_eq_true rfl) dX5_save_12 (fun H locs hP hD hS => ?_)
  have ho := Option.some.inj hF
  exact hret H locs ls 15 _ hP hS (by rw [← ho]) dX5_save_15
abbrev wd_X5_arrive (cI : ClassId) (a_t a_row a_work a_rest a_bag a_smooth a_text a_saves a_bag_often a_row_signs a_saves_slots a_work_signs : Nat) (c_gone : Int32) (c_bag_total : Int32) (c_bag_often : Nat → Int32) (c_row_length : Int32) (c_row_signs : Nat → Int32) (c_saves_held : Int32) (c_saves_slots : Nat → Int32) (c_work_length : Int32) (c_work_signs : Nat → Int32) : va_W := [(a_t, .inr (5, [.ref a_row, .ref a_work, .ref a_rest, .ref a_bag, .ref a_smooth, .ref a_text, .ref a_saves, .int c_gone])), (a_bag, .inr (0, [.ref a_bag_often, .int c_bag_total])), (a_bag_often, .inl (cI, 6, .inl c_bag_often)), (a_row, .inr (1, [.ref a_row_signs, .int c_row_length])), (a_row_signs, .inl (cI, 11, .inl c_row_signs)), (a_saves, .inr (2, [.ref a_saves_slots, .int c_saves_held])), (a_saves_slots, .inl (cI, 78, .inl c_saves_slots)), (a_work, .inr (1, [.ref a_work_signs, .int c_work_length])), (a_work_signs, .inl (cI, 11, .inl c_work_signs))]
def rm_X5_arrive : Room := { frames := 4, cells := 0, slots := 0, locals := 91 }
set_option maxHeartbeats 4000000 in
set_option maxRecDepth 100000 in
theorem c_X5_arrive (l : Launch) (D : va_G) (cI : ClassId) (a_t a_row a_work a_rest a_bag a_smooth a_text a_saves a_bag_often a_row_signs a_saves_slots a_work_signs : Nat) (sz : Nat) (c_gone : Int32) (c_bag_total : Int32) (c_bag_often : Nat → Int32) (c_row_length : Int32) (c_row_signs : Nat → Int32) (c_saves_held : Int32) (c_saves_slots : Nat → Int32) (c_work_length : Int32) (c_work_signs : Nat → Int32) (o : Int32 × Int32 × Int32 × (Nat → Int32) × Int32 × (Nat → Int32) × Int32 × (Nat → Int32)) (hF : F_X5_arrive c_gone c_bag_total c_bag_often c_row_length c_row_signs c_saves_held c_saves_slots c_work_length c_work_signs = some o) : Met l yX5_arrive (Cond.code yX5_arrive cX5_arrive 1 (some .int) :: WL) rm_X5_arrive (preM D [(cI, .int)] (wd_X5_arrive cI a_t a_row a_work a_rest a_bag a_smooth a_text a_saves a_bag_often a_row_signs a_saves_slots a_work_signs c_gone c_bag_total c_bag_often c_row_length c_row_signs c_saves_held c_saves_slots c_work_length c_work_signs) sz [.ref a_t]) (postI D o.1 (wd_X5_arrive cI a_t a_row a_work a_rest a_bag a_smooth a_text a_saves a_bag_often a_row_signs a_saves_slots a_work_signs o.2.1 o.2.2.1 o.2.2.2.1 o.2.2.2.2.1 o.2.2.2.2.2.1 o.2.2.2.2.2.2.1 o.2.2.2.2.2.2.2 c_work_length c_work_signs) (wd_X5_arrive cI a_t a_row a_work a_rest a_bag a_smooth a_text a_saves a_bag_often a_row_signs a_saves_slots a_work_signs c_gone c_bag_total c_bag_often c_row_length c_row_signs c_saves_held c_saves_slots c_work_length c_work_signs) sz) 0 0 (va_A (wd_X5_arrive cI a_t a_row a_work a_rest a_bag a_smooth a_text a_saves a_bag_often a_row_signs a_saves_slots a_work_signs c_gone c_bag_total c_bag_often c_row_length c_row_signs c_saves_held c_saves_slots c_work_length c_work_signs) sz) := by
  refine mofI (by decide +kernel) (Nat.le_of_ble_eq_true rfl) ?_
  intro p e s m args below meth c Q A ls hx hb hml hown hts hK hP hD hS hA hG hl hret hsz0
  have hl : lv_has ls 1 [(0, .ref a_t)] := hl
  unfold F_X5_arrive at hF
  have hP : va_P D vwCl (wd_X5_arrive cI a_t a_row a_work a_rest a_bag a_smooth a_text a_saves a_bag_often a_row_signs a_saves_slots a_work_signs c_gone c_bag_total c_bag_often c_row_length c_row_signs c_saves_held c_saves_slots c_work_length c_work_signs) s.heap := hP
  obtain ⟨H, hH⟩ : ∃ H, H = s.heap := ⟨_, rfl⟩
  rw [← hH]
  rw [← hH] at hP
  obtain ⟨locs, hlo⟩ : ∃ z : List Loc, z = [] := ⟨_, rfl⟩
  rw [← hlo]
  have hS : va_S A s.heap H locs := by rw [hH, hlo]; exact hS
  refine lv_aload_n hx hb dX5_arrive_0 rfl (lv_at hl 0 rfl) ?_
  obtain ⟨r1, hr1, hF⟩ := opb hF
  refine kVV (As := []) (rest := []) (ws' := (wd_X5_arrive cI a_t a_row a_work a_rest a_bag a_smooth a_text a_saves a_bag_often a_row_signs a_saves_slots a_work_signs c_gone c_bag_total c_bag_often c_row_length c_row_signs r1.1 r1.2 c_work_length c_work_signs)) ⟨hx, hb, hml, hown, hts⟩ (c_X5_save l D cI a_t a_row a_work a_rest a_bag a_smooth a_text a_saves a_row_signs a_saves_slots H.size c_gone c_row_length c_row_signs c_saves_held c_saves_slots  r1 hr1) (cwV 0 hts mw_X5_105 rfl rfl rfl hd_X5_save ⟨Nat.le_of_ble_eq_true rfl, Nat.le_of_ble_eq_true rfl⟩) hS hA hG hK hP hD [0, 3, 4, 5, 6] rfl rfl rfl rfl rfl ⟨Nat.zero_le _, Nat.zero_le _⟩ 5 0 rfl rfl rfl rfl hl.1 rfl (Nat.le_of_ble_eq_true rfl) dX5_arrive_1 (fun H locs hP hD hS => ?_)
  refine lv_aload_n hx hb dX5_arrive_4 rfl (lv_at hl 0 rfl) ?_
  refine get_X5_10 hx hb hts hown hK hP 0 rfl rfl dX5_arrive_5 ?_
  refine lv_aload_n hx hb dX5_arrive_8 rfl (lv_at hl 0 rfl) ?_
  refine get_X5_16 hx hb hts hown hK hP 0 rfl rfl dX5_arrive_9 ?_
  obtain ⟨r12, hr12, hF⟩ := opb hF
  refine kVV (As := [.ref a_work]) (rest := []) (ws' := (wd_X5_arrive cI a_t a_row a_work a_rest a_bag a_smooth a_text a_saves a_bag_often a_row_signs a_saves_slots a_work_signs c_gone c_bag_total c_bag_often r12.1 r12.2 r1.1 r1.2 c_work_length c_work_signs)) ⟨hx, hb, hml, hown, hts⟩ (c_X1_become l D cI a_row a_work a_row_signs a_work_signs H.size c_row_length c_row_signs c_work_length c_work_signs  r12 hr12) (cwV 1 hts mw_X5_220 rfl rfl rfl hd_X1_become ⟨Nat.le_of_ble_eq_true rfl, Nat.le_of_ble_eq_true rfl⟩) hS hA hG hK hP hD [3, 4, 7, 8] rfl rfl rfl rfl rfl ⟨Nat.zero_le _, Nat.zero_le _⟩ 1 3 rfl rfl rfl rfl hl.1 rfl (Nat.le_of_ble_eq_true rfl) dX5_arrive_12 (fun H locs hP hD hS => ?_)
  refine lv_aload_n hx hb dX5_arrive_15 rfl (lv_at hl 0 rfl) ?_
  refine lv_dup hx hb dX5_arrive_16 rfl ?_
  refine get_X5_167 hx hb hts hown hK hP 0 rfl rfl dX5_arrive_17 ?_
  refine lv_iconst (v := 1) hx hb dX5_arrive_20 (by decide) ?_
  refine lv_iadd hx hb dX5_arrive_21 ?_
  refine put_X5_167 hx hb hts hown hK hP hD hS 0 rfl rfl rfl (Nat.le_of_ble_eq_true rfl) dX5_arrive_22 (fun H locs hP hD hS => ?_)
  have hP : va_P D vwCl (wd_X5_arrive cI a_t a_row a_work a_rest a_bag a_smooth a_text a_saves a_bag_often a_row_signs a_saves_slots a_work_signs (c_gone + (1 : Int32)) c_bag_total c_bag_often r12.1 r12.2 r1.1 r1.2 c_work_length c_work_signs) H := hP
  have hD : va_D A (wd_X5_arrive cI a_t a_row a_work a_rest a_bag a_smooth a_text a_saves a_bag_often a_row_signs a_saves_slots a_work_signs (c_gone + (1 : Int32)) c_bag_total c_bag_often r12.1 r12.2 r1.1 r1.2 c_work_length c_work_signs) := hD
  refine lv_aload_n hx hb dX5_arrive_25 rfl (lv_at hl 0 rfl) ?_
  refine lv_aload_n hx hb dX5_arrive_26 rfl (lv_at hl 0 rfl) ?_
  refine get_X5_10 hx hb hts hown hK hP 0 rfl rfl dX5_arrive_27 ?_
  obtain ⟨r30, hr30, hF⟩ := opb hF
  refine kVI (As := [.ref a_row]) (rest := []) (ws' := (wd_X5_arrive cI a_t a_row a_work a_rest a_bag a_smooth a_text a_saves a_bag_often a_row_signs a_saves_slots a_work_signs (c_gone + (1 : Int32)) r30.2.1 r30.2.2 r12.1 r12.2 r1.1 r1.2 c_work_length c_work_signs)) ⟨hx, hb, hml, hown, hts⟩ (c_X5_rankOf l D cI a_t a_row a_row a_work a_rest a_bag a_smooth a_text a_saves a_bag_often a_row_signs H.size (c_gone + (1 : Int32)) c_bag_total c_bag_often r12.1 r12.2  r30 hr30) (cwV 1 hts mw_X5_57 rfl rfl rfl hd_X5_rankOf ⟨Nat.le_of_ble_eq_true rfl, Nat.le_of_ble_eq_true rfl⟩) hS hA hG hK hP hD [0, 1, 2, 3, 4] rfl rfl rfl rfl rfl ⟨Nat.zero_le _, Nat.zero_le _⟩ 5 0 rfl rfl rfl rfl hl.1 rfl (Nat.le_of_ble_eq_true rfl) dX5_arrive_30 (fun H locs hP hD hS => ?_)
  have ho := Option.some.inj hF
  exact hret H locs ls 33 r30.1 _ hP hS (by rw [← ho]) (by rw [← ho]) dX5_arrive_33
abbrev wd_X5_goToRank (cI : ClassId) (a_t a_row a_work a_rest a_bag a_smooth a_text a_saves a_bag_often a_row_signs a_saves_slots a_work_signs : Nat) (c_gone : Int32) (c_bag_total : Int32) (c_bag_often : Nat → Int32) (c_row_length : Int32) (c_row_signs : Nat → Int32) (c_saves_held : Int32) (c_saves_slots : Nat → Int32) (c_work_length : Int32) (c_work_signs : Nat → Int32) : va_W := [(a_t, .inr (5, [.ref a_row, .ref a_work, .ref a_rest, .ref a_bag, .ref a_smooth, .ref a_text, .ref a_saves, .int c_gone])), (a_bag, .inr (0, [.ref a_bag_often, .int c_bag_total])), (a_bag_often, .inl (cI, 6, .inl c_bag_often)), (a_row, .inr (1, [.ref a_row_signs, .int c_row_length])), (a_row_signs, .inl (cI, 11, .inl c_row_signs)), (a_saves, .inr (2, [.ref a_saves_slots, .int c_saves_held])), (a_saves_slots, .inl (cI, 78, .inl c_saves_slots)), (a_work, .inr (1, [.ref a_work_signs, .int c_work_length])), (a_work_signs, .inl (cI, 11, .inl c_work_signs))]
def rm_X5_goToRank : Room := { frames := 5, cells := 0, slots := 0, locals := 111 }
set_option maxHeartbeats 4000000 in
set_option maxRecDepth 100000 in
theorem c_X5_goToRank (l : Launch) (D : va_G) (cI : ClassId) (a_t a_row a_work a_rest a_bag a_smooth a_text a_saves a_bag_often a_row_signs a_saves_slots a_work_signs : Nat) (sz : Nat) (c_gone : Int32) (c_bag_total : Int32) (c_bag_often : Nat → Int32) (c_row_length : Int32) (c_row_signs : Nat → Int32) (c_saves_held : Int32) (c_saves_slots : Nat → Int32) (c_work_length : Int32) (c_work_signs : Nat → Int32) (x1 : Int32) (o : Int32 × Int32 × Int32 × (Nat → Int32) × Int32 × (Nat → Int32) × Int32 × (Nat → Int32) × Int32 × (Nat → Int32)) (hF : F_X5_goToRank c_gone c_bag_total c_bag_often c_row_length c_row_signs c_saves_held c_saves_slots c_work_length c_work_signs x1 = some o) : Met l yX5_goToRank (Cond.code yX5_goToRank cX5_goToRank 3 (some .int) :: WL) rm_X5_goToRank (preM D [(cI, .int)] (wd_X5_goToRank cI a_t a_row a_work a_rest a_bag a_smooth a_text a_saves a_bag_often a_row_signs a_saves_slots a_work_signs c_gone c_bag_total c_bag_often c_row_length c_row_signs c_saves_held c_saves_slots c_work_length c_work_signs) sz [.ref a_t, .int x1]) (postI D o.1 (wd_X5_goToRank cI a_t a_row a_work a_rest a_bag a_smooth a_text a_saves a_bag_often a_row_signs a_saves_slots a_work_signs o.2.1 o.2.2.1 o.2.2.2.1 o.2.2.2.2.1 o.2.2.2.2.2.1 o.2.2.2.2.2.2.1 o.2.2.2.2.2.2.2.1 o.2.2.2.2.2.2.2.2.1 o.2.2.2.2.2.2.2.2.2) (wd_X5_goToRank cI a_t a_row a_work a_rest a_bag a_smooth a_text a_saves a_bag_often a_row_signs a_saves_slots a_work_signs c_gone c_bag_total c_bag_often c_row_length c_row_signs c_saves_held c_saves_slots c_work_length c_work_signs) sz) 0 0 (va_A (wd_X5_goToRank cI a_t a_row a_work a_rest a_bag a_smooth a_text a_saves a_bag_often a_row_signs a_saves_slots a_work_signs c_gone c_bag_total c_bag_often c_row_length c_row_signs c_saves_held c_saves_slots c_work_length c_work_signs) sz) := by
  refine mofI (by decide +kernel) (Nat.le_of_ble_eq_true rfl) ?_
  intro p e s m args below meth c Q A ls hx hb hml hown hts hK hP hD hS hA hG hl hret hsz0
  have hl : lv_has ls 3 [(0, .ref a_t), (1, .int x1)] := hl
  unfold F_X5_goToRank at hF
  have hP : va_P D vwCl (wd_X5_goToRank cI a_t a_row a_work a_rest a_bag a_smooth a_text a_saves a_bag_often a_row_signs a_saves_slots a_work_signs c_gone c_bag_total c_bag_often c_row_length c_row_signs c_saves_held c_saves_slots c_work_length c_work_signs) s.heap := hP
  obtain ⟨H, hH⟩ : ∃ H, H = s.heap := ⟨_, rfl⟩
  rw [← hH]
  rw [← hH] at hP
  obtain ⟨locs, hlo⟩ : ∃ z : List Loc, z = [] := ⟨_, rfl⟩
  rw [← hlo]
  have hS : va_S A s.heap H locs := by rw [hH, hlo]; exact hS
  refine lv_aload_n hx hb dX5_goToRank_0 rfl (lv_at hl 0 rfl) ?_
  refine lv_iload_n hx hb dX5_goToRank_1 rfl (lv_at hl 1 rfl) ?_
  obtain ⟨r2, hr2, hF⟩ := opb hF
  refine kVV (As := [.int x1]) (rest := []) (ws' := (wd_X5_goToRank cI a_t a_row a_work a_rest a_bag a_smooth a_text a_saves a_bag_often a_row_signs a_saves_slots a_work_signs c_gone r2.1 r2.2.1 c_row_length c_row_signs c_saves_held c_saves_slots r2.2.2.1 r2.2.2.2)) ⟨hx, hb, hml, hown, hts⟩ (c_X5_layOut l D cI a_t a_row a_work a_rest a_bag a_smooth a_text a_saves a_bag_often a_row_signs a_work_signs H.size c_gone c_bag_total c_bag_often c_row_length c_row_signs c_work_length c_work_signs x1 r2 hr2) (cwV 1 hts mw_X5_213 rfl rfl rfl hd_X5_layOut ⟨Nat.le_of_ble_eq_true rfl, Nat.le_of_ble_eq_true rfl⟩) hS hA hG hK hP hD [0, 1, 2, 3, 4, 7, 8] rfl rfl rfl rfl rfl ⟨Nat.zero_le _, Nat.zero_le _⟩ 5 0 rfl rfl rfl rfl hl.1 rfl (Nat.le_of_ble_eq_true rfl) dX5_goToRank_2 (fun H locs hP hD hS => ?_)
  refine lv_aload_n hx hb dX5_goToRank_5 rfl (lv_at hl 0 rfl) ?_
  refine get_X5_10 hx hb hts hown hK hP 0 rfl rfl dX5_goToRank_6 ?_
  refine lv_aload_n hx hb dX5_goToRank_9 rfl (lv_at hl 0 rfl) ?_
  refine get_X5_16 hx hb hts hown hK hP 0 rfl rfl dX5_goToRank_10 ?_
  obtain ⟨r13, hr13, hF⟩ := opb hF
  refine kVI (As := [.ref a_work]) (rest := []) (ws' := (wd_X5_goToRank cI a_t a_row a_work a_rest a_bag a_smooth a_text a_saves a_bag_often a_row_signs a_saves_slots a_work_signs c_gone r2.1 r2.2.1 c_row_length c_row_signs c_saves_held c_saves_slots r2.2.2.1 r2.2.2.2)) ⟨hx, hb, hml, hown, hts⟩ (c_X1_placesUnlike l D cI a_row a_work a_row_signs a_work_signs H.size c_row_length c_row_signs r2.2.2.1 r2.2.2.2  r13 hr13) (cwV 1 hts mw_X5_283 rfl rfl rfl hd_X1_placesUnlike ⟨Nat.le_of_ble_eq_true rfl, Nat.le_of_ble_eq_true rfl⟩) hS hA hG hK hP hD [3, 4, 7, 8] rfl rfl rfl rfl rfl ⟨Nat.zero_le _, Nat.zero_le _⟩ 1 3 rfl rfl rfl rfl hl.1 rfl (Nat.le_of_ble_eq_true rfl) dX5_goToRank_13 (fun H locs hP hD hS => ?_)
  refine lv_istore_n (lv' := [(2, .int r13), (0, .ref a_t), (1, .int x1)]) hx hb dX5_goToRank_16 rfl hl (by decide) rfl (fun ls hl => ?_)
  refine lv_aload_n hx hb dX5_goToRank_17 rfl (lv_at hl 1 rfl) ?_
  obtain ⟨r18, hr18, hF⟩ := opb hF
  refine kVI (As := []) (rest := []) (ws' := (wd_X5_goToRank cI a_t a_row a_work a_rest a_bag a_smooth a_text a_saves a_bag_often a_row_signs a_saves_slots a_work_signs r18.2.1 r18.2.2.1 r18.2.2.2.1 r18.2.2.2.2.1 r18.2.2.2.2.2.1 r18.2.2.2.2.2.2.1 r18.2.2.2.2.2.2.2 r2.2.2.1 r2.2.2.2)) ⟨hx, hb, hml, hown, hts⟩ (c_X5_arrive l D cI a_t a_row a_work a_rest a_bag a_smooth a_text a_saves a_bag_often a_row_signs a_saves_slots a_work_signs H.size c_gone r2.1 r2.2.1 c_row_length c_row_signs c_saves_held c_saves_slots r2.2.2.1 r2.2.2.2  r18 hr18) (cwV 0 hts mw_X5_94 rfl rfl rfl hd_X5_arrive ⟨Nat.le_of_ble_eq_true rfl, Nat.le_of_ble_eq_true rfl⟩) hS hA hG hK hP hD [0, 1, 2, 3, 4, 5, 6, 7, 8] rfl rfl rfl rfl rfl ⟨Nat.zero_le _, Nat.zero_le _⟩ 5 0 rfl rfl rfl rfl hl.1 rfl (Nat.le_of_ble_eq_true rfl) dX5_goToRank_18 (fun H locs hP hD hS => ?_)
  refine lv_pop hx hb dX5_goToRank_21 rfl ?_
  refine lv_iload_n hx hb dX5_goToRank_22 rfl (lv_at hl 0 rfl) ?_
  have ho := Option.some.inj hF
  exact hret H locs ls 23 r13 _ hP hS (by rw [← ho]) (by rw [← ho]) dX5_goToRank_23
abbrev wd_X5_goTo (cI : ClassId) (a_t a_row a_work a_rest a_bag a_smooth a_text a_saves a_bag_often a_row_signs a_saves_slots a_work_signs : Nat) (c_gone : Int32) (c_bag_total : Int32) (c_bag_often : Nat → Int32) (c_row_length : Int32) (c_row_signs : Nat → Int32) (c_saves_held : Int32) (c_saves_slots : Nat → Int32) (c_work_length : Int32) (c_work_signs : Nat → Int32) : va_W := [(a_t, .inr (5, [.ref a_row, .ref a_work, .ref a_rest, .ref a_bag, .ref a_smooth, .ref a_text, .ref a_saves, .int c_gone])), (a_bag, .inr (0, [.ref a_bag_often, .int c_bag_total])), (a_bag_often, .inl (cI, 6, .inl c_bag_often)), (a_row, .inr (1, [.ref a_row_signs, .int c_row_length])), (a_row_signs, .inl (cI, 11, .inl c_row_signs)), (a_saves, .inr (2, [.ref a_saves_slots, .int c_saves_held])), (a_saves_slots, .inl (cI, 78, .inl c_saves_slots)), (a_work, .inr (1, [.ref a_work_signs, .int c_work_length])), (a_work_signs, .inl (cI, 11, .inl c_work_signs))]
def rm_X5_goTo : Room := { frames := 6, cells := 0, slots := 0, locals := 133 }
set_option maxHeartbeats 4000000 in
set_option maxRecDepth 100000 in
theorem c_X5_goTo (l : Launch) (D : va_G) (cI : ClassId) (a_t a_row a_work a_rest a_bag a_smooth a_text a_saves a_bag_often a_row_signs a_saves_slots a_work_signs : Nat) (sz : Nat) (c_gone : Int32) (c_bag_total : Int32) (c_bag_often : Nat → Int32) (c_row_length : Int32) (c_row_signs : Nat → Int32) (c_saves_held : Int32) (c_saves_slots : Nat → Int32) (c_work_length : Int32) (c_work_signs : Nat → Int32) (x1 : Int32) (o : Int32 × Int32 × Int32 × (Nat → Int32) × Int32 × (Nat → Int32) × Int32 × (Nat → Int32) × Int32 × (Nat → Int32)) (hF : F_X5_goTo c_gone c_bag_total c_bag_often c_row_length c_row_signs c_saves_held c_saves_slots c_work_length c_work_signs x1 = some o) : Met l yX5_goTo (Cond.code yX5_goTo cX5_goTo 3 (some .int) :: WL) rm_X5_goTo (preM D [(cI, .int)] (wd_X5_goTo cI a_t a_row a_work a_rest a_bag a_smooth a_text a_saves a_bag_often a_row_signs a_saves_slots a_work_signs c_gone c_bag_total c_bag_often c_row_length c_row_signs c_saves_held c_saves_slots c_work_length c_work_signs) sz [.ref a_t, .int x1]) (postI D o.1 (wd_X5_goTo cI a_t a_row a_work a_rest a_bag a_smooth a_text a_saves a_bag_often a_row_signs a_saves_slots a_work_signs o.2.1 o.2.2.1 o.2.2.2.1 o.2.2.2.2.1 o.2.2.2.2.2.1 o.2.2.2.2.2.2.1 o.2.2.2.2.2.2.2.1 o.2.2.2.2.2.2.2.2.1 o.2.2.2.2.2.2.2.2.2) (wd_X5_goTo cI a_t a_row a_work a_rest a_bag a_smooth a_text a_saves a_bag_often a_row_signs a_saves_slots a_work_signs c_gone c_bag_total c_bag_often c_row_length c_row_signs c_saves_held c_saves_slots c_work_length c_work_signs) sz) 0 0 (va_A (wd_X5_goTo cI a_t a_row a_work a_rest a_bag a_smooth a_text a_saves a_bag_often a_row_signs a_saves_slots a_work_signs c_gone c_bag_total c_bag_often c_row_length c_row_signs c_saves_held c_saves_slots c_work_length c_work_signs) sz) := by
  refine mofI (by decide +kernel) (Nat.le_of_ble_eq_true rfl) ?_
  intro p e s m args below meth c Q A ls hx hb hml hown hts hK hP hD hS hA hG hl hret hsz0
  have hl : lv_has ls 3 [(0, .ref a_t), (1, .int x1)] := hl
  unfold F_X5_goTo at hF
  have hP : va_P D vwCl (wd_X5_goTo cI a_t a_row a_work a_rest a_bag a_smooth a_text a_saves a_bag_often a_row_signs a_saves_slots a_work_signs c_gone c_bag_total c_bag_often c_row_length c_row_signs c_saves_held c_saves_slots c_work_length c_work_signs) s.heap := hP
  obtain ⟨H, hH⟩ : ∃ H, H = s.heap := ⟨_, rfl⟩
  rw [← hH]
  rw [← hH] at hP
  obtain ⟨locs, hlo⟩ : ∃ z : List Loc, z = [] := ⟨_, rfl⟩
  rw [← hlo]
  have hS : va_S A s.heap H locs := by rw [hH, hlo]; exact hS
  refine lv_aload_n hx hb dX5_goTo_0 rfl (lv_at hl 0 rfl) ?_
  refine lv_iload_n hx hb dX5_goTo_1 rfl (lv_at hl 1 rfl) ?_
  obtain ⟨r2, hr2, hF⟩ := opb hF
  refine kVV (As := [.int x1]) (rest := []) (ws' := (wd_X5_goTo cI a_t a_row a_work a_rest a_bag a_smooth a_text a_saves a_bag_often a_row_signs a_saves_slots a_work_signs c_gone r2.1 r2.2 c_row_length c_row_signs c_saves_held c_saves_slots c_work_length c_work_signs)) ⟨hx, hb, hml, hown, hts⟩ (c_X5_needRank l D cI a_t a_row a_work a_rest a_bag a_smooth a_text a_saves a_bag_often a_row_signs H.size c_gone c_bag_total c_bag_often c_row_length c_row_signs x1 r2 hr2) (cwV 1 hts mw_X5_54 rfl rfl rfl hd_X5_needRank ⟨Nat.le_of_ble_eq_true rfl, Nat.le_of_ble_eq_true rfl⟩) hS hA hG hK hP hD [0, 1, 2, 3, 4] rfl rfl rfl rfl rfl ⟨Nat.zero_le _, Nat.zero_le _⟩ 5 0 rfl rfl rfl rfl hl.1 rfl (Nat.le_of_ble_eq_true rfl) dX5_goTo_2 (fun H locs hP hD hS => ?_)
  refine lv_aload_n hx hb dX5_goTo_5 rfl (lv_at hl 0 rfl) ?_
  refine lv_aload_n hx hb dX5_goTo_6 rfl (lv_at hl 0 rfl) ?_
  refine get_X5_10 hx hb hts hown hK hP 0 rfl rfl dX5_goTo_7 ?_
  obtain ⟨r10, hr10, hF⟩ := opb hF
  refine kVI (As := [.ref a_row]) (rest := []) (ws' := (wd_X5_goTo cI a_t a_row a_work a_rest a_bag a_smooth a_text a_saves a_bag_often a_row_signs a_saves_slots a_work_signs c_gone r10.2.1 r10.2.2 c_row_length c_row_signs c_saves_held c_saves_slots c_work_length c_work_signs)) ⟨hx, hb, hml, hown, hts⟩ (c_X5_rankOf l D cI a_t a_row a_row a_work a_rest a_bag a_smooth a_text a_saves a_bag_often a_row_signs H.size c_gone r2.1 r2.2 c_row_length c_row_signs  r10 hr10) (cwV 1 hts mw_X5_57 rfl rfl rfl hd_X5_rankOf ⟨Nat.le_of_ble_eq_true rfl, Nat.le_of_ble_eq_true rfl⟩) hS hA hG hK hP hD [0, 1, 2, 3, 4] rfl rfl rfl rfl rfl ⟨Nat.zero_le _, Nat.zero_le _⟩ 5 0 rfl rfl rfl rfl hl.1 rfl (Nat.le_of_ble_eq_true rfl) dX5_goTo_10 (fun H locs hP hD hS => ?_)
  refine lv_istore_n (lv' := [(2, .int r10.1), (0, .ref a_t), (1, .int x1)]) hx hb dX5_goTo_13 rfl hl (by decide) rfl (fun ls hl => ?_)
  refine lv_aload_n hx hb dX5_goTo_14 rfl (lv_at hl 1 rfl) ?_
  refine lv_iload_n hx hb dX5_goTo_15 rfl (lv_at hl 2 rfl) ?_
  obtain ⟨r16, hr16, hF⟩ := opb hF
  refine kVI (As := [.int x1]) (rest := []) (ws' := (wd_X5_goTo cI a_t a_row a_work a_rest a_bag a_smooth a_text a_saves a_bag_often a_row_signs a_saves_slots a_work_signs r16.2.1 r16.2.2.1 r16.2.2.2.1 r16.2.2.2.2.1 r16.2.2.2.2.2.1 r16.2.2.2.2.2.2.1 r16.2.2.2.2.2.2.2.1 r16.2.2.2.2.2.2.2.2.1 r16.2.2.2.2.2.2.2.2.2)) ⟨hx, hb, hml, hown, hts⟩ (c_X5_goToRank l D cI a_t a_row a_work a_rest a_bag a_smooth a_text a_saves a_bag_often a_row_signs a_saves_slots a_work_signs H.size c_gone r10.2.1 r10.2.2 c_row_length c_row_signs c_saves_held c_saves_slots c_work_length c_work_signs x1 r16 hr16) (cwV 1 hts mw_X5_61 rfl rfl rfl hd_X5_goToRank ⟨Nat.le_of_ble_eq_true rfl, Nat.le_of_ble_eq_true rfl⟩) hS hA hG hK hP hD [0, 1, 2, 3, 4, 5, 6, 7, 8] rfl rfl rfl rfl rfl ⟨Nat.zero_le _, Nat.zero_le _⟩ 5 0 rfl rfl rfl rfl hl.1 rfl (Nat.le_of_ble_eq_true rfl) dX5_goTo_16 (fun H locs hP hD hS => ?_)
  refine lv_pop hx hb dX5_goTo_19 rfl ?_
  refine lv_iload_n hx hb dX5_goTo_20 rfl (lv_at hl 0 rfl) ?_
  have ho := Option.some.inj hF
  exact hret H locs ls 21 r10.1 _ hP hS (by rw [← ho]) (by rw [← ho]) dX5_goTo_21
abbrev wd_X5_jump (cI : ClassId) (a_t a_row a_work a_rest a_bag a_smooth a_text a_saves a_bag_often a_row_signs a_saves_slots a_work_signs : Nat) (c_gone : Int32) (c_bag_total : Int32) (c_bag_often : Nat → Int32) (c_row_length : Int32) (c_row_signs : Nat → Int32) (c_saves_held : Int32) (c_saves_slots : Nat → Int32) (c_work_length : Int32) (c_work_signs : Nat → Int32) : va_W := [(a_t, .inr (5, [.ref a_row, .ref a_work, .ref a_rest, .ref a_bag, .ref a_smooth, .ref a_text, .ref a_saves, .int c_gone])), (a_bag, .inr (0, [.ref a_bag_often, .int c_bag_total])), (a_bag_often, .inl (cI, 6, .inl c_bag_often)), (a_row, .inr (1, [.ref a_row_signs, .int c_row_length])), (a_row_signs, .inl (cI, 11, .inl c_row_signs)), (a_saves, .inr (2, [.ref a_saves_slots, .int c_saves_held])), (a_saves_slots, .inl (cI, 78, .inl c_saves_slots)), (a_work, .inr (1, [.ref a_work_signs, .int c_work_length])), (a_work_signs, .inl (cI, 11, .inl c_work_signs))]
def rm_X5_jump : Room := { frames := 6, cells := 0, slots := 0, locals := 133 }
set_option maxHeartbeats 4000000 in
set_option maxRecDepth 100000 in
theorem c_X5_jump (l : Launch) (D : va_G) (cI : ClassId) (a_t a_row a_work a_rest a_bag a_smooth a_text a_saves a_bag_often a_row_signs a_saves_slots a_work_signs : Nat) (sz : Nat) (c_gone : Int32) (c_bag_total : Int32) (c_bag_often : Nat → Int32) (c_row_length : Int32) (c_row_signs : Nat → Int32) (c_saves_held : Int32) (c_saves_slots : Nat → Int32) (c_work_length : Int32) (c_work_signs : Nat → Int32) (x1 : Int32) (o : Int32 × Int32 × Int32 × (Nat → Int32) × Int32 × (Nat → Int32) × Int32 × (Nat → Int32) × Int32 × (Nat → Int32)) (hF : F_X5_jump c_gone c_bag_total c_bag_often c_row_length c_row_signs c_saves_held c_saves_slots c_work_length c_work_signs x1 = some o) : Met l yX5_jump (Cond.code yX5_jump cX5_jump 4 (some .int) :: WL) rm_X5_jump (preM D [(cI, .int)] (wd_X5_jump cI a_t a_row a_work a_rest a_bag a_smooth a_text a_saves a_bag_often a_row_signs a_saves_slots a_work_signs c_gone c_bag_total c_bag_often c_row_length c_row_signs c_saves_held c_saves_slots c_work_length c_work_signs) sz [.ref a_t, .int x1]) (postI D o.1 (wd_X5_jump cI a_t a_row a_work a_rest a_bag a_smooth a_text a_saves a_bag_often a_row_signs a_saves_slots a_work_signs o.2.1 o.2.2.1 o.2.2.2.1 o.2.2.2.2.1 o.2.2.2.2.2.1 o.2.2.2.2.2.2.1 o.2.2.2.2.2.2.2.1 o.2.2.2.2.2.2.2.2.1 o.2.2.2.2.2.2.2.2.2) (wd_X5_jump cI a_t a_row a_work a_rest a_bag a_smooth a_text a_saves a_bag_often a_row_signs a_saves_slots a_work_signs c_gone c_bag_total c_bag_often c_row_length c_row_signs c_saves_held c_saves_slots c_work_length c_work_signs) sz) 0 0 (va_A (wd_X5_jump cI a_t a_row a_work a_rest a_bag a_smooth a_text a_saves a_bag_often a_row_signs a_saves_slots a_work_signs c_gone c_bag_total c_bag_often c_row_length c_row_signs c_saves_held c_saves_slots c_work_length c_work_signs) sz) := by
  refine mofI (by decide +kernel) (Nat.le_of_ble_eq_true rfl) ?_
  intro p e s m args below meth c Q A ls hx hb hml hown hts hK hP hD hS hA hG hl hret hsz0
  have hl : lv_has ls 4 [(0, .ref a_t), (1, .int x1)] := hl
  unfold F_X5_jump at hF
  have hP : va_P D vwCl (wd_X5_jump cI a_t a_row a_work a_rest a_bag a_smooth a_text a_saves a_bag_often a_row_signs a_saves_slots a_work_signs c_gone c_bag_total c_bag_often c_row_length c_row_signs c_saves_held c_saves_slots c_work_length c_work_signs) s.heap := hP
  obtain ⟨H, hH⟩ : ∃ H, H = s.heap := ⟨_, rfl⟩
  rw [← hH]
  rw [← hH] at hP
  obtain ⟨locs, hlo⟩ : ∃ z : List Loc, z = [] := ⟨_, rfl⟩
  rw [← hlo]
  have hS : va_S A s.heap H locs := by rw [hH, hlo]; exact hS
  refine lv_aload_n hx hb dX5_jump_0 rfl (lv_at hl 0 rfl) ?_
  refine lv_aload_n hx hb dX5_jump_1 rfl (lv_at hl 0 rfl) ?_
  refine get_X5_10 hx hb hts hown hK hP 0 rfl rfl dX5_jump_2 ?_
  obtain ⟨r5, hr5, hF⟩ := opb hF
  refine kVI (As := [.ref a_row]) (rest := []) (ws' := (wd_X5_jump cI a_t a_row a_work a_rest a_bag a_smooth a_text a_saves a_bag_often a_row_signs a_saves_slots a_work_signs c_gone r5.2.1 r5.2.2 c_row_length c_row_signs c_saves_held c_saves_slots c_work_length c_work_signs)) ⟨hx, hb, hml, hown, hts⟩ (c_X5_rankOf l D cI a_t a_row a_row a_work a_rest a_bag a_smooth a_text a_saves a_bag_often a_row_signs H.size c_gone c_bag_total c_bag_often c_row_length c_row_signs  r5 hr5) (cwV 1 hts mw_X5_57 rfl rfl rfl hd_X5_rankOf ⟨Nat.le_of_ble_eq_true rfl, Nat.le_of_ble_eq_true rfl⟩) hS hA hG hK hP hD [0, 1, 2, 3, 4] rfl rfl rfl rfl rfl ⟨Nat.zero_le _, Nat.zero_le _⟩ 5 0 rfl rfl rfl rfl hl.1 rfl (Nat.le_of_ble_eq_true rfl) dX5_jump_5 (fun H locs hP hD hS => ?_)
  refine lv_i2l hx hb dX5_jump_8 rfl ?_
  refine lv_iload_n hx hb dX5_jump_9 rfl (lv_at hl 1 rfl) ?_
  refine lv_i2l hx hb dX5_jump_10 rfl ?_
  refine lv_ladd hx hb dX5_jump_11 ?_
  refine lv_lstore_n (lv' := [(2, .long (((r5.1).toInt64) + ((x1).toInt64))), (0, .ref a_t), (1, .int x1)]) hx hb dX5_jump_12 rfl hl (by decide) rfl (fun ls hl => ?_)
  refine lv_lload_n hx hb dX5_jump_13 rfl (lv_at hl 0 rfl) ?_
  refine lv_lconst (v := 0) hx hb dX5_jump_14 (by decide) ?_
  refine W.lcmp hx hb dX5_jump_15 ?_
  refine lv_if_lt (tgt := 29) hx hb dX5_jump_16 (by decide) (fun k16 => ?_) (fun k16 => ?_)
  · replace hF := (if_pos k16).symm.trans hF
    exact nos hF
  · replace hF := (if_neg k16).symm.trans hF
    refine lv_lload_n hx hb dX5_jump_19 rfl (lv_at hl 0 rfl) ?_
    refine lv_aload_n hx hb dX5_jump_20 rfl (lv_at hl 1 rfl) ?_
    obtain ⟨r21, hr21, hF⟩ := opb hF
    refine kVI (As := []) (rest := [.long (((r5.1).toInt64) + ((x1).toInt64))]) (ws' := (wd_X5_jump cI a_t a_row a_work a_rest a_bag a_smooth a_text a_saves a_bag_often a_row_signs a_saves_slots a_work_signs c_gone r21.2.1 r21.2.2 c_row_length c_row_signs c_saves_held c_saves_slots c_work_length c_work_signs)) ⟨hx, hb, hml, hown, hts⟩ (c_X5_all l D cI a_t a_row a_work a_rest a_bag a_smooth a_text a_saves a_bag_often a_row_signs H.size c_gone r5.2.1 r5.2.2 c_row_length c_row_signs  r21 hr21) (cwV 0 hts mw_X5_65 rfl rfl rfl hd_X5_all ⟨Nat.le_of_ble_eq_true rfl, Nat.le_of_ble_eq_true rfl⟩) hS hA hG hK hP hD [0, 1, 2, 3, 4] rfl rfl rfl rfl rfl ⟨Nat.zero_le _, Nat.zero_le _⟩ 5 0 rfl rfl rfl rfl hl.1 rfl (Nat.le_of_ble_eq_true rfl) dX5_jump_21 (fun H locs hP hD hS => ?_)
    refine lv_i2l hx hb dX5_jump_24 rfl ?_
    refine W.lcmp hx hb dX5_jump_25 ?_
    refine lv_if_lt (tgt := 39) hx hb dX5_jump_26 (by decide) (fun k26 => ?_) (fun k26 => ?_)
    · replace hF := (if_pos k26).symm.trans hF
      refine lv_aload_n hx hb dX5_jump_39 rfl (lv_at hl 1 rfl) ?_
      refine lv_lload_n hx hb dX5_jump_40 rfl (lv_at hl 0 rfl) ?_
      refine lv_l2i hx hb dX5_jump_41 rfl ?_
      obtain ⟨r42, hr42, hF⟩ := opb hF
      refine kVI (As := [.int ((((r5.1).toInt64) + ((x1).toInt64)).toInt32)]) (rest := []) (ws' := (wd_X5_jump cI a_t a_row a_work a_rest a_bag a_smooth a_text a_saves a_bag_often a_row_signs a_saves_slots a_work_signs r42.2.1 r42.2.2.1 r42.2.2.2.1 r42.2.2.2.2.1 r42.2.2.2.2.2.1 r42.2.2.2.2.2.2.1 r42.2.2.2.2.2.2.2.1 r42.2.2.2.2.2.2.2.2.1 r42.2.2.2.2.2.2.2.2.2)) ⟨hx, hb, hml, hown, hts⟩ (c_X5_goToRank l D cI a_t a_row a_work a_rest a_bag a_smooth a_text a_saves a_bag_often a_row_signs a_saves_slots a_work_signs H.size c_gone r21.2.1 r21.2.2 c_row_length c_row_signs c_saves_held c_saves_slots c_work_length c_work_signs ((((r5.1).toInt64) + ((x1).toInt64)).toInt32) r42 hr42) (cwV 1 hts mw_X5_61 rfl rfl rfl hd_X5_goToRank ⟨Nat.le_of_ble_eq_true rfl, Nat.le_of_ble_eq_true rfl⟩) hS hA hG hK hP hD [0, 1, 2, 3, 4, 5, 6, 7, 8] rfl rfl rfl rfl rfl ⟨Nat.zero_le _, Nat.zero_le _⟩ 5 0 rfl rfl rfl rfl hl.1 rfl (Nat.le_of_ble_eq_true rfl) dX5_jump_42 (fun H locs hP hD hS => ?_)
      refine lv_pop hx hb dX5_jump_45 rfl ?_
      refine lv_lload_n hx hb dX5_jump_46 rfl (lv_at hl 0 rfl) ?_
      refine lv_l2i hx hb dX5_jump_47 rfl ?_
      have ho := Option.some.inj hF
      exact hret H locs ls 48 ((((r5.1).toInt64) + ((x1).toInt64)).toInt32) _ hP hS (by rw [← ho]) (by rw [← ho]) dX5_jump_48
    · replace hF := (if_neg k26).symm.trans hF
      exact nos hF
abbrev wd_X5_next (cI : ClassId) (a_t a_row a_work a_rest a_bag a_smooth a_text a_saves a_bag_often a_row_signs a_saves_slots a_work_signs : Nat) (c_gone : Int32) (c_bag_total : Int32) (c_bag_often : Nat → Int32) (c_row_length : Int32) (c_row_signs : Nat → Int32) (c_saves_held : Int32) (c_saves_slots : Nat → Int32) (c_work_length : Int32) (c_work_signs : Nat → Int32) : va_W := [(a_t, .inr (5, [.ref a_row, .ref a_work, .ref a_rest, .ref a_bag, .ref a_smooth, .ref a_text, .ref a_saves, .int c_gone])), (a_bag, .inr (0, [.ref a_bag_often, .int c_bag_total])), (a_bag_often, .inl (cI, 6, .inl c_bag_often)), (a_row, .inr (1, [.ref a_row_signs, .int c_row_length])), (a_row_signs, .inl (cI, 11, .inl c_row_signs)), (a_saves, .inr (2, [.ref a_saves_slots, .int c_saves_held])), (a_saves_slots, .inl (cI, 78, .inl c_saves_slots)), (a_work, .inr (1, [.ref a_work_signs, .int c_work_length])), (a_work_signs, .inl (cI, 11, .inl c_work_signs))]
def rm_X5_next : Room := { frames := 6, cells := 0, slots := 0, locals := 133 }
set_option maxHeartbeats 4000000 in
set_option maxRecDepth 100000 in
theorem c_X5_next (l : Launch) (D : va_G) (cI : ClassId) (a_t a_row a_work a_rest a_bag a_smooth a_text a_saves a_bag_often a_row_signs a_saves_slots a_work_signs : Nat) (sz : Nat) (c_gone : Int32) (c_bag_total : Int32) (c_bag_often : Nat → Int32) (c_row_length : Int32) (c_row_signs : Nat → Int32) (c_saves_held : Int32) (c_saves_slots : Nat → Int32) (c_work_length : Int32) (c_work_signs : Nat → Int32) (o : Int32 × Int32 × Int32 × (Nat → Int32) × Int32 × (Nat → Int32) × Int32 × (Nat → Int32) × Int32 × (Nat → Int32)) (hF : F_X5_next c_gone c_bag_total c_bag_often c_row_length c_row_signs c_saves_held c_saves_slots c_work_length c_work_signs = some o) : Met l yX5_next (Cond.code yX5_next cX5_next 2 (some .int) :: WL) rm_X5_next (preM D [(cI, .int)] (wd_X5_next cI a_t a_row a_work a_rest a_bag a_smooth a_text a_saves a_bag_often a_row_signs a_saves_slots a_work_signs c_gone c_bag_total c_bag_often c_row_length c_row_signs c_saves_held c_saves_slots c_work_length c_work_signs) sz [.ref a_t]) (postI D o.1 (wd_X5_next cI a_t a_row a_work a_rest a_bag a_smooth a_text a_saves a_bag_often a_row_signs a_saves_slots a_work_signs o.2.1 o.2.2.1 o.2.2.2.1 o.2.2.2.2.1 o.2.2.2.2.2.1 o.2.2.2.2.2.2.1 o.2.2.2.2.2.2.2.1 o.2.2.2.2.2.2.2.2.1 o.2.2.2.2.2.2.2.2.2) (wd_X5_next cI a_t a_row a_work a_rest a_bag a_smooth a_text a_saves a_bag_often a_row_signs a_saves_slots a_work_signs c_gone c_bag_total c_bag_often c_row_length c_row_signs c_saves_held c_saves_slots c_work_length c_work_signs) sz) 0 0 (va_A (wd_X5_next cI a_t a_row a_work a_rest a_bag a_smooth a_text a_saves a_bag_often a_row_signs a_saves_slots a_work_signs c_gone c_bag_total c_bag_often c_row_length c_row_signs c_saves_held c_saves_slots c_work_length c_work_signs) sz) := by
  refine mofI (by decide +kernel) (Nat.le_of_ble_eq_true rfl) ?_
  intro p e s m args below meth c Q A ls hx hb hml hown hts hK hP hD hS hA hG hl hret hsz0
  have hl : lv_has ls 2 [(0, .ref a_t)] := hl
  have K25 : ∀ (c_gone : Int32) (c_bag_total : Int32) (c_bag_often : Nat → Int32) (c_row_length : Int32) (c_row_signs : Nat → Int32) (c_saves_held : Int32) (c_saves_slots : Nat → Int32) (c_work_length : Int32) (c_work_signs : Nat → Int32) (v1 : Int32)  (H : Heap) (locs : List Loc) (ls : Array Slot), va_P D vwCl (wd_X5_next cI a_t a_row a_work a_rest a_bag a_smooth a_text a_saves a_bag_often a_row_signs a_saves_slots a_work_signs c_gone c_bag_total c_bag_often c_row_length c_row_signs c_saves_held c_saves_slots c_work_length c_work_signs) H → va_D A (wd_X5_next cI a_t a_row a_work a_rest a_bag a_smooth a_text a_saves a_bag_often a_row_signs a_saves_slots a_work_signs c_gone c_bag_total c_bag_often c_row_length c_row_signs c_saves_held c_saves_slots c_work_length c_work_signs) → va_S A s.heap H locs → lv_has ls 2 [] → F_X5_next_J25 c_gone c_bag_total c_bag_often c_row_length c_row_signs c_saves_held c_saves_slots c_work_length c_work_signs v1 = some o → W p l e rm_X5_next s m args below meth c H locs 0 0 Q (F0 m 25 ls [.int v1, .ref a_t]) := by
    intro c_gone c_bag_total c_bag_often c_row_length c_row_signs c_saves_held c_saves_slots c_work_length c_work_signs v1 H locs ls hP hD hS hl hF
    unfold F_X5_next_J25 at hF
    obtain ⟨r25, hr25, hF⟩ := opb hF
    refine kVI (As := [.int v1]) (rest := []) (ws' := (wd_X5_next cI a_t a_row a_work a_rest a_bag a_smooth a_text a_saves a_bag_often a_row_signs a_saves_slots a_work_signs r25.2.1 r25.2.2.1 r25.2.2.2.1 r25.2.2.2.2.1 r25.2.2.2.2.2.1 r25.2.2.2.2.2.2.1 r25.2.2.2.2.2.2.2.1 r25.2.2.2.2.2.2.2.2.1 r25.2.2.2.2.2.2.2.2.2)) ⟨hx, hb, hml, hown, hts⟩ (c_X5_goToRank l D cI a_t a_row a_work a_rest a_bag a_smooth a_text a_saves a_bag_often a_row_signs a_saves_slots a_work_signs H.size c_gone c_bag_total c_bag_often c_row_length c_row_signs c_saves_held c_saves_slots c_work_length c_work_signs v1 r25 hr25) (cwV 1 hts mw_X5_61 rfl rfl rfl hd_X5_goToRank ⟨Nat.le_of_ble_eq_true rfl, Nat.le_of_ble_eq_true rfl⟩) hS hA hG hK hP hD [0, 1, 2, 3, 4, 5, 6, 7, 8] rfl rfl rfl rfl rfl ⟨Nat.zero_le _, Nat.zero_le _⟩ 5 0 rfl rfl rfl rfl hl.1 rfl (Nat.le_of_ble_eq_true rfl) dX5_next_25 (fun H locs hP hD hS => ?_)
    have ho := Option.some.inj hF
    exact hret H locs ls 28 r25.1 _ hP hS (by rw [← ho]) (by rw [← ho]) dX5_next_28
  unfold F_X5_next at hF
  have hP : va_P D vwCl (wd_X5_next cI a_t a_row a_work a_rest a_bag a_smooth a_text a_saves a_bag_often a_row_signs a_saves_slots a_work_signs c_gone c_bag_total c_bag_often c_row_length c_row_signs c_saves_held c_saves_slots c_work_length c_work_signs) s.heap := hP
  obtain ⟨H, hH⟩ : ∃ H, H = s.heap := ⟨_, rfl⟩
  rw [← hH]
  rw [← hH] at hP
  obtain ⟨locs, hlo⟩ : ∃ z : List Loc, z = [] := ⟨_, rfl⟩
  rw [← hlo]
  have hS : va_S A s.heap H locs := by rw [hH, hlo]; exact hS
  refine lv_aload_n hx hb dX5_next_0 rfl (lv_at hl 0 rfl) ?_
  refine lv_aload_n hx hb dX5_next_1 rfl (lv_at hl 0 rfl) ?_
  refine get_X5_10 hx hb hts hown hK hP 0 rfl rfl dX5_next_2 ?_
  obtain ⟨r5, hr5, hF⟩ := opb hF
  refine kVI (As := [.ref a_row]) (rest := []) (ws' := (wd_X5_next cI a_t a_row a_work a_rest a_bag a_smooth a_text a_saves a_bag_often a_row_signs a_saves_slots a_work_signs c_gone r5.2.1 r5.2.2 c_row_length c_row_signs c_saves_held c_saves_slots c_work_length c_work_signs)) ⟨hx, hb, hml, hown, hts⟩ (c_X5_rankOf l D cI a_t a_row a_row a_work a_rest a_bag a_smooth a_text a_saves a_bag_often a_row_signs H.size c_gone c_bag_total c_bag_often c_row_length c_row_signs  r5 hr5) (cwV 1 hts mw_X5_57 rfl rfl rfl hd_X5_rankOf ⟨Nat.le_of_ble_eq_true rfl, Nat.le_of_ble_eq_true rfl⟩) hS hA hG hK hP hD [0, 1, 2, 3, 4] rfl rfl rfl rfl rfl ⟨Nat.zero_le _, Nat.zero_le _⟩ 5 0 rfl rfl rfl rfl hl.1 rfl (Nat.le_of_ble_eq_true rfl) dX5_next_5 (fun H locs hP hD hS => ?_)
  refine lv_iconst (v := 1) hx hb dX5_next_8 (by decide) ?_
  refine lv_iadd hx hb dX5_next_9 ?_
  refine lv_istore_n (lv' := [(1, .int (r5.1 + (1 : Int32))), (0, .ref a_t)]) hx hb dX5_next_10 rfl hl (by decide) rfl (fun ls hl => ?_)
  refine lv_aload_n hx hb dX5_next_11 rfl (lv_at hl 1 rfl) ?_
  refine lv_iload_n hx hb dX5_next_12 rfl (lv_at hl 0 rfl) ?_
  refine lv_aload_n hx hb dX5_next_13 rfl (lv_at hl 1 rfl) ?_
  obtain ⟨r14, hr14, hF⟩ := opb hF
  refine kVI (As := []) (rest := [.int (r5.1 + (1 : Int32)), .ref a_t]) (ws' := (wd_X5_next cI a_t a_row a_work a_rest a_bag a_smooth a_text a_saves a_bag_often a_row_signs a_saves_slots a_work_signs c_gone r14.2.1 r14.2.2 c_row_length c_row_signs c_saves_held c_saves_slots c_work_length c_work_signs)) ⟨hx, hb, hml, hown, hts⟩ (c_X5_all l D cI a_t a_row a_work a_rest a_bag a_smooth a_text a_saves a_bag_often a_row_signs H.size c_gone r5.2.1 r5.2.2 c_row_length c_row_signs  r14 hr14) (cwV 0 hts mw_X5_65 rfl rfl rfl hd_X5_all ⟨Nat.le_of_ble_eq_true rfl, Nat.le_of_ble_eq_true rfl⟩) hS hA hG hK hP hD [0, 1, 2, 3, 4] rfl rfl rfl rfl rfl ⟨Nat.zero_le _, Nat.zero_le _⟩ 5 0 rfl rfl rfl rfl hl.1 rfl (Nat.le_of_ble_eq_true rfl) dX5_next_14 (fun H locs hP hD hS => ?_)
  refine lv_icmp_ge (tgt := 24) hx hb dX5_next_17 (by decide) (fun k17 => ?_) (fun k17 => ?_)
  · (try simp only [if_pos k17] at hF)
    refine lv_iconst (v := 0) hx hb dX5_next_24 (by decide) ?_
    exact K25 c_gone r14.2.1 r14.2.2 c_row_length c_row_signs c_saves_held c_saves_slots c_work_length c_work_signs (0 : Int32) H locs ls hP hD hS (lv_sub hl [] rfl) hF
  · (try simp only [if_neg k17] at hF)
    refine lv_iload_n hx hb dX5_next_20 rfl (lv_at hl 0 rfl) ?_
    refine lv_goto (tgt := 25) hx hb dX5_next_21 (by decide) ?_
    exact K25 c_gone r14.2.1 r14.2.2 c_row_length c_row_signs c_saves_held c_saves_slots c_work_length c_work_signs (r5.1 + (1 : Int32)) H locs ls hP hD hS (lv_sub hl [] rfl) hF
abbrev wd_X5_previous (cI : ClassId) (a_t a_row a_work a_rest a_bag a_smooth a_text a_saves a_bag_often a_row_signs a_saves_slots a_work_signs : Nat) (c_gone : Int32) (c_bag_total : Int32) (c_bag_often : Nat → Int32) (c_row_length : Int32) (c_row_signs : Nat → Int32) (c_saves_held : Int32) (c_saves_slots : Nat → Int32) (c_work_length : Int32) (c_work_signs : Nat → Int32) : va_W := [(a_t, .inr (5, [.ref a_row, .ref a_work, .ref a_rest, .ref a_bag, .ref a_smooth, .ref a_text, .ref a_saves, .int c_gone])), (a_bag, .inr (0, [.ref a_bag_often, .int c_bag_total])), (a_bag_often, .inl (cI, 6, .inl c_bag_often)), (a_row, .inr (1, [.ref a_row_signs, .int c_row_length])), (a_row_signs, .inl (cI, 11, .inl c_row_signs)), (a_saves, .inr (2, [.ref a_saves_slots, .int c_saves_held])), (a_saves_slots, .inl (cI, 78, .inl c_saves_slots)), (a_work, .inr (1, [.ref a_work_signs, .int c_work_length])), (a_work_signs, .inl (cI, 11, .inl c_work_signs))]
def rm_X5_previous : Room := { frames := 6, cells := 0, slots := 0, locals := 133 }
set_option maxHeartbeats 4000000 in
set_option maxRecDepth 100000 in
theorem c_X5_previous (l : Launch) (D : va_G) (cI : ClassId) (a_t a_row a_work a_rest a_bag a_smooth a_text a_saves a_bag_often a_row_signs a_saves_slots a_work_signs : Nat) (sz : Nat) (c_gone : Int32) (c_bag_total : Int32) (c_bag_often : Nat → Int32) (c_row_length : Int32) (c_row_signs : Nat → Int32) (c_saves_held : Int32) (c_saves_slots : Nat → Int32) (c_work_length : Int32) (c_work_signs : Nat → Int32) (o : Int32 × Int32 × Int32 × (Nat → Int32) × Int32 × (Nat → Int32) × Int32 × (Nat → Int32) × Int32 × (Nat → Int32)) (hF : F_X5_previous c_gone c_bag_total c_bag_often c_row_length c_row_signs c_saves_held c_saves_slots c_work_length c_work_signs = some o) : Met l yX5_previous (Cond.code yX5_previous cX5_previous 2 (some .int) :: WL) rm_X5_previous (preM D [(cI, .int)] (wd_X5_previous cI a_t a_row a_work a_rest a_bag a_smooth a_text a_saves a_bag_often a_row_signs a_saves_slots a_work_signs c_gone c_bag_total c_bag_often c_row_length c_row_signs c_saves_held c_saves_slots c_work_length c_work_signs) sz [.ref a_t]) (postI D o.1 (wd_X5_previous cI a_t a_row a_work a_rest a_bag a_smooth a_text a_saves a_bag_often a_row_signs a_saves_slots a_work_signs o.2.1 o.2.2.1 o.2.2.2.1 o.2.2.2.2.1 o.2.2.2.2.2.1 o.2.2.2.2.2.2.1 o.2.2.2.2.2.2.2.1 o.2.2.2.2.2.2.2.2.1 o.2.2.2.2.2.2.2.2.2) (wd_X5_previous cI a_t a_row a_work a_rest a_bag a_smooth a_text a_saves a_bag_often a_row_signs a_saves_slots a_work_signs c_gone c_bag_total c_bag_often c_row_length c_row_signs c_saves_held c_saves_slots c_work_length c_work_signs) sz) 0 0 (va_A (wd_X5_previous cI a_t a_row a_work a_rest a_bag a_smooth a_text a_saves a_bag_often a_row_signs a_saves_slots a_work_signs c_gone c_bag_total c_bag_often c_row_length c_row_signs c_saves_held c_saves_slots c_work_length c_work_signs) sz) := by
  refine mofI (by decide +kernel) (Nat.le_of_ble_eq_true rfl) ?_
  intro p e s m args below meth c Q A ls hx hb hml hown hts hK hP hD hS hA hG hl hret hsz0
  have hl : lv_has ls 2 [(0, .ref a_t)] := hl
  have K22 : ∀ (c_gone : Int32) (c_bag_total : Int32) (c_bag_often : Nat → Int32) (c_row_length : Int32) (c_row_signs : Nat → Int32) (c_saves_held : Int32) (c_saves_slots : Nat → Int32) (c_work_length : Int32) (c_work_signs : Nat → Int32) (v1 : Int32)  (H : Heap) (locs : List Loc) (ls : Array Slot), va_P D vwCl (wd_X5_previous cI a_t a_row a_work a_rest a_bag a_smooth a_text a_saves a_bag_often a_row_signs a_saves_slots a_work_signs c_gone c_bag_total c_bag_often c_row_length c_row_signs c_saves_held c_saves_slots c_work_length c_work_signs) H → va_D A (wd_X5_previous cI a_t a_row a_work a_rest a_bag a_smooth a_text a_saves a_bag_often a_row_signs a_saves_slots a_work_signs c_gone c_bag_total c_bag_often c_row_length c_row_signs c_saves_held c_saves_slots c_work_length c_work_signs) → va_S A s.heap H locs → lv_has ls 2 [] → F_X5_previous_J22 c_gone c_bag_total c_bag_often c_row_length c_row_signs c_saves_held c_saves_slots c_work_length c_work_signs v1 = some o → W p l e rm_X5_previous s m args below meth c H locs 0 0 Q (F0 m 22 ls [.int v1, .ref a_t]) := by
    intro c_gone c_bag_total c_bag_often c_row_length c_row_signs c_saves_held c_saves_slots c_work_length c_work_signs v1 H locs ls hP hD hS hl hF
    unfold F_X5_previous_J22 at hF
    refine lv_iconst (v := 1) hx hb dX5_previous_22 (by decide) ?_
    refine lv_isub hx hb dX5_previous_23 ?_
    obtain ⟨r24, hr24, hF⟩ := opb hF
    refine kVI (As := [.int (v1 - (1 : Int32))]) (rest := []) (ws' := (wd_X5_previous cI a_t a_row a_work a_rest a_bag a_smooth a_text a_saves a_bag_often a_row_signs a_saves_slots a_work_signs r24.2.1 r24.2.2.1 r24.2.2.2.1 r24.2.2.2.2.1 r24.2.2.2.2.2.1 r24.2.2.2.2.2.2.1 r24.2.2.2.2.2.2.2.1 r24.2.2.2.2.2.2.2.2.1 r24.2.2.2.2.2.2.2.2.2)) ⟨hx, hb, hml, hown, hts⟩ (c_X5_goToRank l D cI a_t a_row a_work a_rest a_bag a_smooth a_text a_saves a_bag_often a_row_signs a_saves_slots a_work_signs H.size c_gone c_bag_total c_bag_often c_row_length c_row_signs c_saves_held c_saves_slots c_work_length c_work_signs (v1 - (1 : Int32)) r24 hr24) (cwV 1 hts mw_X5_61 rfl rfl rfl hd_X5_goToRank ⟨Nat.le_of_ble_eq_true rfl, Nat.le_of_ble_eq_true rfl⟩) hS hA hG hK hP hD [0, 1, 2, 3, 4, 5, 6, 7, 8] rfl rfl rfl rfl rfl ⟨Nat.zero_le _, Nat.zero_le _⟩ 5 0 rfl rfl rfl rfl hl.1 rfl (Nat.le_of_ble_eq_true rfl) dX5_previous_24 (fun H locs hP hD hS => ?_)
    have ho := Option.some.inj hF
    exact hret H locs ls 27 r24.1 _ hP hS (by rw [← ho]) (by rw [← ho]) dX5_previous_27
  unfold F_X5_previous at hF
  have hP : va_P D vwCl (wd_X5_previous cI a_t a_row a_work a_rest a_bag a_smooth a_text a_saves a_bag_often a_row_signs a_saves_slots a_work_signs c_gone c_bag_total c_bag_often c_row_length c_row_signs c_saves_held c_saves_slots c_work_length c_work_signs) s.heap := hP
  obtain ⟨H, hH⟩ : ∃ H, H = s.heap := ⟨_, rfl⟩
  rw [← hH]
  rw [← hH] at hP
  obtain ⟨locs, hlo⟩ : ∃ z : List Loc, z = [] := ⟨_, rfl⟩
  rw [← hlo]
  have hS : va_S A s.heap H locs := by rw [hH, hlo]; exact hS
  refine lv_aload_n hx hb dX5_previous_0 rfl (lv_at hl 0 rfl) ?_
  refine lv_aload_n hx hb dX5_previous_1 rfl (lv_at hl 0 rfl) ?_
  refine get_X5_10 hx hb hts hown hK hP 0 rfl rfl dX5_previous_2 ?_
  obtain ⟨r5, hr5, hF⟩ := opb hF
  refine kVI (As := [.ref a_row]) (rest := []) (ws' := (wd_X5_previous cI a_t a_row a_work a_rest a_bag a_smooth a_text a_saves a_bag_often a_row_signs a_saves_slots a_work_signs c_gone r5.2.1 r5.2.2 c_row_length c_row_signs c_saves_held c_saves_slots c_work_length c_work_signs)) ⟨hx, hb, hml, hown, hts⟩ (c_X5_rankOf l D cI a_t a_row a_row a_work a_rest a_bag a_smooth a_text a_saves a_bag_often a_row_signs H.size c_gone c_bag_total c_bag_often c_row_length c_row_signs  r5 hr5) (cwV 1 hts mw_X5_57 rfl rfl rfl hd_X5_rankOf ⟨Nat.le_of_ble_eq_true rfl, Nat.le_of_ble_eq_true rfl⟩) hS hA hG hK hP hD [0, 1, 2, 3, 4] rfl rfl rfl rfl rfl ⟨Nat.zero_le _, Nat.zero_le _⟩ 5 0 rfl rfl rfl rfl hl.1 rfl (Nat.le_of_ble_eq_true rfl) dX5_previous_5 (fun H locs hP hD hS => ?_)
  refine lv_istore_n (lv' := [(1, .int r5.1), (0, .ref a_t)]) hx hb dX5_previous_8 rfl hl (by decide) rfl (fun ls hl => ?_)
  refine lv_aload_n hx hb dX5_previous_9 rfl (lv_at hl 1 rfl) ?_
  refine lv_iload_n hx hb dX5_previous_10 rfl (lv_at hl 0 rfl) ?_
  refine lv_if_le (tgt := 18) hx hb dX5_previous_11 (by decide) (fun k11 => ?_) (fun k11 => ?_)
  · replace hF := (if_pos k11).symm.trans hF
    refine lv_aload_n hx hb dX5_previous_18 rfl (lv_at hl 1 rfl) ?_
    obtain ⟨r19, hr19, hF⟩ := opb hF
    refine kVI (As := []) (rest := [.ref a_t]) (ws' := (wd_X5_previous cI a_t a_row a_work a_rest a_bag a_smooth a_text a_saves a_bag_often a_row_signs a_saves_slots a_work_signs c_gone r19.2.1 r19.2.2 c_row_length c_row_signs c_saves_held c_saves_slots c_work_length c_work_signs)) ⟨hx, hb, hml, hown, hts⟩ (c_X5_all l D cI a_t a_row a_work a_rest a_bag a_smooth a_text a_saves a_bag_often a_row_signs H.size c_gone r5.2.1 r5.2.2 c_row_length c_row_signs  r19 hr19) (cwV 0 hts mw_X5_65 rfl rfl rfl hd_X5_all ⟨Nat.le_of_ble_eq_true rfl, Nat.le_of_ble_eq_true rfl⟩) hS hA hG hK hP hD [0, 1, 2, 3, 4] rfl rfl rfl rfl rfl ⟨Nat.zero_le _, Nat.zero_le _⟩ 5 0 rfl rfl rfl rfl hl.1 rfl (Nat.le_of_ble_eq_true rfl) dX5_previous_19 (fun H locs hP hD hS => ?_)
    exact K22 c_gone r19.2.1 r19.2.2 c_row_length c_row_signs c_saves_held c_saves_slots c_work_length c_work_signs r19.1 H locs ls hP hD hS (lv_sub hl [] rfl) hF
  · replace hF := (if_neg k11).symm.trans hF
    refine lv_iload_n hx hb dX5_previous_14 rfl (lv_at hl 0 rfl) ?_
    refine lv_goto (tgt := 22) hx hb dX5_previous_15 (by decide) ?_
    exact K22 c_gone r5.2.1 r5.2.2 c_row_length c_row_signs c_saves_held c_saves_slots c_work_length c_work_signs r5.1 H locs ls hP hD hS (lv_sub hl [] rfl) hF
abbrev wd_X5_prepareSmooth (cI : ClassId) (a_t a_row a_work a_rest a_bag a_smooth a_text a_saves a_bag_often a_row_signs a_smooth_madeFor a_smooth_weight a_smooth_inCell a_smooth_all a_smooth_starting : Nat) (c_gone : Int32) (c_bag_total : Int32) (c_bag_often : Nat → Int32) (c_row_length : Int32) (c_row_signs : Nat → Int32) (c_smooth_all : Nat → Int32) (c_smooth_inCell : Nat → Int32) (c_smooth_madeFor : Nat → Int32) (c_smooth_starting : Nat → Int32) (c_smooth_weight : Nat → Int32) : va_W := [(a_t, .inr (5, [.ref a_row, .ref a_work, .ref a_rest, .ref a_bag, .ref a_smooth, .ref a_text, .ref a_saves, .int c_gone])), (a_bag, .inr (0, [.ref a_bag_often, .int c_bag_total])), (a_bag_often, .inl (cI, 6, .inl c_bag_often)), (a_row, .inr (1, [.ref a_row_signs, .int c_row_length])), (a_row_signs, .inl (cI, 11, .inl c_row_signs)), (a_smooth, .inr (3, [.ref a_smooth_madeFor, .ref a_smooth_weight, .ref a_smooth_inCell, .ref a_smooth_all, .ref a_smooth_starting])), (a_smooth_all, .inl (cI, 486, .inl c_smooth_all)), (a_smooth_inCell, .inl (cI, 6, .inl c_smooth_inCell)), (a_smooth_madeFor, .inl (cI, 6, .inl c_smooth_madeFor)), (a_smooth_starting, .inl (cI, 2916, .inl c_smooth_starting)), (a_smooth_weight, .inl (cI, 6, .inl c_smooth_weight))]
def rm_X5_prepareSmooth : Room := { frames := 3, cells := 0, slots := 0, locals := 72 }
set_option maxHeartbeats 4000000 in
set_option maxRecDepth 100000 in
theorem c_X5_prepareSmooth (l : Launch) (D : va_G) (cI : ClassId) (a_t a_row a_work a_rest a_bag a_smooth a_text a_saves a_bag_often a_row_signs a_smooth_madeFor a_smooth_weight a_smooth_inCell a_smooth_all a_smooth_starting : Nat) (sz : Nat) (c_gone : Int32) (c_bag_total : Int32) (c_bag_often : Nat → Int32) (c_row_length : Int32) (c_row_signs : Nat → Int32) (c_smooth_all : Nat → Int32) (c_smooth_inCell : Nat → Int32) (c_smooth_madeFor : Nat → Int32) (c_smooth_starting : Nat → Int32) (c_smooth_weight : Nat → Int32) (o : Int32 × (Nat → Int32) × (Nat → Int32) × (Nat → Int32) × (Nat → Int32) × (Nat → Int32) × (Nat → Int32)) (hF : F_X5_prepareSmooth c_bag_total c_bag_often c_row_length c_row_signs c_smooth_all c_smooth_inCell c_smooth_madeFor c_smooth_starting c_smooth_weight = some o) : Met l yX5_prepareSmooth (Cond.code yX5_prepareSmooth cX5_prepareSmooth 1 none :: WL) rm_X5_prepareSmooth (preM D [(cI, .int)] (wd_X5_prepareSmooth cI a_t a_row a_work a_rest a_bag a_smooth a_text a_saves a_bag_often a_row_signs a_smooth_madeFor a_smooth_weight a_smooth_inCell a_smooth_all a_smooth_starting c_gone c_bag_total c_bag_often c_row_length c_row_signs c_smooth_all c_smooth_inCell c_smooth_madeFor c_smooth_starting c_smooth_weight) sz [.ref a_t]) (postV D (wd_X5_prepareSmooth cI a_t a_row a_work a_rest a_bag a_smooth a_text a_saves a_bag_often a_row_signs a_smooth_madeFor a_smooth_weight a_smooth_inCell a_smooth_all a_smooth_starting c_gone o.1 o.2.1 c_row_length c_row_signs o.2.2.1 o.2.2.2.1 o.2.2.2.2.1 o.2.2.2.2.2.1 o.2.2.2.2.2.2) (wd_X5_prepareSmooth cI a_t a_row a_work a_rest a_bag a_smooth a_text a_saves a_bag_often a_row_signs a_smooth_madeFor a_smooth_weight a_smooth_inCell a_smooth_all a_smooth_starting c_gone c_bag_total c_bag_often c_row_length c_row_signs c_smooth_all c_smooth_inCell c_smooth_madeFor c_smooth_starting c_smooth_weight) sz) 0 0 (va_A (wd_X5_prepareSmooth cI a_t a_row a_work a_rest a_bag a_smooth a_text a_saves a_bag_often a_row_signs a_smooth_madeFor a_smooth_weight a_smooth_inCell a_smooth_all a_smooth_starting c_gone c_bag_total c_bag_often c_row_length c_row_signs c_smooth_all c_smooth_inCell c_smooth_madeFor c_smooth_starting c_smooth_weight) sz) := by
  refine mofV (by decide +kernel) (Nat.le_of_ble_eq_true rfl) ?_
  intro p e s m args below meth c Q A ls hx hb hml hown hts hK hP hD hS hA hG hl hret hsz0
  have hl : lv_has ls 1 [(0, .ref a_t)] := hl
  unfold F_X5_prepareSmooth at hF
  have hP : va_P D vwCl (wd_X5_prepareSmooth cI a_t a_row a_work a_rest a_bag a_smooth a_text a_saves a_bag_often a_row_signs a_smooth_madeFor a_smooth_weight a_smooth_inCell a_smooth_all a_smooth_starting c_gone c_bag_total c_bag_often c_row_length c_row_signs c_smooth_all c_smooth_inCell c_smooth_madeFor c_smooth_starting c_smooth_weight) s.heap := hP
  obtain ⟨H, hH⟩ : ∃ H, H = s.heap := ⟨_, rfl⟩
  rw [← hH]
  rw [← hH] at hP
  obtain ⟨locs, hlo⟩ : ∃ z : List Loc, z = [] := ⟨_, rfl⟩
  rw [← hlo]
  have hS : va_S A s.heap H locs := by rw [hH, hlo]; exact hS
  refine lv_aload_n hx hb dX5_prepareSmooth_0 rfl (lv_at hl 0 rfl) ?_
  refine get_X5_25 hx hb hts hown hK hP 0 rfl rfl dX5_prepareSmooth_1 ?_
  refine lv_aload_n hx hb dX5_prepareSmooth_4 rfl (lv_at hl 0 rfl) ?_
  refine get_X5_10 hx hb hts hown hK hP 0 rfl rfl dX5_prepareSmooth_5 ?_
  refine lv_iconst (v := 0) hx hb dX5_prepareSmooth_8 (by decide) ?_
  obtain ⟨r9, hr9, hF⟩ := opb hF
  refine kVV (As := [.ref a_row, .int (0 : Int32)]) (rest := []) (ws' := (wd_X5_prepareSmooth cI a_t a_row a_work a_rest a_bag a_smooth a_text a_saves a_bag_often a_row_signs a_smooth_madeFor a_smooth_weight a_smooth_inCell a_smooth_all a_smooth_starting c_gone r9.1 r9.2 c_row_length c_row_signs c_smooth_all c_smooth_inCell c_smooth_madeFor c_smooth_starting c_smooth_weight)) ⟨hx, hb, hml, hown, hts⟩ (c_X0_fill l D cI a_bag a_row a_bag_often a_row_signs H.size c_bag_total c_bag_often c_row_length c_row_signs (0 : Int32) r9 hr9) (cwV 2 hts mw_X5_171 rfl rfl rfl hd_X0_fill ⟨Nat.le_of_ble_eq_true rfl, Nat.le_of_ble_eq_true rfl⟩) hS hA hG hK hP hD [1, 2, 3, 4] rfl rfl rfl rfl rfl ⟨Nat.zero_le _, Nat.zero_le _⟩ 0 1 rfl rfl rfl rfl hl.1 rfl (Nat.le_of_ble_eq_true rfl) dX5_prepareSmooth_9 (fun H locs hP hD hS => ?_)
  refine lv_aload_n hx hb dX5_prepareSmooth_12 rfl (lv_at hl 0 rfl) ?_
  refine get_X5_32 hx hb hts hown hK hP 0 rfl rfl dX5_prepareSmooth_13 ?_
  refine lv_aload_n hx hb dX5_prepareSmooth_16 rfl (lv_at hl 0 rfl) ?_
  refine get_X5_25 hx hb hts hown hK hP 0 rfl rfl dX5_prepareSmooth_17 ?_
  obtain ⟨r20, hr20, hF⟩ := opb hF
  refine kVV (As := [.ref a_bag]) (rest := []) (ws' := (wd_X5_prepareSmooth cI a_t a_row a_work a_rest a_bag a_smooth a_text a_saves a_bag_often a_row_signs a_smooth_madeFor a_smooth_weight a_smooth_inCell a_smooth_all a_smooth_starting c_gone r9.1 r9.2 c_row_length c_row_signs r20.1 r20.2.1 r20.2.2.1 r20.2.2.2.1 r20.2.2.2.2)) ⟨hx, hb, hml, hown, hts⟩ (c_X3_prepare l D cI a_smooth a_bag a_smooth_madeFor a_smooth_weight a_smooth_inCell a_smooth_all a_smooth_starting a_bag_often H.size c_smooth_all c_smooth_inCell c_smooth_madeFor c_smooth_starting c_smooth_weight r9.1 r9.2  r20 hr20) (cwV 1 hts mw_X5_321 rfl rfl rfl hd_X3_prepare ⟨Nat.le_of_ble_eq_true rfl, Nat.le_of_ble_eq_true rfl⟩) hS hA hG hK hP hD [5, 6, 7, 8, 9, 10, 1, 2] rfl rfl rfl rfl rfl ⟨Nat.zero_le _, Nat.zero_le _⟩ 3 5 rfl rfl rfl rfl hl.1 rfl (Nat.le_of_ble_eq_true rfl) dX5_prepareSmooth_20 (fun H locs hP hD hS => ?_)
  have ho := Option.some.inj hF
  exact hret H locs ls 23 _ hP hS (by rw [← ho]) dX5_prepareSmooth_23
abbrev wd_X5_smoothRank (cI : ClassId) (a_t a_row a_work a_rest a_bag a_smooth a_text a_saves a_bag_often a_row_signs a_smooth_madeFor a_smooth_weight a_smooth_inCell a_smooth_all a_smooth_starting : Nat) (c_gone : Int32) (c_bag_total : Int32) (c_bag_often : Nat → Int32) (c_row_length : Int32) (c_row_signs : Nat → Int32) (c_smooth_all : Nat → Int32) (c_smooth_inCell : Nat → Int32) (c_smooth_madeFor : Nat → Int32) (c_smooth_starting : Nat → Int32) (c_smooth_weight : Nat → Int32) : va_W := [(a_t, .inr (5, [.ref a_row, .ref a_work, .ref a_rest, .ref a_bag, .ref a_smooth, .ref a_text, .ref a_saves, .int c_gone])), (a_bag, .inr (0, [.ref a_bag_often, .int c_bag_total])), (a_bag_often, .inl (cI, 6, .inl c_bag_often)), (a_row, .inr (1, [.ref a_row_signs, .int c_row_length])), (a_row_signs, .inl (cI, 11, .inl c_row_signs)), (a_smooth, .inr (3, [.ref a_smooth_madeFor, .ref a_smooth_weight, .ref a_smooth_inCell, .ref a_smooth_all, .ref a_smooth_starting])), (a_smooth_all, .inl (cI, 486, .inl c_smooth_all)), (a_smooth_inCell, .inl (cI, 6, .inl c_smooth_inCell)), (a_smooth_madeFor, .inl (cI, 6, .inl c_smooth_madeFor)), (a_smooth_starting, .inl (cI, 2916, .inl c_smooth_starting)), (a_smooth_weight, .inl (cI, 6, .inl c_smooth_weight))]
def rm_X5_smoothRank : Room := { frames := 4, cells := 0, slots := 0, locals := 92 }
set_option maxHeartbeats 4000000 in
set_option maxRecDepth 100000 in
theorem c_X5_smoothRank (l : Launch) (D : va_G) (cI : ClassId) (a_t a_row a_work a_rest a_bag a_smooth a_text a_saves a_bag_often a_row_signs a_smooth_madeFor a_smooth_weight a_smooth_inCell a_smooth_all a_smooth_starting : Nat) (sz : Nat) (c_gone : Int32) (c_bag_total : Int32) (c_bag_often : Nat → Int32) (c_row_length : Int32) (c_row_signs : Nat → Int32) (c_smooth_all : Nat → Int32) (c_smooth_inCell : Nat → Int32) (c_smooth_madeFor : Nat → Int32) (c_smooth_starting : Nat → Int32) (c_smooth_weight : Nat → Int32) (o : Int32 × Int32 × (Nat → Int32) × (Nat → Int32) × (Nat → Int32) × (Nat → Int32) × (Nat → Int32) × (Nat → Int32)) (hF : F_X5_smoothRank c_bag_total c_bag_often c_row_length c_row_signs c_smooth_all c_smooth_inCell c_smooth_madeFor c_smooth_starting c_smooth_weight = some o) : Met l yX5_smoothRank (Cond.code yX5_smoothRank cX5_smoothRank 6 (some .int) :: WL) rm_X5_smoothRank (preM D [(cI, .int)] (wd_X5_smoothRank cI a_t a_row a_work a_rest a_bag a_smooth a_text a_saves a_bag_often a_row_signs a_smooth_madeFor a_smooth_weight a_smooth_inCell a_smooth_all a_smooth_starting c_gone c_bag_total c_bag_often c_row_length c_row_signs c_smooth_all c_smooth_inCell c_smooth_madeFor c_smooth_starting c_smooth_weight) sz [.ref a_t]) (postI D o.1 (wd_X5_smoothRank cI a_t a_row a_work a_rest a_bag a_smooth a_text a_saves a_bag_often a_row_signs a_smooth_madeFor a_smooth_weight a_smooth_inCell a_smooth_all a_smooth_starting c_gone o.2.1 o.2.2.1 c_row_length c_row_signs o.2.2.2.1 o.2.2.2.2.1 o.2.2.2.2.2.1 o.2.2.2.2.2.2.1 o.2.2.2.2.2.2.2) (wd_X5_smoothRank cI a_t a_row a_work a_rest a_bag a_smooth a_text a_saves a_bag_often a_row_signs a_smooth_madeFor a_smooth_weight a_smooth_inCell a_smooth_all a_smooth_starting c_gone c_bag_total c_bag_often c_row_length c_row_signs c_smooth_all c_smooth_inCell c_smooth_madeFor c_smooth_starting c_smooth_weight) sz) 0 0 (va_A (wd_X5_smoothRank cI a_t a_row a_work a_rest a_bag a_smooth a_text a_saves a_bag_often a_row_signs a_smooth_madeFor a_smooth_weight a_smooth_inCell a_smooth_all a_smooth_starting c_gone c_bag_total c_bag_often c_row_length c_row_signs c_smooth_all c_smooth_inCell c_smooth_madeFor c_smooth_starting c_smooth_weight) sz) := by
  refine mofI (by decide +kernel) (Nat.le_of_ble_eq_true rfl) ?_
  intro p e s m args below meth c Q A ls hx hb hml hown hts hK hP hD hS hA hG hl hret hsz0
  have hl : lv_has ls 6 [(0, .ref a_t)] := hl
  have K10 : ∀ (n10 : Nat) (c_bag_total : Int32) (c_bag_often : Nat → Int32) (c_smooth_all : Nat → Int32) (c_smooth_inCell : Nat → Int32) (c_smooth_madeFor : Nat → Int32) (c_smooth_starting : Nat → Int32) (c_smooth_weight : Nat → Int32) (x1 : Int32) (x2 : Int32) (x3 : Int32) (H : Heap) (locs : List Loc) (ls : Array Slot), va_P D vwCl (wd_X5_smoothRank cI a_t a_row a_work a_rest a_bag a_smooth a_text a_saves a_bag_often a_row_signs a_smooth_madeFor a_smooth_weight a_smooth_inCell a_smooth_all a_smooth_starting c_gone c_bag_total c_bag_often c_row_length c_row_signs c_smooth_all c_smooth_inCell c_smooth_madeFor c_smooth_starting c_smooth_weight) H → va_D A (wd_X5_smoothRank cI a_t a_row a_work a_rest a_bag a_smooth a_text a_saves a_bag_often a_row_signs a_smooth_madeFor a_smooth_weight a_smooth_inCell a_smooth_all a_smooth_starting c_gone c_bag_total c_bag_often c_row_length c_row_signs c_smooth_all c_smooth_inCell c_smooth_madeFor c_smooth_starting c_smooth_weight) → va_S A s.heap H locs → lv_has ls 6 [(0, .ref a_t), (1, .int x1), (2, .int x2), (3, .int x3)] → F_X5_smoothRank_L10 c_row_length c_row_signs n10 c_bag_total c_bag_often c_smooth_all c_smooth_inCell c_smooth_madeFor c_smooth_starting c_smooth_weight x1 x2 x3 = some o → W p l e rm_X5_smoothRank s m args below meth c H locs 0 0 Q (F0 m 10 ls []) := by
    intro n10
    induction n10 with
    | zero => intro c_bag_total c_bag_often c_smooth_all c_smooth_inCell c_smooth_madeFor c_smooth_starting c_smooth_weight x1 x2 x3 H locs ls hP hD hS hl hF; exact nos hF
    | succ n10 ih10 =>
      have K34 : ∀ (n34 : Nat) (c_bag_total : Int32) (c_bag_often : Nat → Int32) (c_smooth_all : Nat → Int32) (c_smooth_inCell : Nat → Int32) (c_smooth_madeFor : Nat → Int32) (c_smooth_starting : Nat → Int32) (c_smooth_weight : Nat → Int32) (x1 : Int32) (x2 : Int32) (x3 : Int32) (x4 : Int32) (x5 : Int32) (H : Heap) (locs : List Loc) (ls : Array Slot), va_P D vwCl (wd_X5_smoothRank cI a_t a_row a_work a_rest a_bag a_smooth a_text a_saves a_bag_often a_row_signs a_smooth_madeFor a_smooth_weight a_smooth_inCell a_smooth_all a_smooth_starting c_gone c_bag_total c_bag_often c_row_length c_row_signs c_smooth_all c_smooth_inCell c_smooth_madeFor c_smooth_starting c_smooth_weight) H → va_D A (wd_X5_smoothRank cI a_t a_row a_work a_rest a_bag a_smooth a_text a_saves a_bag_often a_row_signs a_smooth_madeFor a_smooth_weight a_smooth_inCell a_smooth_all a_smooth_starting c_gone c_bag_total c_bag_often c_row_length c_row_signs c_smooth_all c_smooth_inCell c_smooth_madeFor c_smooth_starting c_smooth_weight) → va_S A s.heap H locs → lv_has ls 6 [(0, .ref a_t), (1, .int x1), (2, .int x2), (3, .int x3), (4, .int x4), (5, .int x5)] → F_X5_smoothRank_L34 (F_X5_smoothRank_L10 c_row_length c_row_signs n10) c_row_length c_row_signs n34 c_bag_total c_bag_often c_smooth_all c_smooth_inCell c_smooth_madeFor c_smooth_starting c_smooth_weight x1 x2 x3 x4 x5 = some o → W p l e rm_X5_smoothRank s m args below meth c H locs 0 0 Q (F0 m 34 ls []) := by
        intro n34
        induction n34 with
        | zero => intro c_bag_total c_bag_often c_smooth_all c_smooth_inCell c_smooth_madeFor c_smooth_starting c_smooth_weight x1 x2 x3 x4 x5 H locs ls hP hD hS hl hF; exact nos hF
        | succ n34 ih34 =>
          intro c_bag_total c_bag_often c_smooth_all c_smooth_inCell c_smooth_madeFor c_smooth_starting c_smooth_weight x1 x2 x3 x4 x5 H locs ls hP hD hS hl hF
          rw [F_X5_smoothRank_L34] at hF
          refine lv_iload hx hb dX5_smoothRank_34 (lv_at hl 5 rfl) ?_
          refine lv_iload hx hb dX5_smoothRank_36 (lv_at hl 4 rfl) ?_
          refine lv_icmp_ge (tgt := 73) hx hb dX5_smoothRank_38 (by decide) (fun k38 => ?_) (fun k38 => ?_)
          · replace hF := (if_pos k38).symm.trans hF
            refine lv_iload hx hb dX5_smoothRank_73 (lv_at hl 4 rfl) ?_
            refine lv_iload_n hx hb dX5_smoothRank_75 rfl (lv_at hl 2 rfl) ?_
            refine lv_icmp_ne (tgt := 81) hx hb dX5_smoothRank_76 (by decide) (fun k76 => ?_) (fun k76 => ?_)
            · replace hF := (if_neg k76).symm.trans hF
              refine lv_aload_n hx hb dX5_smoothRank_81 rfl (lv_at hl 0 rfl) ?_
              refine get_X5_25 hx hb hts hown hK hP 0 rfl rfl dX5_smoothRank_82 ?_
              refine lv_iload hx hb dX5_smoothRank_85 (lv_at hl 4 rfl) ?_
              obtain ⟨r87, hr87, hF⟩ := opb hF
              refine kVV (As := [.int x4]) (rest := []) (ws' := (wd_X5_smoothRank cI a_t a_row a_work a_rest a_bag a_smooth a_text a_saves a_bag_often a_row_signs a_smooth_madeFor a_smooth_weight a_smooth_inCell a_smooth_all a_smooth_starting c_gone r87.1 r87.2 c_row_length c_row_signs c_smooth_all c_smooth_inCell c_smooth_madeFor c_smooth_starting c_smooth_weight)) ⟨hx, hb, hml, hown, hts⟩ (c_X0_drop l D cI a_bag a_bag_often H.size c_bag_total c_bag_often x4 r87 hr87) (cwV 1 hts mw_X5_301 rfl rfl rfl hd_X0_drop ⟨Nat.le_of_ble_eq_true rfl, Nat.le_of_ble_eq_true rfl⟩) hS hA hG hK hP hD [1, 2] rfl rfl rfl rfl rfl ⟨Nat.zero_le _, Nat.zero_le _⟩ 0 1 rfl rfl rfl rfl hl.1 rfl (Nat.le_of_ble_eq_true rfl) dX5_smoothRank_87 (fun H locs hP hD hS => ?_)
              refine lv_iload hx hb dX5_smoothRank_90 (lv_at hl 4 rfl) ?_
              refine lv_istore_n (lv' := [(2, .int x4), (0, .ref a_t), (1, .int x1), (3, .int x3), (4, .int x4), (5, .int x5)]) hx hb dX5_smoothRank_92 rfl hl (by decide) rfl (fun ls hl => ?_)
              refine lv_iinc (v := x3 + 1) (lv' := [(3, .int (x3 + 1)), (2, .int x4), (0, .ref a_t), (1, .int x1), (4, .int x4), (5, .int x5)]) hx hb dX5_smoothRank_93 hl (k := 3) rfl rfl (by decide) rfl (fun ls hl => ?_)
              refine lv_goto (tgt := 10) hx hb dX5_smoothRank_96 (by decide) ?_
              exact ih10 r87.1 r87.2 c_smooth_all c_smooth_inCell c_smooth_madeFor c_smooth_starting c_smooth_weight x1 x4 (x3 + 1) H locs ls hP hD hS (lv_sub hl [2, 3, 1, 0] rfl) hF
            · replace hF := (if_pos k76).symm.trans hF
              refine lv_iload_n hx hb dX5_smoothRank_79 rfl (lv_at hl 1 rfl) ?_
              have ho := Option.some.inj hF
              exact hret H locs ls 80 x1 _ hP hS (by rw [← ho]) (by rw [← ho]) dX5_smoothRank_80
          · replace hF := (if_neg k38).symm.trans hF
            refine lv_iload_n hx hb dX5_smoothRank_41 rfl (lv_at hl 1 rfl) ?_
            refine lv_iload hx hb dX5_smoothRank_42 (lv_at hl 5 rfl) ?_
            refine lv_iload_n hx hb dX5_smoothRank_44 rfl (lv_at hl 2 rfl) ?_
            refine lv_icmp_ne (tgt := 52) hx hb dX5_smoothRank_45 (by decide) (fun k45 => ?_) (fun k45 => ?_)
            · replace hF := (if_neg k45).symm.trans hF
              refine lv_aload_n hx hb dX5_smoothRank_52 rfl (lv_at hl 0 rfl) ?_
              refine get_X5_32 hx hb hts hown hK hP 0 rfl rfl dX5_smoothRank_53 ?_
              refine lv_aload_n hx hb dX5_smoothRank_56 rfl (lv_at hl 0 rfl) ?_
              refine get_X5_25 hx hb hts hown hK hP 0 rfl rfl dX5_smoothRank_57 ?_
              refine lv_iload hx hb dX5_smoothRank_60 (lv_at hl 5 rfl) ?_
              obtain ⟨r62, hr62, hF⟩ := opb hF
              refine kVI (As := [.ref a_bag, .int x5]) (rest := [.int x1]) (ws' := (wd_X5_smoothRank cI a_t a_row a_work a_rest a_bag a_smooth a_text a_saves a_bag_often a_row_signs a_smooth_madeFor a_smooth_weight a_smooth_inCell a_smooth_all a_smooth_starting c_gone c_bag_total c_bag_often c_row_length c_row_signs c_smooth_all c_smooth_inCell c_smooth_madeFor c_smooth_starting c_smooth_weight)) ⟨hx, hb, hml, hown, hts⟩ (c_X3_startingWith l D cI a_smooth a_bag a_smooth_madeFor a_smooth_weight a_smooth_inCell a_smooth_all a_smooth_starting a_bag_often H.size c_smooth_starting c_smooth_weight c_bag_total c_bag_often x5 r62 hr62) (cwV 2 hts mw_X5_318 rfl rfl rfl hd_X3_startingWith ⟨Nat.le_of_ble_eq_true rfl, Nat.le_of_ble_eq_true rfl⟩) hS hA hG hK hP hD [5, 9, 10, 1, 2] rfl rfl rfl rfl rfl ⟨Nat.zero_le _, Nat.zero_le _⟩ 3 5 rfl rfl rfl rfl hl.1 rfl (Nat.le_of_ble_eq_true rfl) dX5_smoothRank_62 (fun H locs hP hD hS => ?_)
              refine lv_iadd hx hb dX5_smoothRank_65 ?_
              refine lv_istore_n (lv' := [(1, .int (x1 + r62)), (0, .ref a_t), (2, .int x2), (3, .int x3), (4, .int x4), (5, .int x5)]) hx hb dX5_smoothRank_66 rfl hl (by decide) rfl (fun ls hl => ?_)
              refine lv_iinc (v := x5 + 1) (lv' := [(5, .int (x5 + 1)), (1, .int (x1 + r62)), (0, .ref a_t), (2, .int x2), (3, .int x3), (4, .int x4)]) hx hb dX5_smoothRank_67 hl (k := 5) rfl rfl (by decide) rfl (fun ls hl => ?_)
              refine lv_goto (tgt := 34) hx hb dX5_smoothRank_70 (by decide) ?_
              exact ih34 c_bag_total c_bag_often c_smooth_all c_smooth_inCell c_smooth_madeFor c_smooth_starting c_smooth_weight (x1 + r62) x2 x3 x4 (x5 + 1) H locs ls hP hD hS (lv_sub hl [2, 1, 3, 4, 5, 0] rfl) hF
            · replace hF := (if_pos k45).symm.trans hF
              refine lv_iconst (v := 0) hx hb dX5_smoothRank_48 (by decide) ?_
              refine lv_goto (tgt := 65) hx hb dX5_smoothRank_49 (by decide) ?_
              refine lv_iadd hx hb dX5_smoothRank_65 ?_
              refine lv_istore_n (lv' := [(1, .int (x1 + (0 : Int32))), (0, .ref a_t), (2, .int x2), (3, .int x3), (4, .int x4), (5, .int x5)]) hx hb dX5_smoothRank_66 rfl hl (by decide) rfl (fun ls hl => ?_)
              refine lv_iinc (v := x5 + 1) (lv' := [(5, .int (x5 + 1)), (1, .int (x1 + (0 : Int32))), (0, .ref a_t), (2, .int x2), (3, .int x3), (4, .int x4)]) hx hb dX5_smoothRank_67 hl (k := 5) rfl rfl (by decide) rfl (fun ls hl => ?_)
              refine lv_goto (tgt := 34) hx hb dX5_smoothRank_70 (by decide) ?_
              exact ih34 c_bag_total c_bag_often c_smooth_all c_smooth_inCell c_smooth_madeFor c_smooth_starting c_smooth_weight (x1 + (0 : Int32)) x2 x3 x4 (x5 + 1) H locs ls hP hD hS (lv_sub hl [2, 1, 3, 4, 5, 0] rfl) hF
      intro c_bag_total c_bag_often c_smooth_all c_smooth_inCell c_smooth_madeFor c_smooth_starting c_smooth_weight x1 x2 x3 H locs ls hP hD hS hl hF
      rw [F_X5_smoothRank_L10] at hF
      refine lv_iload_n hx hb dX5_smoothRank_10 rfl (lv_at hl 3 rfl) ?_
      refine lv_aload_n hx hb dX5_smoothRank_11 rfl (lv_at hl 0 rfl) ?_
      refine get_X5_10 hx hb hts hown hK hP 0 rfl rfl dX5_smoothRank_12 ?_
      obtain ⟨r15, hr15, hF⟩ := opb hF
      refine kVI (As := []) (rest := [.int x3]) (ws' := (wd_X5_smoothRank cI a_t a_row a_work a_rest a_bag a_smooth a_text a_saves a_bag_often a_row_signs a_smooth_madeFor a_smooth_weight a_smooth_inCell a_smooth_all a_smooth_starting c_gone c_bag_total c_bag_often c_row_length c_row_signs c_smooth_all c_smooth_inCell c_smooth_madeFor c_smooth_starting c_smooth_weight)) ⟨hx, hb, hml, hown, hts⟩ (c_X1_length l D cI a_row a_row_signs H.size c_row_length  r15 hr15) (cwV 0 hts mw_X5_79 rfl rfl rfl hd_X1_length ⟨Nat.le_of_ble_eq_true rfl, Nat.le_of_ble_eq_true rfl⟩) hS hA hG hK hP hD [3] rfl rfl rfl rfl rfl ⟨Nat.zero_le _, Nat.zero_le _⟩ 1 3 rfl rfl rfl rfl hl.1 rfl (Nat.le_of_ble_eq_true rfl) dX5_smoothRank_15 (fun H locs hP hD hS => ?_)
      refine lv_icmp_ge (tgt := 99) hx hb dX5_smoothRank_18 (by decide) (fun k18 => ?_) (fun k18 => ?_)
      · replace hF := (if_pos k18).symm.trans hF
        refine lv_iload_n hx hb dX5_smoothRank_99 rfl (lv_at hl 1 rfl) ?_
        have ho := Option.some.inj hF
        exact hret H locs ls 100 x1 _ hP hS (by rw [← ho]) (by rw [← ho]) dX5_smoothRank_100
      · replace hF := (if_neg k18).symm.trans hF
        refine lv_aload_n hx hb dX5_smoothRank_21 rfl (lv_at hl 0 rfl) ?_
        refine get_X5_10 hx hb hts hown hK hP 0 rfl rfl dX5_smoothRank_22 ?_
        refine lv_iload_n hx hb dX5_smoothRank_25 rfl (lv_at hl 3 rfl) ?_
        obtain ⟨r26, hr26, hF⟩ := opb hF
        refine kVI (As := [.int x3]) (rest := []) (ws' := (wd_X5_smoothRank cI a_t a_row a_work a_rest a_bag a_smooth a_text a_saves a_bag_often a_row_signs a_smooth_madeFor a_smooth_weight a_smooth_inCell a_smooth_all a_smooth_starting c_gone c_bag_total c_bag_often c_row_length c_row_signs c_smooth_all c_smooth_inCell c_smooth_madeFor c_smooth_starting c_smooth_weight)) ⟨hx, hb, hml, hown, hts⟩ (c_X1_at l D cI a_row a_row_signs H.size c_row_length c_row_signs x3 r26 hr26) (cwV 1 hts mw_X5_137 rfl rfl rfl hd_X1_at ⟨Nat.le_of_ble_eq_true rfl, Nat.le_of_ble_eq_true rfl⟩) hS hA hG hK hP hD [3, 4] rfl rfl rfl rfl rfl ⟨Nat.zero_le _, Nat.zero_le _⟩ 1 3 rfl rfl rfl rfl hl.1 rfl (Nat.le_of_ble_eq_true rfl) dX5_smoothRank_26 (fun H locs hP hD hS => ?_)
        refine lv_istore (lv' := [(4, .int r26), (0, .ref a_t), (1, .int x1), (2, .int x2), (3, .int x3)]) hx hb dX5_smoothRank_29 hl (by decide) rfl (fun ls hl => ?_)
        refine lv_iconst (v := 0) hx hb dX5_smoothRank_31 (by decide) ?_
        refine lv_istore (lv' := [(5, .int (0 : Int32)), (4, .int r26), (0, .ref a_t), (1, .int x1), (2, .int x2), (3, .int x3)]) hx hb dX5_smoothRank_32 hl (by decide) rfl (fun ls hl => ?_)
        exact K34 FU c_bag_total c_bag_often c_smooth_all c_smooth_inCell c_smooth_madeFor c_smooth_starting c_smooth_weight x1 x2 x3 r26 (0 : Int32) H locs ls hP hD hS (lv_sub hl [2, 3, 4, 5, 1, 0] rfl) hF
  unfold F_X5_smoothRank at hF
  have hP : va_P D vwCl (wd_X5_smoothRank cI a_t a_row a_work a_rest a_bag a_smooth a_text a_saves a_bag_often a_row_signs a_smooth_madeFor a_smooth_weight a_smooth_inCell a_smooth_all a_smooth_starting c_gone c_bag_total c_bag_often c_row_length c_row_signs c_smooth_all c_smooth_inCell c_smooth_madeFor c_smooth_starting c_smooth_weight) s.heap := hP
  obtain ⟨H, hH⟩ : ∃ H, H = s.heap := ⟨_, rfl⟩
  rw [← hH]
  rw [← hH] at hP
  obtain ⟨locs, hlo⟩ : ∃ z : List Loc, z = [] := ⟨_, rfl⟩
  rw [← hlo]
  have hS : va_S A s.heap H locs := by rw [hH, hlo]; exact hS
  refine lv_aload_n hx hb dX5_smoothRank_0 rfl (lv_at hl 0 rfl) ?_
  obtain ⟨r1, hr1, hF⟩ := opb hF
  refine kVV (As := []) (rest := []) (ws' := (wd_X5_smoothRank cI a_t a_row a_work a_rest a_bag a_smooth a_text a_saves a_bag_often a_row_signs a_smooth_madeFor a_smooth_weight a_smooth_inCell a_smooth_all a_smooth_starting c_gone r1.1 r1.2.1 c_row_length c_row_signs r1.2.2.1 r1.2.2.2.1 r1.2.2.2.2.1 r1.2.2.2.2.2.1 r1.2.2.2.2.2.2)) ⟨hx, hb, hml, hown, hts⟩ (c_X5_prepareSmooth l D cI a_t a_row a_work a_rest a_bag a_smooth a_text a_saves a_bag_often a_row_signs a_smooth_madeFor a_smooth_weight a_smooth_inCell a_smooth_all a_smooth_starting H.size c_gone c_bag_total c_bag_often c_row_length c_row_signs c_smooth_all c_smooth_inCell c_smooth_madeFor c_smooth_starting c_smooth_weight  r1 hr1) (cwV 0 hts mw_X5_311 rfl rfl rfl hd_X5_prepareSmooth ⟨Nat.le_of_ble_eq_true rfl, Nat.le_of_ble_eq_true rfl⟩) hS hA hG hK hP hD [0, 1, 2, 3, 4, 5, 6, 7, 8, 9, 10] rfl rfl rfl rfl rfl ⟨Nat.zero_le _, Nat.zero_le _⟩ 5 0 rfl rfl rfl rfl hl.1 rfl (Nat.le_of_ble_eq_true rfl) dX5_smoothRank_1 (fun H locs hP hD hS => ?_)
  refine lv_iconst (v := 0) hx hb dX5_smoothRank_4 (by decide) ?_
  refine lv_istore_n (lv' := [(1, .int (0 : Int32)), (0, .ref a_t)]) hx hb dX5_smoothRank_5 rfl hl (by decide) rfl (fun ls hl => ?_)
  refine lv_iconst (v := (-1)) hx hb dX5_smoothRank_6 (by decide) ?_
  refine lv_istore_n (lv' := [(2, .int ((-1) : Int32)), (1, .int (0 : Int32)), (0, .ref a_t)]) hx hb dX5_smoothRank_7 rfl hl (by decide) rfl (fun ls hl => ?_)
  refine lv_iconst (v := 0) hx hb dX5_smoothRank_8 (by decide) ?_
  refine lv_istore_n (lv' := [(3, .int (0 : Int32)), (2, .int ((-1) : Int32)), (1, .int (0 : Int32)), (0, .ref a_t)]) hx hb dX5_smoothRank_9 rfl hl (by decide) rfl (fun ls hl => ?_)
  exact K10 FU r1.1 r1.2.1 r1.2.2.1 r1.2.2.2.1 r1.2.2.2.2.1 r1.2.2.2.2.2.1 r1.2.2.2.2.2.2 (0 : Int32) ((-1) : Int32) (0 : Int32) H locs ls hP hD hS (lv_sub hl [3, 2, 1, 0] rfl) hF
abbrev wd_X5_smoothInBlock (cI : ClassId) (a_t a_row a_work a_rest a_bag a_smooth a_text a_saves a_bag_often a_row_signs a_smooth_madeFor a_smooth_weight a_smooth_inCell a_smooth_all a_smooth_starting : Nat) (c_gone : Int32) (c_bag_total : Int32) (c_bag_often : Nat → Int32) (c_row_length : Int32) (c_row_signs : Nat → Int32) (c_smooth_all : Nat → Int32) (c_smooth_inCell : Nat → Int32) (c_smooth_madeFor : Nat → Int32) (c_smooth_starting : Nat → Int32) (c_smooth_weight : Nat → Int32) : va_W := [(a_t, .inr (5, [.ref a_row, .ref a_work, .ref a_rest, .ref a_bag, .ref a_smooth, .ref a_text, .ref a_saves, .int c_gone])), (a_bag, .inr (0, [.ref a_bag_often, .int c_bag_total])), (a_bag_often, .inl (cI, 6, .inl c_bag_often)), (a_row, .inr (1, [.ref a_row_signs, .int c_row_length])), (a_row_signs, .inl (cI, 11, .inl c_row_signs)), (a_smooth, .inr (3, [.ref a_smooth_madeFor, .ref a_smooth_weight, .ref a_smooth_inCell, .ref a_smooth_all, .ref a_smooth_starting])), (a_smooth_all, .inl (cI, 486, .inl c_smooth_all)), (a_smooth_inCell, .inl (cI, 6, .inl c_smooth_inCell)), (a_smooth_madeFor, .inl (cI, 6, .inl c_smooth_madeFor)), (a_smooth_starting, .inl (cI, 2916, .inl c_smooth_starting)), (a_smooth_weight, .inl (cI, 6, .inl c_smooth_weight))]
def rm_X5_smoothInBlock : Room := { frames := 4, cells := 0, slots := 0, locals := 92 }
set_option maxHeartbeats 4000000 in
set_option maxRecDepth 100000 in
theorem c_X5_smoothInBlock (l : Launch) (D : va_G) (cI : ClassId) (a_t a_row a_work a_rest a_bag a_smooth a_text a_saves a_bag_often a_row_signs a_smooth_madeFor a_smooth_weight a_smooth_inCell a_smooth_all a_smooth_starting : Nat) (sz : Nat) (c_gone : Int32) (c_bag_total : Int32) (c_bag_often : Nat → Int32) (c_row_length : Int32) (c_row_signs : Nat → Int32) (c_smooth_all : Nat → Int32) (c_smooth_inCell : Nat → Int32) (c_smooth_madeFor : Nat → Int32) (c_smooth_starting : Nat → Int32) (c_smooth_weight : Nat → Int32) (x1 : Int32) (o : Int32 × Int32 × (Nat → Int32) × (Nat → Int32) × (Nat → Int32) × (Nat → Int32) × (Nat → Int32) × (Nat → Int32)) (hF : F_X5_smoothInBlock c_bag_total c_bag_often c_row_length c_row_signs c_smooth_all c_smooth_inCell c_smooth_madeFor c_smooth_starting c_smooth_weight x1 = some o) : Met l yX5_smoothInBlock (Cond.code yX5_smoothInBlock cX5_smoothInBlock 2 (some .int) :: WL) rm_X5_smoothInBlock (preM D [(cI, .int)] (wd_X5_smoothInBlock cI a_t a_row a_work a_rest a_bag a_smooth a_text a_saves a_bag_often a_row_signs a_smooth_madeFor a_smooth_weight a_smooth_inCell a_smooth_all a_smooth_starting c_gone c_bag_total c_bag_often c_row_length c_row_signs c_smooth_all c_smooth_inCell c_smooth_madeFor c_smooth_starting c_smooth_weight) sz [.ref a_t, .int x1]) (postI D o.1 (wd_X5_smoothInBlock cI a_t a_row a_work a_rest a_bag a_smooth a_text a_saves a_bag_often a_row_signs a_smooth_madeFor a_smooth_weight a_smooth_inCell a_smooth_all a_smooth_starting c_gone o.2.1 o.2.2.1 c_row_length c_row_signs o.2.2.2.1 o.2.2.2.2.1 o.2.2.2.2.2.1 o.2.2.2.2.2.2.1 o.2.2.2.2.2.2.2) (wd_X5_smoothInBlock cI a_t a_row a_work a_rest a_bag a_smooth a_text a_saves a_bag_often a_row_signs a_smooth_madeFor a_smooth_weight a_smooth_inCell a_smooth_all a_smooth_starting c_gone c_bag_total c_bag_often c_row_length c_row_signs c_smooth_all c_smooth_inCell c_smooth_madeFor c_smooth_starting c_smooth_weight) sz) 0 0 (va_A (wd_X5_smoothInBlock cI a_t a_row a_work a_rest a_bag a_smooth a_text a_saves a_bag_often a_row_signs a_smooth_madeFor a_smooth_weight a_smooth_inCell a_smooth_all a_smooth_starting c_gone c_bag_total c_bag_often c_row_length c_row_signs c_smooth_all c_smooth_inCell c_smooth_madeFor c_smooth_starting c_smooth_weight) sz) := by
  refine mofI (by decide +kernel) (Nat.le_of_ble_eq_true rfl) ?_
  intro p e s m args below meth c Q A ls hx hb hml hown hts hK hP hD hS hA hG hl hret hsz0
  have hl : lv_has ls 2 [(0, .ref a_t), (1, .int x1)] := hl
  have K55 : ∀ (c_bag_total : Int32) (c_bag_often : Nat → Int32) (c_smooth_all : Nat → Int32) (c_smooth_inCell : Nat → Int32) (c_smooth_madeFor : Nat → Int32) (c_smooth_starting : Nat → Int32) (c_smooth_weight : Nat → Int32) (v2 : Int32)  (H : Heap) (locs : List Loc) (ls : Array Slot), va_P D vwCl (wd_X5_smoothInBlock cI a_t a_row a_work a_rest a_bag a_smooth a_text a_saves a_bag_often a_row_signs a_smooth_madeFor a_smooth_weight a_smooth_inCell a_smooth_all a_smooth_starting c_gone c_bag_total c_bag_often c_row_length c_row_signs c_smooth_all c_smooth_inCell c_smooth_madeFor c_smooth_starting c_smooth_weight) H → va_D A (wd_X5_smoothInBlock cI a_t a_row a_work a_rest a_bag a_smooth a_text a_saves a_bag_often a_row_signs a_smooth_madeFor a_smooth_weight a_smooth_inCell a_smooth_all a_smooth_starting c_gone c_bag_total c_bag_often c_row_length c_row_signs c_smooth_all c_smooth_inCell c_smooth_madeFor c_smooth_starting c_smooth_weight) → va_S A s.heap H locs → lv_has ls 2 [] → F_X5_smoothInBlock_J55 c_row_length c_row_signs x1 c_bag_total c_bag_often c_smooth_all c_smooth_inCell c_smooth_madeFor c_smooth_starting c_smooth_weight v2 = some o → W p l e rm_X5_smoothInBlock s m args below meth c H locs 0 0 Q (F0 m 55 ls [.int v2, .ref a_bag, .ref a_smooth]) := by
    intro c_bag_total c_bag_often c_smooth_all c_smooth_inCell c_smooth_madeFor c_smooth_starting c_smooth_weight v2 H locs ls hP hD hS hl hF
    unfold F_X5_smoothInBlock_J55 at hF
    obtain ⟨r55, hr55, hF⟩ := opb hF
    refine kVI (As := [.ref a_bag, .int v2]) (rest := []) (ws' := (wd_X5_smoothInBlock cI a_t a_row a_work a_rest a_bag a_smooth a_text a_saves a_bag_often a_row_signs a_smooth_madeFor a_smooth_weight a_smooth_inCell a_smooth_all a_smooth_starting c_gone c_bag_total c_bag_often c_row_length c_row_signs c_smooth_all c_smooth_inCell c_smooth_madeFor c_smooth_starting c_smooth_weight)) ⟨hx, hb, hml, hown, hts⟩ (c_X3_behind l D cI a_smooth a_bag a_smooth_madeFor a_smooth_weight a_smooth_inCell a_smooth_all a_smooth_starting a_bag_often H.size c_smooth_all c_smooth_starting c_smooth_weight c_bag_total c_bag_often v2 r55 hr55) (cwV 2 hts mw_X5_314 rfl rfl rfl hd_X3_behind ⟨Nat.le_of_ble_eq_true rfl, Nat.le_of_ble_eq_true rfl⟩) hS hA hG hK hP hD [5, 6, 9, 10, 1, 2] rfl rfl rfl rfl rfl ⟨Nat.zero_le _, Nat.zero_le _⟩ 3 5 rfl rfl rfl rfl hl.1 rfl (Nat.le_of_ble_eq_true rfl) dX5_smoothInBlock_55 (fun H locs hP hD hS => ?_)
    have ho := Option.some.inj hF
    exact hret H locs ls 58 r55 _ hP hS (by rw [← ho]) (by rw [← ho]) dX5_smoothInBlock_58
  unfold F_X5_smoothInBlock at hF
  have hP : va_P D vwCl (wd_X5_smoothInBlock cI a_t a_row a_work a_rest a_bag a_smooth a_text a_saves a_bag_often a_row_signs a_smooth_madeFor a_smooth_weight a_smooth_inCell a_smooth_all a_smooth_starting c_gone c_bag_total c_bag_often c_row_length c_row_signs c_smooth_all c_smooth_inCell c_smooth_madeFor c_smooth_starting c_smooth_weight) s.heap := hP
  obtain ⟨H, hH⟩ : ∃ H, H = s.heap := ⟨_, rfl⟩
  rw [← hH]
  rw [← hH] at hP
  obtain ⟨locs, hlo⟩ : ∃ z : List Loc, z = [] := ⟨_, rfl⟩
  rw [← hlo]
  have hS : va_S A s.heap H locs := by rw [hH, hlo]; exact hS
  refine lv_aload_n hx hb dX5_smoothInBlock_0 rfl (lv_at hl 0 rfl) ?_
  refine get_X5_10 hx hb hts hown hK hP 0 rfl rfl dX5_smoothInBlock_1 ?_
  refine lv_iload_n hx hb dX5_smoothInBlock_4 rfl (lv_at hl 1 rfl) ?_
  obtain ⟨r5, hr5, hF⟩ := opb hF
  refine kVI (As := [.int x1]) (rest := []) (ws' := (wd_X5_smoothInBlock cI a_t a_row a_work a_rest a_bag a_smooth a_text a_saves a_bag_often a_row_signs a_smooth_madeFor a_smooth_weight a_smooth_inCell a_smooth_all a_smooth_starting c_gone c_bag_total c_bag_often c_row_length c_row_signs c_smooth_all c_smooth_inCell c_smooth_madeFor c_smooth_starting c_smooth_weight)) ⟨hx, hb, hml, hown, hts⟩ (c_X1_isSmooth l D cI a_row a_row_signs H.size c_row_length c_row_signs x1 r5 hr5) (cwV 1 hts mw_X5_82 rfl rfl rfl hd_X1_isSmooth ⟨Nat.le_of_ble_eq_true rfl, Nat.le_of_ble_eq_true rfl⟩) hS hA hG hK hP hD [3, 4] rfl rfl rfl rfl rfl ⟨Nat.zero_le _, Nat.zero_le _⟩ 1 3 rfl rfl rfl rfl hl.1 rfl (Nat.le_of_ble_eq_true rfl) dX5_smoothInBlock_5 (fun H locs hP hD hS => ?_)
  refine lv_if_ne (tgt := 13) hx hb dX5_smoothInBlock_8 (by decide) (fun k8 => ?_) (fun k8 => ?_)
  · replace hF := (if_neg k8).symm.trans hF
    refine lv_aload_n hx hb dX5_smoothInBlock_13 rfl (lv_at hl 0 rfl) ?_
    obtain ⟨r14, hr14, hF⟩ := opb hF
    refine kVV (As := []) (rest := []) (ws' := (wd_X5_smoothInBlock cI a_t a_row a_work a_rest a_bag a_smooth a_text a_saves a_bag_often a_row_signs a_smooth_madeFor a_smooth_weight a_smooth_inCell a_smooth_all a_smooth_starting c_gone r14.1 r14.2.1 c_row_length c_row_signs r14.2.2.1 r14.2.2.2.1 r14.2.2.2.2.1 r14.2.2.2.2.2.1 r14.2.2.2.2.2.2)) ⟨hx, hb, hml, hown, hts⟩ (c_X5_prepareSmooth l D cI a_t a_row a_work a_rest a_bag a_smooth a_text a_saves a_bag_often a_row_signs a_smooth_madeFor a_smooth_weight a_smooth_inCell a_smooth_all a_smooth_starting H.size c_gone c_bag_total c_bag_often c_row_length c_row_signs c_smooth_all c_smooth_inCell c_smooth_madeFor c_smooth_starting c_smooth_weight  r14 hr14) (cwV 0 hts mw_X5_311 rfl rfl rfl hd_X5_prepareSmooth ⟨Nat.le_of_ble_eq_true rfl, Nat.le_of_ble_eq_true rfl⟩) hS hA hG hK hP hD [0, 1, 2, 3, 4, 5, 6, 7, 8, 9, 10] rfl rfl rfl rfl rfl ⟨Nat.zero_le _, Nat.zero_le _⟩ 5 0 rfl rfl rfl rfl hl.1 rfl (Nat.le_of_ble_eq_true rfl) dX5_smoothInBlock_14 (fun H locs hP hD hS => ?_)
    refine lv_aload_n hx hb dX5_smoothInBlock_17 rfl (lv_at hl 0 rfl) ?_
    refine get_X5_25 hx hb hts hown hK hP 0 rfl rfl dX5_smoothInBlock_18 ?_
    refine lv_aload_n hx hb dX5_smoothInBlock_21 rfl (lv_at hl 0 rfl) ?_
    refine get_X5_10 hx hb hts hown hK hP 0 rfl rfl dX5_smoothInBlock_22 ?_
    refine lv_iload_n hx hb dX5_smoothInBlock_25 rfl (lv_at hl 1 rfl) ?_
    obtain ⟨r26, hr26, hF⟩ := opb hF
    refine kVV (As := [.ref a_row, .int x1]) (rest := []) (ws' := (wd_X5_smoothInBlock cI a_t a_row a_work a_rest a_bag a_smooth a_text a_saves a_bag_often a_row_signs a_smooth_madeFor a_smooth_weight a_smooth_inCell a_smooth_all a_smooth_starting c_gone r26.1 r26.2 c_row_length c_row_signs r14.2.2.1 r14.2.2.2.1 r14.2.2.2.2.1 r14.2.2.2.2.2.1 r14.2.2.2.2.2.2)) ⟨hx, hb, hml, hown, hts⟩ (c_X0_fill l D cI a_bag a_row a_bag_often a_row_signs H.size r14.1 r14.2.1 c_row_length c_row_signs x1 r26 hr26) (cwV 2 hts mw_X5_171 rfl rfl rfl hd_X0_fill ⟨Nat.le_of_ble_eq_true rfl, Nat.le_of_ble_eq_true rfl⟩) hS hA hG hK hP hD [1, 2, 3, 4] rfl rfl rfl rfl rfl ⟨Nat.zero_le _, Nat.zero_le _⟩ 0 1 rfl rfl rfl rfl hl.1 rfl (Nat.le_of_ble_eq_true rfl) dX5_smoothInBlock_26 (fun H locs hP hD hS => ?_)
    refine lv_aload_n hx hb dX5_smoothInBlock_29 rfl (lv_at hl 0 rfl) ?_
    refine get_X5_32 hx hb hts hown hK hP 0 rfl rfl dX5_smoothInBlock_30 ?_
    refine lv_aload_n hx hb dX5_smoothInBlock_33 rfl (lv_at hl 0 rfl) ?_
    refine get_X5_25 hx hb hts hown hK hP 0 rfl rfl dX5_smoothInBlock_34 ?_
    refine lv_iload_n hx hb dX5_smoothInBlock_37 rfl (lv_at hl 1 rfl) ?_
    refine lv_if_le (tgt := 54) hx hb dX5_smoothInBlock_38 (by decide) (fun k38 => ?_) (fun k38 => ?_)
    · replace hF := (if_pos k38).symm.trans hF
      refine lv_iconst (v := (-1)) hx hb dX5_smoothInBlock_54 (by decide) ?_
      exact K55 r26.1 r26.2 r14.2.2.1 r14.2.2.2.1 r14.2.2.2.2.1 r14.2.2.2.2.2.1 r14.2.2.2.2.2.2 ((-1) : Int32) H locs ls hP hD hS (lv_sub hl [] rfl) hF
    · replace hF := (if_neg k38).symm.trans hF
      refine lv_aload_n hx hb dX5_smoothInBlock_41 rfl (lv_at hl 0 rfl) ?_
      refine get_X5_10 hx hb hts hown hK hP 0 rfl rfl dX5_smoothInBlock_42 ?_
      refine lv_iload_n hx hb dX5_smoothInBlock_45 rfl (lv_at hl 1 rfl) ?_
      refine lv_iconst (v := 1) hx hb dX5_smoothInBlock_46 (by decide) ?_
      refine lv_isub hx hb dX5_smoothInBlock_47 ?_
      obtain ⟨r48, hr48, hF⟩ := opb hF
      refine kVI (As := [.int (x1 - (1 : Int32))]) (rest := [.ref a_bag, .ref a_smooth]) (ws' := (wd_X5_smoothInBlock cI a_t a_row a_work a_rest a_bag a_smooth a_text a_saves a_bag_often a_row_signs a_smooth_madeFor a_smooth_weight a_smooth_inCell a_smooth_all a_smooth_starting c_gone r26.1 r26.2 c_row_length c_row_signs r14.2.2.1 r14.2.2.2.1 r14.2.2.2.2.1 r14.2.2.2.2.2.1 r14.2.2.2.2.2.2)) ⟨hx, hb, hml, hown, hts⟩ (c_X1_at l D cI a_row a_row_signs H.size c_row_length c_row_signs (x1 - (1 : Int32)) r48 hr48) (cwV 1 hts mw_X5_137 rfl rfl rfl hd_X1_at ⟨Nat.le_of_ble_eq_true rfl, Nat.le_of_ble_eq_true rfl⟩) hS hA hG hK hP hD [3, 4] rfl rfl rfl rfl rfl ⟨Nat.zero_le _, Nat.zero_le _⟩ 1 3 rfl rfl rfl rfl hl.1 rfl (Nat.le_of_ble_eq_true rfl) dX5_smoothInBlock_48 (fun H locs hP hD hS => ?_)
      refine lv_goto (tgt := 55) hx hb dX5_smoothInBlock_51 (by decide) ?_
      exact K55 r26.1 r26.2 r14.2.2.1 r14.2.2.2.1 r14.2.2.2.2.1 r14.2.2.2.2.2.1 r14.2.2.2.2.2.2 r48 H locs ls hP hD hS (lv_sub hl [] rfl) hF
  · replace hF := (if_pos k8).symm.trans hF
    refine lv_iconst (v := 0) hx hb dX5_smoothInBlock_11 (by decide) ?_
    have ho := Option.some.inj hF
    exact hret H locs ls 12 (0 : Int32) _ hP hS (by rw [← ho]) (by rw [← ho]) dX5_smoothInBlock_12
abbrev wd_X5_allSmooth (cI : ClassId) (a_t a_row a_work a_rest a_bag a_smooth a_text a_saves a_bag_often a_row_signs a_smooth_madeFor a_smooth_weight a_smooth_inCell a_smooth_all a_smooth_starting : Nat) (c_gone : Int32) (c_bag_total : Int32) (c_bag_often : Nat → Int32) (c_row_length : Int32) (c_row_signs : Nat → Int32) (c_smooth_all : Nat → Int32) (c_smooth_inCell : Nat → Int32) (c_smooth_madeFor : Nat → Int32) (c_smooth_starting : Nat → Int32) (c_smooth_weight : Nat → Int32) : va_W := [(a_t, .inr (5, [.ref a_row, .ref a_work, .ref a_rest, .ref a_bag, .ref a_smooth, .ref a_text, .ref a_saves, .int c_gone])), (a_bag, .inr (0, [.ref a_bag_often, .int c_bag_total])), (a_bag_often, .inl (cI, 6, .inl c_bag_often)), (a_row, .inr (1, [.ref a_row_signs, .int c_row_length])), (a_row_signs, .inl (cI, 11, .inl c_row_signs)), (a_smooth, .inr (3, [.ref a_smooth_madeFor, .ref a_smooth_weight, .ref a_smooth_inCell, .ref a_smooth_all, .ref a_smooth_starting])), (a_smooth_all, .inl (cI, 486, .inl c_smooth_all)), (a_smooth_inCell, .inl (cI, 6, .inl c_smooth_inCell)), (a_smooth_madeFor, .inl (cI, 6, .inl c_smooth_madeFor)), (a_smooth_starting, .inl (cI, 2916, .inl c_smooth_starting)), (a_smooth_weight, .inl (cI, 6, .inl c_smooth_weight))]
def rm_X5_allSmooth : Room := { frames := 5, cells := 0, slots := 0, locals := 113 }
set_option maxHeartbeats 4000000 in
set_option maxRecDepth 100000 in
theorem c_X5_allSmooth (l : Launch) (D : va_G) (cI : ClassId) (a_t a_row a_work a_rest a_bag a_smooth a_text a_saves a_bag_often a_row_signs a_smooth_madeFor a_smooth_weight a_smooth_inCell a_smooth_all a_smooth_starting : Nat) (sz : Nat) (c_gone : Int32) (c_bag_total : Int32) (c_bag_often : Nat → Int32) (c_row_length : Int32) (c_row_signs : Nat → Int32) (c_smooth_all : Nat → Int32) (c_smooth_inCell : Nat → Int32) (c_smooth_madeFor : Nat → Int32) (c_smooth_starting : Nat → Int32) (c_smooth_weight : Nat → Int32) (o : Int32 × Int32 × (Nat → Int32) × (Nat → Int32) × (Nat → Int32) × (Nat → Int32) × (Nat → Int32) × (Nat → Int32)) (hF : F_X5_allSmooth c_bag_total c_bag_often c_row_length c_row_signs c_smooth_all c_smooth_inCell c_smooth_madeFor c_smooth_starting c_smooth_weight = some o) : Met l yX5_allSmooth (Cond.code yX5_allSmooth cX5_allSmooth 1 (some .int) :: WL) rm_X5_allSmooth (preM D [(cI, .int)] (wd_X5_allSmooth cI a_t a_row a_work a_rest a_bag a_smooth a_text a_saves a_bag_often a_row_signs a_smooth_madeFor a_smooth_weight a_smooth_inCell a_smooth_all a_smooth_starting c_gone c_bag_total c_bag_often c_row_length c_row_signs c_smooth_all c_smooth_inCell c_smooth_madeFor c_smooth_starting c_smooth_weight) sz [.ref a_t]) (postI D o.1 (wd_X5_allSmooth cI a_t a_row a_work a_rest a_bag a_smooth a_text a_saves a_bag_often a_row_signs a_smooth_madeFor a_smooth_weight a_smooth_inCell a_smooth_all a_smooth_starting c_gone o.2.1 o.2.2.1 c_row_length c_row_signs o.2.2.2.1 o.2.2.2.2.1 o.2.2.2.2.2.1 o.2.2.2.2.2.2.1 o.2.2.2.2.2.2.2) (wd_X5_allSmooth cI a_t a_row a_work a_rest a_bag a_smooth a_text a_saves a_bag_often a_row_signs a_smooth_madeFor a_smooth_weight a_smooth_inCell a_smooth_all a_smooth_starting c_gone c_bag_total c_bag_often c_row_length c_row_signs c_smooth_all c_smooth_inCell c_smooth_madeFor c_smooth_starting c_smooth_weight) sz) 0 0 (va_A (wd_X5_allSmooth cI a_t a_row a_work a_rest a_bag a_smooth a_text a_saves a_bag_often a_row_signs a_smooth_madeFor a_smooth_weight a_smooth_inCell a_smooth_all a_smooth_starting c_gone c_bag_total c_bag_often c_row_length c_row_signs c_smooth_all c_smooth_inCell c_smooth_madeFor c_smooth_starting c_smooth_weight) sz) := by
  refine mofI (by decide +kernel) (Nat.le_of_ble_eq_true rfl) ?_
  intro p e s m args below meth c Q A ls hx hb hml hown hts hK hP hD hS hA hG hl hret hsz0
  have hl : lv_has ls 1 [(0, .ref a_t)] := hl
  unfold F_X5_allSmooth at hF
  have hP : va_P D vwCl (wd_X5_allSmooth cI a_t a_row a_work a_rest a_bag a_smooth a_text a_saves a_bag_often a_row_signs a_smooth_madeFor a_smooth_weight a_smooth_inCell a_smooth_all a_smooth_starting c_gone c_bag_total c_bag_often c_row_length c_row_signs c_smooth_all c_smooth_inCell c_smooth_madeFor c_smooth_starting c_smooth_weight) s.heap := hP
  obtain ⟨H, hH⟩ : ∃ H, H = s.heap := ⟨_, rfl⟩
  rw [← hH]
  rw [← hH] at hP
  obtain ⟨locs, hlo⟩ : ∃ z : List Loc, z = [] := ⟨_, rfl⟩
  rw [← hlo]
  have hS : va_S A s.heap H locs := by rw [hH, hlo]; exact hS
  refine lv_aload_n hx hb dX5_allSmooth_0 rfl (lv_at hl 0 rfl) ?_
  refine lv_iconst (v := 0) hx hb dX5_allSmooth_1 (by decide) ?_
  obtain ⟨r2, hr2, hF⟩ := opb hF
  refine kVI (As := [.int (0 : Int32)]) (rest := []) (ws' := (wd_X5_allSmooth cI a_t a_row a_work a_rest a_bag a_smooth a_text a_saves a_bag_often a_row_signs a_smooth_madeFor a_smooth_weight a_smooth_inCell a_smooth_all a_smooth_starting c_gone r2.2.1 r2.2.2.1 c_row_length c_row_signs r2.2.2.2.1 r2.2.2.2.2.1 r2.2.2.2.2.2.1 r2.2.2.2.2.2.2.1 r2.2.2.2.2.2.2.2)) ⟨hx, hb, hml, hown, hts⟩ (c_X5_smoothInBlock l D cI a_t a_row a_work a_rest a_bag a_smooth a_text a_saves a_bag_often a_row_signs a_smooth_madeFor a_smooth_weight a_smooth_inCell a_smooth_all a_smooth_starting H.size c_gone c_bag_total c_bag_often c_row_length c_row_signs c_smooth_all c_smooth_inCell c_smooth_madeFor c_smooth_starting c_smooth_weight (0 : Int32) r2 hr2) (cwV 1 hts mw_X5_188 rfl rfl rfl hd_X5_smoothInBlock ⟨Nat.le_of_ble_eq_true rfl, Nat.le_of_ble_eq_true rfl⟩) hS hA hG hK hP hD [0, 1, 2, 3, 4, 5, 6, 7, 8, 9, 10] rfl rfl rfl rfl rfl ⟨Nat.zero_le _, Nat.zero_le _⟩ 5 0 rfl rfl rfl rfl hl.1 rfl (Nat.le_of_ble_eq_true rfl) dX5_allSmooth_2 (fun H locs hP hD hS => ?_)
  have ho := Option.some.inj hF
  exact hret H locs ls 5 r2.1 _ hP hS (by rw [← ho]) (by rw [← ho]) dX5_allSmooth_5
abbrev wd_X5_layOutSmooth (cI : ClassId) (a_t a_row a_work a_rest a_bag a_smooth a_text a_saves a_bag_often a_row_signs a_smooth_madeFor a_smooth_weight a_smooth_inCell a_smooth_all a_smooth_starting a_work_signs : Nat) (c_gone : Int32) (c_bag_total : Int32) (c_bag_often : Nat → Int32) (c_row_length : Int32) (c_row_signs : Nat → Int32) (c_smooth_all : Nat → Int32) (c_smooth_inCell : Nat → Int32) (c_smooth_madeFor : Nat → Int32) (c_smooth_starting : Nat → Int32) (c_smooth_weight : Nat → Int32) (c_work_length : Int32) (c_work_signs : Nat → Int32) : va_W := [(a_t, .inr (5, [.ref a_row, .ref a_work, .ref a_rest, .ref a_bag, .ref a_smooth, .ref a_text, .ref a_saves, .int c_gone])), (a_bag, .inr (0, [.ref a_bag_often, .int c_bag_total])), (a_bag_often, .inl (cI, 6, .inl c_bag_often)), (a_row, .inr (1, [.ref a_row_signs, .int c_row_length])), (a_row_signs, .inl (cI, 11, .inl c_row_signs)), (a_smooth, .inr (3, [.ref a_smooth_madeFor, .ref a_smooth_weight, .ref a_smooth_inCell, .ref a_smooth_all, .ref a_smooth_starting])), (a_smooth_all, .inl (cI, 486, .inl c_smooth_all)), (a_smooth_inCell, .inl (cI, 6, .inl c_smooth_inCell)), (a_smooth_madeFor, .inl (cI, 6, .inl c_smooth_madeFor)), (a_smooth_starting, .inl (cI, 2916, .inl c_smooth_starting)), (a_smooth_weight, .inl (cI, 6, .inl c_smooth_weight)), (a_work, .inr (1, [.ref a_work_signs, .int c_work_length])), (a_work_signs, .inl (cI, 11, .inl c_work_signs))]
def rm_X5_layOutSmooth : Room := { frames := 4, cells := 0, slots := 0, locals := 92 }
set_option maxHeartbeats 4000000 in
set_option maxRecDepth 100000 in
theorem c_X5_layOutSmooth (l : Launch) (D : va_G) (cI : ClassId) (a_t a_row a_work a_rest a_bag a_smooth a_text a_saves a_bag_often a_row_signs a_smooth_madeFor a_smooth_weight a_smooth_inCell a_smooth_all a_smooth_starting a_work_signs : Nat) (sz : Nat) (c_gone : Int32) (c_bag_total : Int32) (c_bag_often : Nat → Int32) (c_row_length : Int32) (c_row_signs : Nat → Int32) (c_smooth_all : Nat → Int32) (c_smooth_inCell : Nat → Int32) (c_smooth_madeFor : Nat → Int32) (c_smooth_starting : Nat → Int32) (c_smooth_weight : Nat → Int32) (c_work_length : Int32) (c_work_signs : Nat → Int32) (x1 : Int32) (o : Int32 × (Nat → Int32) × (Nat → Int32) × (Nat → Int32) × (Nat → Int32) × (Nat → Int32) × (Nat → Int32) × Int32 × (Nat → Int32)) (hF : F_X5_layOutSmooth c_bag_total c_bag_often c_row_length c_row_signs c_smooth_all c_smooth_inCell c_smooth_madeFor c_smooth_starting c_smooth_weight c_work_length c_work_signs x1 = some o) : Met l yX5_layOutSmooth (Cond.code yX5_layOutSmooth cX5_layOutSmooth 7 none :: WL) rm_X5_layOutSmooth (preM D [(cI, .int)] (wd_X5_layOutSmooth cI a_t a_row a_work a_rest a_bag a_smooth a_text a_saves a_bag_often a_row_signs a_smooth_madeFor a_smooth_weight a_smooth_inCell a_smooth_all a_smooth_starting a_work_signs c_gone c_bag_total c_bag_often c_row_length c_row_signs c_smooth_all c_smooth_inCell c_smooth_madeFor c_smooth_starting c_smooth_weight c_work_length c_work_signs) sz [.ref a_t, .int x1]) (postV D (wd_X5_layOutSmooth cI a_t a_row a_work a_rest a_bag a_smooth a_text a_saves a_bag_often a_row_signs a_smooth_madeFor a_smooth_weight a_smooth_inCell a_smooth_all a_smooth_starting a_work_signs c_gone o.1 o.2.1 c_row_length c_row_signs o.2.2.1 o.2.2.2.1 o.2.2.2.2.1 o.2.2.2.2.2.1 o.2.2.2.2.2.2.1 o.2.2.2.2.2.2.2.1 o.2.2.2.2.2.2.2.2) (wd_X5_layOutSmooth cI a_t a_row a_work a_rest a_bag a_smooth a_text a_saves a_bag_often a_row_signs a_smooth_madeFor a_smooth_weight a_smooth_inCell a_smooth_all a_smooth_starting a_work_signs c_gone c_bag_total c_bag_often c_row_length c_row_signs c_smooth_all c_smooth_inCell c_smooth_madeFor c_smooth_starting c_smooth_weight c_work_length c_work_signs) sz) 0 0 (va_A (wd_X5_layOutSmooth cI a_t a_row a_work a_rest a_bag a_smooth a_text a_saves a_bag_often a_row_signs a_smooth_madeFor a_smooth_weight a_smooth_inCell a_smooth_all a_smooth_starting a_work_signs c_gone c_bag_total c_bag_often c_row_length c_row_signs c_smooth_all c_smooth_inCell c_smooth_madeFor c_smooth_starting c_smooth_weight c_work_length c_work_signs) sz) := by
  refine mofV (by decide +kernel) (Nat.le_of_ble_eq_true rfl) ?_
  intro p e s m args below meth c Q A ls hx hb hml hown hts hK hP hD hS hA hG hl hret hsz0
  have hl : lv_has ls 7 [(0, .ref a_t), (1, .int x1)] := hl
  have K18 : ∀ (n18 : Nat) (c_bag_total : Int32) (c_bag_often : Nat → Int32) (c_smooth_all : Nat → Int32) (c_smooth_inCell : Nat → Int32) (c_smooth_madeFor : Nat → Int32) (c_smooth_starting : Nat → Int32) (c_smooth_weight : Nat → Int32) (c_work_length : Int32) (c_work_signs : Nat → Int32) (x2 : Int32) (x3 : Int32) (x4 : Int32) (H : Heap) (locs : List Loc) (ls : Array Slot), va_P D vwCl (wd_X5_layOutSmooth cI a_t a_row a_work a_rest a_bag a_smooth a_text a_saves a_bag_often a_row_signs a_smooth_madeFor a_smooth_weight a_smooth_inCell a_smooth_all a_smooth_starting a_work_signs c_gone c_bag_total c_bag_often c_row_length c_row_signs c_smooth_all c_smooth_inCell c_smooth_madeFor c_smooth_starting c_smooth_weight c_work_length c_work_signs) H → va_D A (wd_X5_layOutSmooth cI a_t a_row a_work a_rest a_bag a_smooth a_text a_saves a_bag_often a_row_signs a_smooth_madeFor a_smooth_weight a_smooth_inCell a_smooth_all a_smooth_starting a_work_signs c_gone c_bag_total c_bag_often c_row_length c_row_signs c_smooth_all c_smooth_inCell c_smooth_madeFor c_smooth_starting c_smooth_weight c_work_length c_work_signs) → va_S A s.heap H locs → lv_has ls 7 [(0, .ref a_t), (2, .int x2), (3, .int x3), (4, .int x4)] → F_X5_layOutSmooth_L18 c_row_length c_row_signs x1 n18 c_bag_total c_bag_often c_smooth_all c_smooth_inCell c_smooth_madeFor c_smooth_starting c_smooth_weight c_work_length c_work_signs x2 x3 x4 = some o → W p l e rm_X5_layOutSmooth s m args below meth c H locs 0 0 Q (F0 m 18 ls []) := by
    intro n18
    induction n18 with
    | zero => intro c_bag_total c_bag_often c_smooth_all c_smooth_inCell c_smooth_madeFor c_smooth_starting c_smooth_weight c_work_length c_work_signs x2 x3 x4 H locs ls hP hD hS hl hF; exact nos hF
    | succ n18 ih18 =>
      have K106 : ∀ (c_bag_total : Int32) (c_bag_often : Nat → Int32) (c_smooth_all : Nat → Int32) (c_smooth_inCell : Nat → Int32) (c_smooth_madeFor : Nat → Int32) (c_smooth_starting : Nat → Int32) (c_smooth_weight : Nat → Int32) (c_work_length : Int32) (c_work_signs : Nat → Int32) (x2 : Int32) (x4 : Int32) (x5 : Int32)  (H : Heap) (locs : List Loc) (ls : Array Slot), va_P D vwCl (wd_X5_layOutSmooth cI a_t a_row a_work a_rest a_bag a_smooth a_text a_saves a_bag_often a_row_signs a_smooth_madeFor a_smooth_weight a_smooth_inCell a_smooth_all a_smooth_starting a_work_signs c_gone c_bag_total c_bag_often c_row_length c_row_signs c_smooth_all c_smooth_inCell c_smooth_madeFor c_smooth_starting c_smooth_weight c_work_length c_work_signs) H → va_D A (wd_X5_layOutSmooth cI a_t a_row a_work a_rest a_bag a_smooth a_text a_saves a_bag_often a_row_signs a_smooth_madeFor a_smooth_weight a_smooth_inCell a_smooth_all a_smooth_starting a_work_signs c_gone c_bag_total c_bag_often c_row_length c_row_signs c_smooth_all c_smooth_inCell c_smooth_madeFor c_smooth_starting c_smooth_weight c_work_length c_work_signs) → va_S A s.heap H locs → lv_has ls 7 [(0, .ref a_t), (2, .int x2), (4, .int x4), (5, .int x5)] → F_X5_layOutSmooth_J106 (F_X5_layOutSmooth_L18 c_row_length c_row_signs x1 n18) c_row_length c_row_signs x1 c_bag_total c_bag_often c_smooth_all c_smooth_inCell c_smooth_madeFor c_smooth_starting c_smooth_weight c_work_length c_work_signs x2 x4 x5 = some o → W p l e rm_X5_layOutSmooth s m args below meth c H locs 0 0 Q (F0 m 106 ls []) := by
        intro c_bag_total c_bag_often c_smooth_all c_smooth_inCell c_smooth_madeFor c_smooth_starting c_smooth_weight c_work_length c_work_signs x2 x4 x5 H locs ls hP hD hS hl hF
        unfold F_X5_layOutSmooth_J106 at hF
        refine lv_aload_n hx hb dX5_layOutSmooth_106 rfl (lv_at hl 0 rfl) ?_
        refine get_X5_16 hx hb hts hown hK hP 0 rfl rfl dX5_layOutSmooth_107 ?_
        refine lv_iload hx hb dX5_layOutSmooth_110 (lv_at hl 3 rfl) ?_
        obtain ⟨r112, hr112, hF⟩ := opb hF
        refine kVV (As := [.int x5]) (rest := []) (ws' := (wd_X5_layOutSmooth cI a_t a_row a_work a_rest a_bag a_smooth a_text a_saves a_bag_often a_row_signs a_smooth_madeFor a_smooth_weight a_smooth_inCell a_smooth_all a_smooth_starting a_work_signs c_gone c_bag_total c_bag_often c_row_length c_row_signs c_smooth_all c_smooth_inCell c_smooth_madeFor c_smooth_starting c_smooth_weight r112.1 r112.2)) ⟨hx, hb, hml, hown, hts⟩ (c_X1_add l D cI a_work a_work_signs H.size c_work_length c_work_signs x5 r112 hr112) (cwV 1 hts mw_X5_50 rfl rfl rfl hd_X1_add ⟨Nat.le_of_ble_eq_true rfl, Nat.le_of_ble_eq_true rfl⟩) hS hA hG hK hP hD [11, 12] rfl rfl rfl rfl rfl ⟨Nat.zero_le _, Nat.zero_le _⟩ 1 11 rfl rfl rfl rfl hl.1 rfl (Nat.le_of_ble_eq_true rfl) dX5_layOutSmooth_112 (fun H locs hP hD hS => ?_)
        refine lv_aload_n hx hb dX5_layOutSmooth_115 rfl (lv_at hl 0 rfl) ?_
        refine get_X5_25 hx hb hts hown hK hP 0 rfl rfl dX5_layOutSmooth_116 ?_
        refine lv_iload hx hb dX5_layOutSmooth_119 (lv_at hl 3 rfl) ?_
        obtain ⟨r121, hr121, hF⟩ := opb hF
        refine kVV (As := [.int x5]) (rest := []) (ws' := (wd_X5_layOutSmooth cI a_t a_row a_work a_rest a_bag a_smooth a_text a_saves a_bag_often a_row_signs a_smooth_madeFor a_smooth_weight a_smooth_inCell a_smooth_all a_smooth_starting a_work_signs c_gone r121.1 r121.2 c_row_length c_row_signs c_smooth_all c_smooth_inCell c_smooth_madeFor c_smooth_starting c_smooth_weight r112.1 r112.2)) ⟨hx, hb, hml, hown, hts⟩ (c_X0_drop l D cI a_bag a_bag_often H.size c_bag_total c_bag_often x5 r121 hr121) (cwV 1 hts mw_X5_301 rfl rfl rfl hd_X0_drop ⟨Nat.le_of_ble_eq_true rfl, Nat.le_of_ble_eq_true rfl⟩) hS hA hG hK hP hD [1, 2] rfl rfl rfl rfl rfl ⟨Nat.zero_le _, Nat.zero_le _⟩ 0 1 rfl rfl rfl rfl hl.1 rfl (Nat.le_of_ble_eq_true rfl) dX5_layOutSmooth_121 (fun H locs hP hD hS => ?_)
        refine lv_iload hx hb dX5_layOutSmooth_124 (lv_at hl 3 rfl) ?_
        refine lv_istore_n (lv' := [(3, .int x5), (0, .ref a_t), (2, .int x2), (4, .int x4), (5, .int x5)]) hx hb dX5_layOutSmooth_126 rfl hl (by decide) rfl (fun ls hl => ?_)
        refine lv_iinc (v := x4 + 1) (lv' := [(4, .int (x4 + 1)), (3, .int x5), (0, .ref a_t), (2, .int x2), (5, .int x5)]) hx hb dX5_layOutSmooth_127 hl (k := 3) rfl rfl (by decide) rfl (fun ls hl => ?_)
        refine lv_goto (tgt := 18) hx hb dX5_layOutSmooth_130 (by decide) ?_
        exact ih18 r121.1 r121.2 c_smooth_all c_smooth_inCell c_smooth_madeFor c_smooth_starting c_smooth_weight r112.1 r112.2 x2 x5 (x4 + 1) H locs ls hP hD hS (lv_sub hl [2, 3, 1, 0] rfl) hF
      have K58 : ∀ (n58 : Nat) (c_bag_total : Int32) (c_bag_often : Nat → Int32) (c_smooth_all : Nat → Int32) (c_smooth_inCell : Nat → Int32) (c_smooth_madeFor : Nat → Int32) (c_smooth_starting : Nat → Int32) (c_smooth_weight : Nat → Int32) (c_work_length : Int32) (c_work_signs : Nat → Int32) (x2 : Int32) (x3 : Int32) (x4 : Int32) (x5 : Int32) (x6 : Int32) (H : Heap) (locs : List Loc) (ls : Array Slot), va_P D vwCl (wd_X5_layOutSmooth cI a_t a_row a_work a_rest a_bag a_smooth a_text a_saves a_bag_often a_row_signs a_smooth_madeFor a_smooth_weight a_smooth_inCell a_smooth_all a_smooth_starting a_work_signs c_gone c_bag_total c_bag_often c_row_length c_row_signs c_smooth_all c_smooth_inCell c_smooth_madeFor c_smooth_starting c_smooth_weight c_work_length c_work_signs) H → va_D A (wd_X5_layOutSmooth cI a_t a_row a_work a_rest a_bag a_smooth a_text a_saves a_bag_often a_row_signs a_smooth_madeFor a_smooth_weight a_smooth_inCell a_smooth_all a_smooth_starting a_work_signs c_gone c_bag_total c_bag_often c_row_length c_row_signs c_smooth_all c_smooth_inCell c_smooth_madeFor c_smooth_starting c_smooth_weight c_work_length c_work_signs) → va_S A s.heap H locs → lv_has ls 7 [(0, .ref a_t), (2, .int x2), (3, .int x3), (4, .int x4), (5, .int x5), (6, .int x6)] → F_X5_layOutSmooth_L58 (F_X5_layOutSmooth_L18 c_row_length c_row_signs x1 n18) c_row_length c_row_signs x1 n58 c_bag_total c_bag_often c_smooth_all c_smooth_inCell c_smooth_madeFor c_smooth_starting c_smooth_weight c_work_length c_work_signs x2 x3 x4 x5 x6 = some o → W p l e rm_X5_layOutSmooth s m args below meth c H locs 0 0 Q (F0 m 58 ls []) := by
        intro n58
        induction n58 with
        | zero => intro c_bag_total c_bag_often c_smooth_all c_smooth_inCell c_smooth_madeFor c_smooth_starting c_smooth_weight c_work_length c_work_signs x2 x3 x4 x5 x6 H locs ls hP hD hS hl hF; exact nos hF
        | succ n58 ih58 =>
          intro c_bag_total c_bag_often c_smooth_all c_smooth_inCell c_smooth_madeFor c_smooth_starting c_smooth_weight c_work_length c_work_signs x2 x3 x4 x5 x6 H locs ls hP hD hS hl hF
          rw [F_X5_layOutSmooth_L58] at hF
          refine lv_iload hx hb dX5_layOutSmooth_58 (lv_at hl 4 rfl) ?_
          refine lv_iconst (v := 5) hx hb dX5_layOutSmooth_60 (by decide) ?_
          refine lv_icmp_ge (tgt := 106) hx hb dX5_layOutSmooth_61 (by decide) (fun k61 => ?_) (fun k61 => ?_)
          · replace hF := (if_pos k61).symm.trans hF
            exact K106 c_bag_total c_bag_often c_smooth_all c_smooth_inCell c_smooth_madeFor c_smooth_starting c_smooth_weight c_work_length c_work_signs x2 x4 x5 H locs ls hP hD hS (lv_sub hl [0, 1, 3, 4] rfl) hF
          · replace hF := (if_neg k61).symm.trans hF
            refine lv_iload_n hx hb dX5_layOutSmooth_64 rfl (lv_at hl 1 rfl) ?_
            refine lv_iload hx hb dX5_layOutSmooth_65 (lv_at hl 5 rfl) ?_
            refine lv_icmp_lt (tgt := 106) hx hb dX5_layOutSmooth_67 (by decide) (fun k67 => ?_) (fun k67 => ?_)
            · replace hF := (if_pos k67).symm.trans hF
              exact K106 c_bag_total c_bag_often c_smooth_all c_smooth_inCell c_smooth_madeFor c_smooth_starting c_smooth_weight c_work_length c_work_signs x2 x4 x5 H locs ls hP hD hS (lv_sub hl [0, 1, 3, 4] rfl) hF
            · replace hF := (if_neg k67).symm.trans hF
              refine lv_iload_n hx hb dX5_layOutSmooth_70 rfl (lv_at hl 1 rfl) ?_
              refine lv_iload hx hb dX5_layOutSmooth_71 (lv_at hl 5 rfl) ?_
              refine lv_isub hx hb dX5_layOutSmooth_73 ?_
              refine lv_istore_n (lv' := [(2, .int (x2 - x6)), (0, .ref a_t), (3, .int x3), (4, .int x4), (5, .int x5), (6, .int x6)]) hx hb dX5_layOutSmooth_74 rfl hl (by decide) rfl (fun ls hl => ?_)
              refine lv_iinc (v := x5 + 1) (lv' := [(5, .int (x5 + 1)), (2, .int (x2 - x6)), (0, .ref a_t), (3, .int x3), (4, .int x4), (6, .int x6)]) hx hb dX5_layOutSmooth_75 hl (k := 4) rfl rfl (by decide) rfl (fun ls hl => ?_)
              refine lv_iload_n hx hb dX5_layOutSmooth_78 rfl (lv_at hl 3 rfl) ?_
              refine lv_iload hx hb dX5_layOutSmooth_79 (lv_at hl 0 rfl) ?_
              refine lv_icmp_ne (tgt := 88) hx hb dX5_layOutSmooth_81 (by decide) (fun k81 => ?_) (fun k81 => ?_)
              · replace hF := (if_neg k81).symm.trans hF
                refine lv_aload_n hx hb dX5_layOutSmooth_88 rfl (lv_at hl 2 rfl) ?_
                refine get_X5_32 hx hb hts hown hK hP 0 rfl rfl dX5_layOutSmooth_89 ?_
                refine lv_aload_n hx hb dX5_layOutSmooth_92 rfl (lv_at hl 2 rfl) ?_
                refine get_X5_25 hx hb hts hown hK hP 0 rfl rfl dX5_layOutSmooth_93 ?_
                refine lv_iload hx hb dX5_layOutSmooth_96 (lv_at hl 0 rfl) ?_
                obtain ⟨r98, hr98, hF⟩ := opb hF
                refine kVI (As := [.ref a_bag, .int (x5 + 1)]) (rest := []) (ws' := (wd_X5_layOutSmooth cI a_t a_row a_work a_rest a_bag a_smooth a_text a_saves a_bag_often a_row_signs a_smooth_madeFor a_smooth_weight a_smooth_inCell a_smooth_all a_smooth_starting a_work_signs c_gone c_bag_total c_bag_often c_row_length c_row_signs c_smooth_all c_smooth_inCell c_smooth_madeFor c_smooth_starting c_smooth_weight c_work_length c_work_signs)) ⟨hx, hb, hml, hown, hts⟩ (c_X3_startingWith l D cI a_smooth a_bag a_smooth_madeFor a_smooth_weight a_smooth_inCell a_smooth_all a_smooth_starting a_bag_often H.size c_smooth_starting c_smooth_weight c_bag_total c_bag_often (x5 + 1) r98 hr98) (cwV 2 hts mw_X5_318 rfl rfl rfl hd_X3_startingWith ⟨Nat.le_of_ble_eq_true rfl, Nat.le_of_ble_eq_true rfl⟩) hS hA hG hK hP hD [5, 9, 10, 1, 2] rfl rfl rfl rfl rfl ⟨Nat.zero_le _, Nat.zero_le _⟩ 3 5 rfl rfl rfl rfl hl.1 rfl (Nat.le_of_ble_eq_true rfl) dX5_layOutSmooth_98 (fun H locs hP hD hS => ?_)
                refine lv_istore (lv' := [(6, .int r98), (5, .int (x5 + 1)), (2, .int (x2 - x6)), (0, .ref a_t), (3, .int x3), (4, .int x4)]) hx hb dX5_layOutSmooth_101 hl (by decide) rfl (fun ls hl => ?_)
                refine lv_goto (tgt := 58) hx hb dX5_layOutSmooth_103 (by decide) ?_
                exact ih58 c_bag_total c_bag_often c_smooth_all c_smooth_inCell c_smooth_madeFor c_smooth_starting c_smooth_weight c_work_length c_work_signs (x2 - x6) x3 x4 (x5 + 1) r98 H locs ls hP hD hS (lv_sub hl [3, 2, 4, 5, 1, 0] rfl) hF
              · replace hF := (if_pos k81).symm.trans hF
                refine lv_iconst (v := 0) hx hb dX5_layOutSmooth_84 (by decide) ?_
                refine lv_goto (tgt := 101) hx hb dX5_layOutSmooth_85 (by decide) ?_
                refine lv_istore (lv' := [(6, .int (0 : Int32)), (5, .int (x5 + 1)), (2, .int (x2 - x6)), (0, .ref a_t), (3, .int x3), (4, .int x4)]) hx hb dX5_layOutSmooth_101 hl (by decide) rfl (fun ls hl => ?_)
                refine lv_goto (tgt := 58) hx hb dX5_layOutSmooth_103 (by decide) ?_
                exact ih58 c_bag_total c_bag_often c_smooth_all c_smooth_inCell c_smooth_madeFor c_smooth_starting c_smooth_weight c_work_length c_work_signs (x2 - x6) x3 x4 (x5 + 1) (0 : Int32) H locs ls hP hD hS (lv_sub hl [3, 2, 4, 5, 1, 0] rfl) hF
      intro c_bag_total c_bag_often c_smooth_all c_smooth_inCell c_smooth_madeFor c_smooth_starting c_smooth_weight c_work_length c_work_signs x2 x3 x4 H locs ls hP hD hS hl hF
      rw [F_X5_layOutSmooth_L18] at hF
      refine lv_iload hx hb dX5_layOutSmooth_18 (lv_at hl 3 rfl) ?_
      refine lv_aload_n hx hb dX5_layOutSmooth_20 rfl (lv_at hl 0 rfl) ?_
      refine get_X5_10 hx hb hts hown hK hP 0 rfl rfl dX5_layOutSmooth_21 ?_
      obtain ⟨r24, hr24, hF⟩ := opb hF
      refine kVI (As := []) (rest := [.int x4]) (ws' := (wd_X5_layOutSmooth cI a_t a_row a_work a_rest a_bag a_smooth a_text a_saves a_bag_often a_row_signs a_smooth_madeFor a_smooth_weight a_smooth_inCell a_smooth_all a_smooth_starting a_work_signs c_gone c_bag_total c_bag_often c_row_length c_row_signs c_smooth_all c_smooth_inCell c_smooth_madeFor c_smooth_starting c_smooth_weight c_work_length c_work_signs)) ⟨hx, hb, hml, hown, hts⟩ (c_X1_length l D cI a_row a_row_signs H.size c_row_length  r24 hr24) (cwV 0 hts mw_X5_79 rfl rfl rfl hd_X1_length ⟨Nat.le_of_ble_eq_true rfl, Nat.le_of_ble_eq_true rfl⟩) hS hA hG hK hP hD [3] rfl rfl rfl rfl rfl ⟨Nat.zero_le _, Nat.zero_le _⟩ 1 3 rfl rfl rfl rfl hl.1 rfl (Nat.le_of_ble_eq_true rfl) dX5_layOutSmooth_24 (fun H locs hP hD hS => ?_)
      refine lv_icmp_ge (tgt := 133) hx hb dX5_layOutSmooth_27 (by decide) (fun k27 => ?_) (fun k27 => ?_)
      · replace hF := (if_pos k27).symm.trans hF
        have ho := Option.some.inj hF
        exact hret H locs ls 133 _ hP hS (by rw [← ho]) dX5_layOutSmooth_133
      · replace hF := (if_neg k27).symm.trans hF
        refine lv_iconst (v := 0) hx hb dX5_layOutSmooth_30 (by decide) ?_
        refine lv_istore (lv' := [(5, .int (0 : Int32)), (0, .ref a_t), (2, .int x2), (3, .int x3), (4, .int x4)]) hx hb dX5_layOutSmooth_31 hl (by decide) rfl (fun ls hl => ?_)
        refine lv_iload_n hx hb dX5_layOutSmooth_33 rfl (lv_at hl 3 rfl) ?_
        refine lv_iload hx hb dX5_layOutSmooth_34 (lv_at hl 0 rfl) ?_
        refine lv_icmp_ne (tgt := 43) hx hb dX5_layOutSmooth_36 (by decide) (fun k36 => ?_) (fun k36 => ?_)
        · replace hF := (if_neg k36).symm.trans hF
          refine lv_aload_n hx hb dX5_layOutSmooth_43 rfl (lv_at hl 1 rfl) ?_
          refine get_X5_32 hx hb hts hown hK hP 0 rfl rfl dX5_layOutSmooth_44 ?_
          refine lv_aload_n hx hb dX5_layOutSmooth_47 rfl (lv_at hl 1 rfl) ?_
          refine get_X5_25 hx hb hts hown hK hP 0 rfl rfl dX5_layOutSmooth_48 ?_
          refine lv_iload hx hb dX5_layOutSmooth_51 (lv_at hl 0 rfl) ?_
          obtain ⟨r53, hr53, hF⟩ := opb hF
          refine kVI (As := [.ref a_bag, .int (0 : Int32)]) (rest := []) (ws' := (wd_X5_layOutSmooth cI a_t a_row a_work a_rest a_bag a_smooth a_text a_saves a_bag_often a_row_signs a_smooth_madeFor a_smooth_weight a_smooth_inCell a_smooth_all a_smooth_starting a_work_signs c_gone c_bag_total c_bag_often c_row_length c_row_signs c_smooth_all c_smooth_inCell c_smooth_madeFor c_smooth_starting c_smooth_weight c_work_length c_work_signs)) ⟨hx, hb, hml, hown, hts⟩ (c_X3_startingWith l D cI a_smooth a_bag a_smooth_madeFor a_smooth_weight a_smooth_inCell a_smooth_all a_smooth_starting a_bag_often H.size c_smooth_starting c_smooth_weight c_bag_total c_bag_often (0 : Int32) r53 hr53) (cwV 2 hts mw_X5_318 rfl rfl rfl hd_X3_startingWith ⟨Nat.le_of_ble_eq_true rfl, Nat.le_of_ble_eq_true rfl⟩) hS hA hG hK hP hD [5, 9, 10, 1, 2] rfl rfl rfl rfl rfl ⟨Nat.zero_le _, Nat.zero_le _⟩ 3 5 rfl rfl rfl rfl hl.1 rfl (Nat.le_of_ble_eq_true rfl) dX5_layOutSmooth_53 (fun H locs hP hD hS => ?_)
          refine lv_istore (lv' := [(6, .int r53), (5, .int (0 : Int32)), (0, .ref a_t), (2, .int x2), (3, .int x3), (4, .int x4)]) hx hb dX5_layOutSmooth_56 hl (by decide) rfl (fun ls hl => ?_)
          exact K58 FU c_bag_total c_bag_often c_smooth_all c_smooth_inCell c_smooth_madeFor c_smooth_starting c_smooth_weight c_work_length c_work_signs x2 x3 x4 (0 : Int32) r53 H locs ls hP hD hS (lv_sub hl [2, 3, 4, 5, 1, 0] rfl) hF
        · replace hF := (if_pos k36).symm.trans hF
          refine lv_iconst (v := 0) hx hb dX5_layOutSmooth_39 (by decide) ?_
          refine lv_goto (tgt := 56) hx hb dX5_layOutSmooth_40 (by decide) ?_
          refine lv_istore (lv' := [(6, .int (0 : Int32)), (5, .int (0 : Int32)), (0, .ref a_t), (2, .int x2), (3, .int x3), (4, .int x4)]) hx hb dX5_layOutSmooth_56 hl (by decide) rfl (fun ls hl => ?_)
          exact K58 FU c_bag_total c_bag_often c_smooth_all c_smooth_inCell c_smooth_madeFor c_smooth_starting c_smooth_weight c_work_length c_work_signs x2 x3 x4 (0 : Int32) (0 : Int32) H locs ls hP hD hS (lv_sub hl [2, 3, 4, 5, 1, 0] rfl) hF
  unfold F_X5_layOutSmooth at hF
  have hP : va_P D vwCl (wd_X5_layOutSmooth cI a_t a_row a_work a_rest a_bag a_smooth a_text a_saves a_bag_often a_row_signs a_smooth_madeFor a_smooth_weight a_smooth_inCell a_smooth_all a_smooth_starting a_work_signs c_gone c_bag_total c_bag_often c_row_length c_row_signs c_smooth_all c_smooth_inCell c_smooth_madeFor c_smooth_starting c_smooth_weight c_work_length c_work_signs) s.heap := hP
  obtain ⟨H, hH⟩ : ∃ H, H = s.heap := ⟨_, rfl⟩
  rw [← hH]
  rw [← hH] at hP
  obtain ⟨locs, hlo⟩ : ∃ z : List Loc, z = [] := ⟨_, rfl⟩
  rw [← hlo]
  have hS : va_S A s.heap H locs := by rw [hH, hlo]; exact hS
  refine lv_aload_n hx hb dX5_layOutSmooth_0 rfl (lv_at hl 0 rfl) ?_
  obtain ⟨r1, hr1, hF⟩ := opb hF
  refine kVV (As := []) (rest := []) (ws' := (wd_X5_layOutSmooth cI a_t a_row a_work a_rest a_bag a_smooth a_text a_saves a_bag_often a_row_signs a_smooth_madeFor a_smooth_weight a_smooth_inCell a_smooth_all a_smooth_starting a_work_signs c_gone r1.1 r1.2.1 c_row_length c_row_signs r1.2.2.1 r1.2.2.2.1 r1.2.2.2.2.1 r1.2.2.2.2.2.1 r1.2.2.2.2.2.2 c_work_length c_work_signs)) ⟨hx, hb, hml, hown, hts⟩ (c_X5_prepareSmooth l D cI a_t a_row a_work a_rest a_bag a_smooth a_text a_saves a_bag_often a_row_signs a_smooth_madeFor a_smooth_weight a_smooth_inCell a_smooth_all a_smooth_starting H.size c_gone c_bag_total c_bag_often c_row_length c_row_signs c_smooth_all c_smooth_inCell c_smooth_madeFor c_smooth_starting c_smooth_weight  r1 hr1) (cwV 0 hts mw_X5_311 rfl rfl rfl hd_X5_prepareSmooth ⟨Nat.le_of_ble_eq_true rfl, Nat.le_of_ble_eq_true rfl⟩) hS hA hG hK hP hD [0, 1, 2, 3, 4, 5, 6, 7, 8, 9, 10] rfl rfl rfl rfl rfl ⟨Nat.zero_le _, Nat.zero_le _⟩ 5 0 rfl rfl rfl rfl hl.1 rfl (Nat.le_of_ble_eq_true rfl) dX5_layOutSmooth_1 (fun H locs hP hD hS => ?_)
  refine lv_aload_n hx hb dX5_layOutSmooth_4 rfl (lv_at hl 0 rfl) ?_
  refine get_X5_16 hx hb hts hown hK hP 0 rfl rfl dX5_layOutSmooth_5 ?_
  obtain ⟨r8, hr8, hF⟩ := opb hF
  refine kVV (As := []) (rest := []) (ws' := (wd_X5_layOutSmooth cI a_t a_row a_work a_rest a_bag a_smooth a_text a_saves a_bag_often a_row_signs a_smooth_madeFor a_smooth_weight a_smooth_inCell a_smooth_all a_smooth_starting a_work_signs c_gone r1.1 r1.2.1 c_row_length c_row_signs r1.2.2.1 r1.2.2.2.1 r1.2.2.2.2.1 r1.2.2.2.2.2.1 r1.2.2.2.2.2.2 r8 c_work_signs)) ⟨hx, hb, hml, hown, hts⟩ (c_X1_clear l D cI a_work a_work_signs H.size c_work_length  r8 hr8) (cwV 0 hts mw_X5_307 rfl rfl rfl hd_X1_clear ⟨Nat.le_of_ble_eq_true rfl, Nat.le_of_ble_eq_true rfl⟩) hS hA hG hK hP hD [11] rfl rfl rfl rfl rfl ⟨Nat.zero_le _, Nat.zero_le _⟩ 1 11 rfl rfl rfl rfl hl.1 rfl (Nat.le_of_ble_eq_true rfl) dX5_layOutSmooth_8 (fun H locs hP hD hS => ?_)
  refine lv_iload_n hx hb dX5_layOutSmooth_11 rfl (lv_at hl 1 rfl) ?_
  refine lv_istore_n (lv' := [(2, .int x1), (0, .ref a_t), (1, .int x1)]) hx hb dX5_layOutSmooth_12 rfl hl (by decide) rfl (fun ls hl => ?_)
  refine lv_iconst (v := (-1)) hx hb dX5_layOutSmooth_13 (by decide) ?_
  refine lv_istore_n (lv' := [(3, .int ((-1) : Int32)), (2, .int x1), (0, .ref a_t), (1, .int x1)]) hx hb dX5_layOutSmooth_14 rfl hl (by decide) rfl (fun ls hl => ?_)
  refine lv_iconst (v := 0) hx hb dX5_layOutSmooth_15 (by decide) ?_
  refine lv_istore (lv' := [(4, .int (0 : Int32)), (3, .int ((-1) : Int32)), (2, .int x1), (0, .ref a_t), (1, .int x1)]) hx hb dX5_layOutSmooth_16 hl (by decide) rfl (fun ls hl => ?_)
  exact K18 FU r1.1 r1.2.1 r1.2.2.1 r1.2.2.2.1 r1.2.2.2.2.1 r1.2.2.2.2.2.1 r1.2.2.2.2.2.2 r8 c_work_signs x1 ((-1) : Int32) (0 : Int32) H locs ls hP hD hS (lv_sub hl [3, 2, 1, 0] rfl) hF
abbrev wd_X5_nextSmooth (cI : ClassId) (a_t a_row a_work a_rest a_bag a_smooth a_text a_saves a_bag_often a_row_signs a_saves_slots a_smooth_madeFor a_smooth_weight a_smooth_inCell a_smooth_all a_smooth_starting a_work_signs : Nat) (c_gone : Int32) (c_bag_total : Int32) (c_bag_often : Nat → Int32) (c_row_length : Int32) (c_row_signs : Nat → Int32) (c_saves_held : Int32) (c_saves_slots : Nat → Int32) (c_smooth_all : Nat → Int32) (c_smooth_inCell : Nat → Int32) (c_smooth_madeFor : Nat → Int32) (c_smooth_starting : Nat → Int32) (c_smooth_weight : Nat → Int32) (c_work_length : Int32) (c_work_signs : Nat → Int32) : va_W := [(a_t, .inr (5, [.ref a_row, .ref a_work, .ref a_rest, .ref a_bag, .ref a_smooth, .ref a_text, .ref a_saves, .int c_gone])), (a_bag, .inr (0, [.ref a_bag_often, .int c_bag_total])), (a_bag_often, .inl (cI, 6, .inl c_bag_often)), (a_row, .inr (1, [.ref a_row_signs, .int c_row_length])), (a_row_signs, .inl (cI, 11, .inl c_row_signs)), (a_saves, .inr (2, [.ref a_saves_slots, .int c_saves_held])), (a_saves_slots, .inl (cI, 78, .inl c_saves_slots)), (a_smooth, .inr (3, [.ref a_smooth_madeFor, .ref a_smooth_weight, .ref a_smooth_inCell, .ref a_smooth_all, .ref a_smooth_starting])), (a_smooth_all, .inl (cI, 486, .inl c_smooth_all)), (a_smooth_inCell, .inl (cI, 6, .inl c_smooth_inCell)), (a_smooth_madeFor, .inl (cI, 6, .inl c_smooth_madeFor)), (a_smooth_starting, .inl (cI, 2916, .inl c_smooth_starting)), (a_smooth_weight, .inl (cI, 6, .inl c_smooth_weight)), (a_work, .inr (1, [.ref a_work_signs, .int c_work_length])), (a_work_signs, .inl (cI, 11, .inl c_work_signs))]
def rm_X5_nextSmooth : Room := { frames := 6, cells := 0, slots := 0, locals := 133 }
set_option maxHeartbeats 4000000 in
set_option maxRecDepth 100000 in
theorem c_X5_nextSmooth (l : Launch) (D : va_G) (cI : ClassId) (a_t a_row a_work a_rest a_bag a_smooth a_text a_saves a_bag_often a_row_signs a_saves_slots a_smooth_madeFor a_smooth_weight a_smooth_inCell a_smooth_all a_smooth_starting a_work_signs : Nat) (sz : Nat) (c_gone : Int32) (c_bag_total : Int32) (c_bag_often : Nat → Int32) (c_row_length : Int32) (c_row_signs : Nat → Int32) (c_saves_held : Int32) (c_saves_slots : Nat → Int32) (c_smooth_all : Nat → Int32) (c_smooth_inCell : Nat → Int32) (c_smooth_madeFor : Nat → Int32) (c_smooth_starting : Nat → Int32) (c_smooth_weight : Nat → Int32) (c_work_length : Int32) (c_work_signs : Nat → Int32) (o : Int32 × Int32 × Int32 × (Nat → Int32) × Int32 × (Nat → Int32) × Int32 × (Nat → Int32) × (Nat → Int32) × (Nat → Int32) × (Nat → Int32) × (Nat → Int32) × (Nat → Int32) × Int32 × (Nat → Int32)) (hF : F_X5_nextSmooth c_gone c_bag_total c_bag_often c_row_length c_row_signs c_saves_held c_saves_slots c_smooth_all c_smooth_inCell c_smooth_madeFor c_smooth_starting c_smooth_weight c_work_length c_work_signs = some o) : Met l yX5_nextSmooth (Cond.code yX5_nextSmooth cX5_nextSmooth 2 (some .int) :: WL) rm_X5_nextSmooth (preM D [(cI, .int)] (wd_X5_nextSmooth cI a_t a_row a_work a_rest a_bag a_smooth a_text a_saves a_bag_often a_row_signs a_saves_slots a_smooth_madeFor a_smooth_weight a_smooth_inCell a_smooth_all a_smooth_starting a_work_signs c_gone c_bag_total c_bag_often c_row_length c_row_signs c_saves_held c_saves_slots c_smooth_all c_smooth_inCell c_smooth_madeFor c_smooth_starting c_smooth_weight c_work_length c_work_signs) sz [.ref a_t]) (postI D o.1 (wd_X5_nextSmooth cI a_t a_row a_work a_rest a_bag a_smooth a_text a_saves a_bag_often a_row_signs a_saves_slots a_smooth_madeFor a_smooth_weight a_smooth_inCell a_smooth_all a_smooth_starting a_work_signs o.2.1 o.2.2.1 o.2.2.2.1 o.2.2.2.2.1 o.2.2.2.2.2.1 o.2.2.2.2.2.2.1 o.2.2.2.2.2.2.2.1 o.2.2.2.2.2.2.2.2.1 o.2.2.2.2.2.2.2.2.2.1 o.2.2.2.2.2.2.2.2.2.2.1 o.2.2.2.2.2.2.2.2.2.2.2.1 o.2.2.2.2.2.2.2.2.2.2.2.2.1 o.2.2.2.2.2.2.2.2.2.2.2.2.2.1 o.2.2.2.2.2.2.2.2.2.2.2.2.2.2) (wd_X5_nextSmooth cI a_t a_row a_work a_rest a_bag a_smooth a_text a_saves a_bag_often a_row_signs a_saves_slots a_smooth_madeFor a_smooth_weight a_smooth_inCell a_smooth_all a_smooth_starting a_work_signs c_gone c_bag_total c_bag_often c_row_length c_row_signs c_saves_held c_saves_slots c_smooth_all c_smooth_inCell c_smooth_madeFor c_smooth_starting c_smooth_weight c_work_length c_work_signs) sz) 0 0 (va_A (wd_X5_nextSmooth cI a_t a_row a_work a_rest a_bag a_smooth a_text a_saves a_bag_often a_row_signs a_saves_slots a_smooth_madeFor a_smooth_weight a_smooth_inCell a_smooth_all a_smooth_starting a_work_signs c_gone c_bag_total c_bag_often c_row_length c_row_signs c_saves_held c_saves_slots c_smooth_all c_smooth_inCell c_smooth_madeFor c_smooth_starting c_smooth_weight c_work_length c_work_signs) sz) := by
  refine mofI (by decide +kernel) (Nat.le_of_ble_eq_true rfl) ?_
  intro p e s m args below meth c Q A ls hx hb hml hown hts hK hP hD hS hA hG hl hret hsz0
  have hl : lv_has ls 2 [(0, .ref a_t)] := hl
  have K26 : ∀ (c_gone : Int32) (c_bag_total : Int32) (c_bag_often : Nat → Int32) (c_row_length : Int32) (c_row_signs : Nat → Int32) (c_saves_held : Int32) (c_saves_slots : Nat → Int32) (c_smooth_all : Nat → Int32) (c_smooth_inCell : Nat → Int32) (c_smooth_madeFor : Nat → Int32) (c_smooth_starting : Nat → Int32) (c_smooth_weight : Nat → Int32) (c_work_length : Int32) (c_work_signs : Nat → Int32) (v0 : Int32) (v1 : Int32)  (H : Heap) (locs : List Loc) (ls : Array Slot), va_P D vwCl (wd_X5_nextSmooth cI a_t a_row a_work a_rest a_bag a_smooth a_text a_saves a_bag_often a_row_signs a_saves_slots a_smooth_madeFor a_smooth_weight a_smooth_inCell a_smooth_all a_smooth_starting a_work_signs c_gone c_bag_total c_bag_often c_row_length c_row_signs c_saves_held c_saves_slots c_smooth_all c_smooth_inCell c_smooth_madeFor c_smooth_starting c_smooth_weight c_work_length c_work_signs) H → va_D A (wd_X5_nextSmooth cI a_t a_row a_work a_rest a_bag a_smooth a_text a_saves a_bag_often a_row_signs a_saves_slots a_smooth_madeFor a_smooth_weight a_smooth_inCell a_smooth_all a_smooth_starting a_work_signs c_gone c_bag_total c_bag_often c_row_length c_row_signs c_saves_held c_saves_slots c_smooth_all c_smooth_inCell c_smooth_madeFor c_smooth_starting c_smooth_weight c_work_length c_work_signs) → va_S A s.heap H locs → lv_has ls 2 [(0, .ref a_t)] → F_X5_nextSmooth_J26 c_gone c_bag_total c_bag_often c_row_length c_row_signs c_saves_held c_saves_slots c_smooth_all c_smooth_inCell c_smooth_madeFor c_smooth_starting c_smooth_weight c_work_length c_work_signs v0 v1 = some o → W p l e rm_X5_nextSmooth s m args below meth c H locs 0 0 Q (F0 m 26 ls [.int v1, .int v0]) := by
    intro c_gone c_bag_total c_bag_often c_row_length c_row_signs c_saves_held c_saves_slots c_smooth_all c_smooth_inCell c_smooth_madeFor c_smooth_starting c_smooth_weight c_work_length c_work_signs v0 v1 H locs ls hP hD hS hl hF
    unfold F_X5_nextSmooth_J26 at hF
    refine lv_iadd hx hb dX5_nextSmooth_26 ?_
    refine lv_istore_n (lv' := [(1, .int (v0 + v1)), (0, .ref a_t)]) hx hb dX5_nextSmooth_27 rfl hl (by decide) rfl (fun ls hl => ?_)
    refine lv_iload_n hx hb dX5_nextSmooth_28 rfl (lv_at hl 0 rfl) ?_
    refine lv_aload_n hx hb dX5_nextSmooth_29 rfl (lv_at hl 1 rfl) ?_
    obtain ⟨r30, hr30, hF⟩ := opb hF
    refine kVI (As := []) (rest := [.int (v0 + v1)]) (ws' := (wd_X5_nextSmooth cI a_t a_row a_work a_rest a_bag a_smooth a_text a_saves a_bag_often a_row_signs a_saves_slots a_smooth_madeFor a_smooth_weight a_smooth_inCell a_smooth_all a_smooth_starting a_work_signs c_gone r30.2.1 r30.2.2.1 c_row_length c_row_signs c_saves_held c_saves_slots r30.2.2.2.1 r30.2.2.2.2.1 r30.2.2.2.2.2.1 r30.2.2.2.2.2.2.1 r30.2.2.2.2.2.2.2 c_work_length c_work_signs)) ⟨hx, hb, hml, hown, hts⟩ (c_X5_allSmooth l D cI a_t a_row a_work a_rest a_bag a_smooth a_text a_saves a_bag_often a_row_signs a_smooth_madeFor a_smooth_weight a_smooth_inCell a_smooth_all a_smooth_starting H.size c_gone c_bag_total c_bag_often c_row_length c_row_signs c_smooth_all c_smooth_inCell c_smooth_madeFor c_smooth_starting c_smooth_weight  r30 hr30) (cwV 0 hts mw_X5_86 rfl rfl rfl hd_X5_allSmooth ⟨Nat.le_of_ble_eq_true rfl, Nat.le_of_ble_eq_true rfl⟩) hS hA hG hK hP hD [0, 1, 2, 3, 4, 7, 8, 9, 10, 11, 12] rfl rfl rfl rfl rfl ⟨Nat.zero_le _, Nat.zero_le _⟩ 5 0 rfl rfl rfl rfl hl.1 rfl (Nat.le_of_ble_eq_true rfl) dX5_nextSmooth_30 (fun H locs hP hD hS => ?_)
    refine lv_icmp_lt (tgt := 46) hx hb dX5_nextSmooth_33 (by decide) (fun k33 => ?_) (fun k33 => ?_)
    · replace hF := (if_pos k33).symm.trans hF
      refine lv_aload_n hx hb dX5_nextSmooth_46 rfl (lv_at hl 1 rfl) ?_
      refine lv_iload_n hx hb dX5_nextSmooth_47 rfl (lv_at hl 0 rfl) ?_
      obtain ⟨r48, hr48, hF⟩ := opb hF
      refine kVV (As := [.int (v0 + v1)]) (rest := []) (ws' := (wd_X5_nextSmooth cI a_t a_row a_work a_rest a_bag a_smooth a_text a_saves a_bag_often a_row_signs a_saves_slots a_smooth_madeFor a_smooth_weight a_smooth_inCell a_smooth_all a_smooth_starting a_work_signs c_gone r48.1 r48.2.1 c_row_length c_row_signs c_saves_held c_saves_slots r48.2.2.1 r48.2.2.2.1 r48.2.2.2.2.1 r48.2.2.2.2.2.1 r48.2.2.2.2.2.2.1 r48.2.2.2.2.2.2.2.1 r48.2.2.2.2.2.2.2.2)) ⟨hx, hb, hml, hown, hts⟩ (c_X5_layOutSmooth l D cI a_t a_row a_work a_rest a_bag a_smooth a_text a_saves a_bag_often a_row_signs a_smooth_madeFor a_smooth_weight a_smooth_inCell a_smooth_all a_smooth_starting a_work_signs H.size c_gone r30.2.1 r30.2.2.1 c_row_length c_row_signs r30.2.2.2.1 r30.2.2.2.2.1 r30.2.2.2.2.2.1 r30.2.2.2.2.2.2.1 r30.2.2.2.2.2.2.2 c_work_length c_work_signs (v0 + v1) r48 hr48) (cwV 1 hts mw_X5_91 rfl rfl rfl hd_X5_layOutSmooth ⟨Nat.le_of_ble_eq_true rfl, Nat.le_of_ble_eq_true rfl⟩) hS hA hG hK hP hD [0, 1, 2, 3, 4, 7, 8, 9, 10, 11, 12, 13, 14] rfl rfl rfl rfl rfl ⟨Nat.zero_le _, Nat.zero_le _⟩ 5 0 rfl rfl rfl rfl hl.1 rfl (Nat.le_of_ble_eq_true rfl) dX5_nextSmooth_48 (fun H locs hP hD hS => ?_)
      refine lv_aload_n hx hb dX5_nextSmooth_51 rfl (lv_at hl 1 rfl) ?_
      obtain ⟨r52, hr52, hF⟩ := opb hF
      refine kVI (As := []) (rest := []) (ws' := (wd_X5_nextSmooth cI a_t a_row a_work a_rest a_bag a_smooth a_text a_saves a_bag_often a_row_signs a_saves_slots a_smooth_madeFor a_smooth_weight a_smooth_inCell a_smooth_all a_smooth_starting a_work_signs r52.2.1 r52.2.2.1 r52.2.2.2.1 r52.2.2.2.2.1 r52.2.2.2.2.2.1 r52.2.2.2.2.2.2.1 r52.2.2.2.2.2.2.2 r48.2.2.1 r48.2.2.2.1 r48.2.2.2.2.1 r48.2.2.2.2.2.1 r48.2.2.2.2.2.2.1 r48.2.2.2.2.2.2.2.1 r48.2.2.2.2.2.2.2.2)) ⟨hx, hb, hml, hown, hts⟩ (c_X5_arrive l D cI a_t a_row a_work a_rest a_bag a_smooth a_text a_saves a_bag_often a_row_signs a_saves_slots a_work_signs H.size c_gone r48.1 r48.2.1 c_row_length c_row_signs c_saves_held c_saves_slots r48.2.2.2.2.2.2.2.1 r48.2.2.2.2.2.2.2.2  r52 hr52) (cwV 0 hts mw_X5_94 rfl rfl rfl hd_X5_arrive ⟨Nat.le_of_ble_eq_true rfl, Nat.le_of_ble_eq_true rfl⟩) hS hA hG hK hP hD [0, 1, 2, 3, 4, 5, 6, 13, 14] rfl rfl rfl rfl rfl ⟨Nat.zero_le _, Nat.zero_le _⟩ 5 0 rfl rfl rfl rfl hl.1 rfl (Nat.le_of_ble_eq_true rfl) dX5_nextSmooth_52 (fun H locs hP hD hS => ?_)
      have ho := Option.some.inj hF
      exact hret H locs ls 55 r52.1 _ hP hS (by rw [← ho]) (by rw [← ho]) dX5_nextSmooth_55
    · replace hF := (if_neg k33).symm.trans hF
      exact nos hF
  unfold F_X5_nextSmooth at hF
  have hP : va_P D vwCl (wd_X5_nextSmooth cI a_t a_row a_work a_rest a_bag a_smooth a_text a_saves a_bag_often a_row_signs a_saves_slots a_smooth_madeFor a_smooth_weight a_smooth_inCell a_smooth_all a_smooth_starting a_work_signs c_gone c_bag_total c_bag_often c_row_length c_row_signs c_saves_held c_saves_slots c_smooth_all c_smooth_inCell c_smooth_madeFor c_smooth_starting c_smooth_weight c_work_length c_work_signs) s.heap := hP
  obtain ⟨H, hH⟩ : ∃ H, H = s.heap := ⟨_, rfl⟩
  rw [← hH]
  rw [← hH] at hP
  obtain ⟨locs, hlo⟩ : ∃ z : List Loc, z = [] := ⟨_, rfl⟩
  rw [← hlo]
  have hS : va_S A s.heap H locs := by rw [hH, hlo]; exact hS
  refine lv_aload_n hx hb dX5_nextSmooth_0 rfl (lv_at hl 0 rfl) ?_
  obtain ⟨r1, hr1, hF⟩ := opb hF
  refine kVI (As := []) (rest := []) (ws' := (wd_X5_nextSmooth cI a_t a_row a_work a_rest a_bag a_smooth a_text a_saves a_bag_often a_row_signs a_saves_slots a_smooth_madeFor a_smooth_weight a_smooth_inCell a_smooth_all a_smooth_starting a_work_signs c_gone r1.2.1 r1.2.2.1 c_row_length c_row_signs c_saves_held c_saves_slots r1.2.2.2.1 r1.2.2.2.2.1 r1.2.2.2.2.2.1 r1.2.2.2.2.2.2.1 r1.2.2.2.2.2.2.2 c_work_length c_work_signs)) ⟨hx, hb, hml, hown, hts⟩ (c_X5_smoothRank l D cI a_t a_row a_work a_rest a_bag a_smooth a_text a_saves a_bag_often a_row_signs a_smooth_madeFor a_smooth_weight a_smooth_inCell a_smooth_all a_smooth_starting H.size c_gone c_bag_total c_bag_often c_row_length c_row_signs c_smooth_all c_smooth_inCell c_smooth_madeFor c_smooth_starting c_smooth_weight  r1 hr1) (cwV 0 hts mw_X5_76 rfl rfl rfl hd_X5_smoothRank ⟨Nat.le_of_ble_eq_true rfl, Nat.le_of_ble_eq_true rfl⟩) hS hA hG hK hP hD [0, 1, 2, 3, 4, 7, 8, 9, 10, 11, 12] rfl rfl rfl rfl rfl ⟨Nat.zero_le _, Nat.zero_le _⟩ 5 0 rfl rfl rfl rfl hl.1 rfl (Nat.le_of_ble_eq_true rfl) dX5_nextSmooth_1 (fun H locs hP hD hS => ?_)
  refine lv_aload_n hx hb dX5_nextSmooth_4 rfl (lv_at hl 0 rfl) ?_
  refine get_X5_10 hx hb hts hown hK hP 0 rfl rfl dX5_nextSmooth_5 ?_
  refine lv_aload_n hx hb dX5_nextSmooth_8 rfl (lv_at hl 0 rfl) ?_
  refine get_X5_10 hx hb hts hown hK hP 0 rfl rfl dX5_nextSmooth_9 ?_
  obtain ⟨r12, hr12, hF⟩ := opb hF
  refine kVI (As := []) (rest := [.ref a_row, .int r1.1]) (ws' := (wd_X5_nextSmooth cI a_t a_row a_work a_rest a_bag a_smooth a_text a_saves a_bag_often a_row_signs a_saves_slots a_smooth_madeFor a_smooth_weight a_smooth_inCell a_smooth_all a_smooth_starting a_work_signs c_gone r1.2.1 r1.2.2.1 c_row_length c_row_signs c_saves_held c_saves_slots r1.2.2.2.1 r1.2.2.2.2.1 r1.2.2.2.2.2.1 r1.2.2.2.2.2.2.1 r1.2.2.2.2.2.2.2 c_work_length c_work_signs)) ⟨hx, hb, hml, hown, hts⟩ (c_X1_length l D cI a_row a_row_signs H.size c_row_length  r12 hr12) (cwV 0 hts mw_X5_79 rfl rfl rfl hd_X1_length ⟨Nat.le_of_ble_eq_true rfl, Nat.le_of_ble_eq_true rfl⟩) hS hA hG hK hP hD [3] rfl rfl rfl rfl rfl ⟨Nat.zero_le _, Nat.zero_le _⟩ 1 3 rfl rfl rfl rfl hl.1 rfl (Nat.le_of_ble_eq_true rfl) dX5_nextSmooth_12 (fun H locs hP hD hS => ?_)
  obtain ⟨r15, hr15, hF⟩ := opb hF
  refine kVI (As := [.int r12]) (rest := [.int r1.1]) (ws' := (wd_X5_nextSmooth cI a_t a_row a_work a_rest a_bag a_smooth a_text a_saves a_bag_often a_row_signs a_saves_slots a_smooth_madeFor a_smooth_weight a_smooth_inCell a_smooth_all a_smooth_starting a_work_signs c_gone r1.2.1 r1.2.2.1 c_row_length c_row_signs c_saves_held c_saves_slots r1.2.2.2.1 r1.2.2.2.2.1 r1.2.2.2.2.2.1 r1.2.2.2.2.2.2.1 r1.2.2.2.2.2.2.2 c_work_length c_work_signs)) ⟨hx, hb, hml, hown, hts⟩ (c_X1_isSmooth l D cI a_row a_row_signs H.size c_row_length c_row_signs r12 r15 hr15) (cwV 1 hts mw_X5_82 rfl rfl rfl hd_X1_isSmooth ⟨Nat.le_of_ble_eq_true rfl, Nat.le_of_ble_eq_true rfl⟩) hS hA hG hK hP hD [3, 4] rfl rfl rfl rfl rfl ⟨Nat.zero_le _, Nat.zero_le _⟩ 1 3 rfl rfl rfl rfl hl.1 rfl (Nat.le_of_ble_eq_true rfl) dX5_nextSmooth_15 (fun H locs hP hD hS => ?_)
  refine lv_if_eq (tgt := 25) hx hb dX5_nextSmooth_18 (by decide) (fun k18 => ?_) (fun k18 => ?_)
  · (try simp only [if_pos k18] at hF)
    refine lv_iconst (v := 0) hx hb dX5_nextSmooth_25 (by decide) ?_
    exact K26 c_gone r1.2.1 r1.2.2.1 c_row_length c_row_signs c_saves_held c_saves_slots r1.2.2.2.1 r1.2.2.2.2.1 r1.2.2.2.2.2.1 r1.2.2.2.2.2.2.1 r1.2.2.2.2.2.2.2 c_work_length c_work_signs r1.1 (0 : Int32) H locs ls hP hD hS (lv_sub hl [0] rfl) hF
  · (try simp only [if_neg k18] at hF)
    refine lv_iconst (v := 1) hx hb dX5_nextSmooth_21 (by decide) ?_
    refine lv_goto (tgt := 26) hx hb dX5_nextSmooth_22 (by decide) ?_
    exact K26 c_gone r1.2.1 r1.2.2.1 c_row_length c_row_signs c_saves_held c_saves_slots r1.2.2.2.1 r1.2.2.2.2.1 r1.2.2.2.2.2.1 r1.2.2.2.2.2.2.1 r1.2.2.2.2.2.2.2 c_work_length c_work_signs r1.1 (1 : Int32) H locs ls hP hD hS (lv_sub hl [0] rfl) hF
abbrev wd_X5_goToSmooth (cI : ClassId) (a_t a_row a_work a_rest a_bag a_smooth a_text a_saves a_bag_often a_row_signs a_saves_slots a_smooth_madeFor a_smooth_weight a_smooth_inCell a_smooth_all a_smooth_starting a_work_signs : Nat) (c_gone : Int32) (c_bag_total : Int32) (c_bag_often : Nat → Int32) (c_row_length : Int32) (c_row_signs : Nat → Int32) (c_saves_held : Int32) (c_saves_slots : Nat → Int32) (c_smooth_all : Nat → Int32) (c_smooth_inCell : Nat → Int32) (c_smooth_madeFor : Nat → Int32) (c_smooth_starting : Nat → Int32) (c_smooth_weight : Nat → Int32) (c_work_length : Int32) (c_work_signs : Nat → Int32) : va_W := [(a_t, .inr (5, [.ref a_row, .ref a_work, .ref a_rest, .ref a_bag, .ref a_smooth, .ref a_text, .ref a_saves, .int c_gone])), (a_bag, .inr (0, [.ref a_bag_often, .int c_bag_total])), (a_bag_often, .inl (cI, 6, .inl c_bag_often)), (a_row, .inr (1, [.ref a_row_signs, .int c_row_length])), (a_row_signs, .inl (cI, 11, .inl c_row_signs)), (a_saves, .inr (2, [.ref a_saves_slots, .int c_saves_held])), (a_saves_slots, .inl (cI, 78, .inl c_saves_slots)), (a_smooth, .inr (3, [.ref a_smooth_madeFor, .ref a_smooth_weight, .ref a_smooth_inCell, .ref a_smooth_all, .ref a_smooth_starting])), (a_smooth_all, .inl (cI, 486, .inl c_smooth_all)), (a_smooth_inCell, .inl (cI, 6, .inl c_smooth_inCell)), (a_smooth_madeFor, .inl (cI, 6, .inl c_smooth_madeFor)), (a_smooth_starting, .inl (cI, 2916, .inl c_smooth_starting)), (a_smooth_weight, .inl (cI, 6, .inl c_smooth_weight)), (a_work, .inr (1, [.ref a_work_signs, .int c_work_length])), (a_work_signs, .inl (cI, 11, .inl c_work_signs))]
def rm_X5_goToSmooth : Room := { frames := 6, cells := 0, slots := 0, locals := 133 }
set_option maxHeartbeats 4000000 in
set_option maxRecDepth 100000 in
theorem c_X5_goToSmooth (l : Launch) (D : va_G) (cI : ClassId) (a_t a_row a_work a_rest a_bag a_smooth a_text a_saves a_bag_often a_row_signs a_saves_slots a_smooth_madeFor a_smooth_weight a_smooth_inCell a_smooth_all a_smooth_starting a_work_signs : Nat) (sz : Nat) (c_gone : Int32) (c_bag_total : Int32) (c_bag_often : Nat → Int32) (c_row_length : Int32) (c_row_signs : Nat → Int32) (c_saves_held : Int32) (c_saves_slots : Nat → Int32) (c_smooth_all : Nat → Int32) (c_smooth_inCell : Nat → Int32) (c_smooth_madeFor : Nat → Int32) (c_smooth_starting : Nat → Int32) (c_smooth_weight : Nat → Int32) (c_work_length : Int32) (c_work_signs : Nat → Int32) (x1 : Int32) (o : Int32 × Int32 × Int32 × (Nat → Int32) × Int32 × (Nat → Int32) × Int32 × (Nat → Int32) × (Nat → Int32) × (Nat → Int32) × (Nat → Int32) × (Nat → Int32) × (Nat → Int32) × Int32 × (Nat → Int32)) (hF : F_X5_goToSmooth c_gone c_bag_total c_bag_often c_row_length c_row_signs c_saves_held c_saves_slots c_smooth_all c_smooth_inCell c_smooth_madeFor c_smooth_starting c_smooth_weight c_work_length c_work_signs x1 = some o) : Met l yX5_goToSmooth (Cond.code yX5_goToSmooth cX5_goToSmooth 2 (some .int) :: WL) rm_X5_goToSmooth (preM D [(cI, .int)] (wd_X5_goToSmooth cI a_t a_row a_work a_rest a_bag a_smooth a_text a_saves a_bag_often a_row_signs a_saves_slots a_smooth_madeFor a_smooth_weight a_smooth_inCell a_smooth_all a_smooth_starting a_work_signs c_gone c_bag_total c_bag_often c_row_length c_row_signs c_saves_held c_saves_slots c_smooth_all c_smooth_inCell c_smooth_madeFor c_smooth_starting c_smooth_weight c_work_length c_work_signs) sz [.ref a_t, .int x1]) (postI D o.1 (wd_X5_goToSmooth cI a_t a_row a_work a_rest a_bag a_smooth a_text a_saves a_bag_often a_row_signs a_saves_slots a_smooth_madeFor a_smooth_weight a_smooth_inCell a_smooth_all a_smooth_starting a_work_signs o.2.1 o.2.2.1 o.2.2.2.1 o.2.2.2.2.1 o.2.2.2.2.2.1 o.2.2.2.2.2.2.1 o.2.2.2.2.2.2.2.1 o.2.2.2.2.2.2.2.2.1 o.2.2.2.2.2.2.2.2.2.1 o.2.2.2.2.2.2.2.2.2.2.1 o.2.2.2.2.2.2.2.2.2.2.2.1 o.2.2.2.2.2.2.2.2.2.2.2.2.1 o.2.2.2.2.2.2.2.2.2.2.2.2.2.1 o.2.2.2.2.2.2.2.2.2.2.2.2.2.2) (wd_X5_goToSmooth cI a_t a_row a_work a_rest a_bag a_smooth a_text a_saves a_bag_often a_row_signs a_saves_slots a_smooth_madeFor a_smooth_weight a_smooth_inCell a_smooth_all a_smooth_starting a_work_signs c_gone c_bag_total c_bag_often c_row_length c_row_signs c_saves_held c_saves_slots c_smooth_all c_smooth_inCell c_smooth_madeFor c_smooth_starting c_smooth_weight c_work_length c_work_signs) sz) 0 0 (va_A (wd_X5_goToSmooth cI a_t a_row a_work a_rest a_bag a_smooth a_text a_saves a_bag_often a_row_signs a_saves_slots a_smooth_madeFor a_smooth_weight a_smooth_inCell a_smooth_all a_smooth_starting a_work_signs c_gone c_bag_total c_bag_often c_row_length c_row_signs c_saves_held c_saves_slots c_smooth_all c_smooth_inCell c_smooth_madeFor c_smooth_starting c_smooth_weight c_work_length c_work_signs) sz) := by
  refine mofI (by decide +kernel) (Nat.le_of_ble_eq_true rfl) ?_
  intro p e s m args below meth c Q A ls hx hb hml hown hts hK hP hD hS hA hG hl hret hsz0
  have hl : lv_has ls 2 [(0, .ref a_t), (1, .int x1)] := hl
  unfold F_X5_goToSmooth at hF
  have hP : va_P D vwCl (wd_X5_goToSmooth cI a_t a_row a_work a_rest a_bag a_smooth a_text a_saves a_bag_often a_row_signs a_saves_slots a_smooth_madeFor a_smooth_weight a_smooth_inCell a_smooth_all a_smooth_starting a_work_signs c_gone c_bag_total c_bag_often c_row_length c_row_signs c_saves_held c_saves_slots c_smooth_all c_smooth_inCell c_smooth_madeFor c_smooth_starting c_smooth_weight c_work_length c_work_signs) s.heap := hP
  obtain ⟨H, hH⟩ : ∃ H, H = s.heap := ⟨_, rfl⟩
  rw [← hH]
  rw [← hH] at hP
  obtain ⟨locs, hlo⟩ : ∃ z : List Loc, z = [] := ⟨_, rfl⟩
  rw [← hlo]
  have hS : va_S A s.heap H locs := by rw [hH, hlo]; exact hS
  refine lv_iload_n hx hb dX5_goToSmooth_0 rfl (lv_at hl 1 rfl) ?_
  refine lv_if_lt (tgt := 12) hx hb dX5_goToSmooth_1 (by decide) (fun k1 => ?_) (fun k1 => ?_)
  · replace hF := (if_pos k1).symm.trans hF
    exact nos hF
  · replace hF := (if_neg k1).symm.trans hF
    refine lv_iload_n hx hb dX5_goToSmooth_4 rfl (lv_at hl 1 rfl) ?_
    refine lv_aload_n hx hb dX5_goToSmooth_5 rfl (lv_at hl 0 rfl) ?_
    obtain ⟨r6, hr6, hF⟩ := opb hF
    refine kVI (As := []) (rest := [.int x1]) (ws' := (wd_X5_goToSmooth cI a_t a_row a_work a_rest a_bag a_smooth a_text a_saves a_bag_often a_row_signs a_saves_slots a_smooth_madeFor a_smooth_weight a_smooth_inCell a_smooth_all a_smooth_starting a_work_signs c_gone r6.2.1 r6.2.2.1 c_row_length c_row_signs c_saves_held c_saves_slots r6.2.2.2.1 r6.2.2.2.2.1 r6.2.2.2.2.2.1 r6.2.2.2.2.2.2.1 r6.2.2.2.2.2.2.2 c_work_length c_work_signs)) ⟨hx, hb, hml, hown, hts⟩ (c_X5_allSmooth l D cI a_t a_row a_work a_rest a_bag a_smooth a_text a_saves a_bag_often a_row_signs a_smooth_madeFor a_smooth_weight a_smooth_inCell a_smooth_all a_smooth_starting H.size c_gone c_bag_total c_bag_often c_row_length c_row_signs c_smooth_all c_smooth_inCell c_smooth_madeFor c_smooth_starting c_smooth_weight  r6 hr6) (cwV 0 hts mw_X5_86 rfl rfl rfl hd_X5_allSmooth ⟨Nat.le_of_ble_eq_true rfl, Nat.le_of_ble_eq_true rfl⟩) hS hA hG hK hP hD [0, 1, 2, 3, 4, 7, 8, 9, 10, 11, 12] rfl rfl rfl rfl rfl ⟨Nat.zero_le _, Nat.zero_le _⟩ 5 0 rfl rfl rfl rfl hl.1 rfl (Nat.le_of_ble_eq_true rfl) dX5_goToSmooth_6 (fun H locs hP hD hS => ?_)
    refine lv_icmp_lt (tgt := 22) hx hb dX5_goToSmooth_9 (by decide) (fun k9 => ?_) (fun k9 => ?_)
    · replace hF := (if_pos k9).symm.trans hF
      refine lv_aload_n hx hb dX5_goToSmooth_22 rfl (lv_at hl 0 rfl) ?_
      refine lv_iload_n hx hb dX5_goToSmooth_23 rfl (lv_at hl 1 rfl) ?_
      obtain ⟨r24, hr24, hF⟩ := opb hF
      refine kVV (As := [.int x1]) (rest := []) (ws' := (wd_X5_goToSmooth cI a_t a_row a_work a_rest a_bag a_smooth a_text a_saves a_bag_often a_row_signs a_saves_slots a_smooth_madeFor a_smooth_weight a_smooth_inCell a_smooth_all a_smooth_starting a_work_signs c_gone r24.1 r24.2.1 c_row_length c_row_signs c_saves_held c_saves_slots r24.2.2.1 r24.2.2.2.1 r24.2.2.2.2.1 r24.2.2.2.2.2.1 r24.2.2.2.2.2.2.1 r24.2.2.2.2.2.2.2.1 r24.2.2.2.2.2.2.2.2)) ⟨hx, hb, hml, hown, hts⟩ (c_X5_layOutSmooth l D cI a_t a_row a_work a_rest a_bag a_smooth a_text a_saves a_bag_often a_row_signs a_smooth_madeFor a_smooth_weight a_smooth_inCell a_smooth_all a_smooth_starting a_work_signs H.size c_gone r6.2.1 r6.2.2.1 c_row_length c_row_signs r6.2.2.2.1 r6.2.2.2.2.1 r6.2.2.2.2.2.1 r6.2.2.2.2.2.2.1 r6.2.2.2.2.2.2.2 c_work_length c_work_signs x1 r24 hr24) (cwV 1 hts mw_X5_91 rfl rfl rfl hd_X5_layOutSmooth ⟨Nat.le_of_ble_eq_true rfl, Nat.le_of_ble_eq_true rfl⟩) hS hA hG hK hP hD [0, 1, 2, 3, 4, 7, 8, 9, 10, 11, 12, 13, 14] rfl rfl rfl rfl rfl ⟨Nat.zero_le _, Nat.zero_le _⟩ 5 0 rfl rfl rfl rfl hl.1 rfl (Nat.le_of_ble_eq_true rfl) dX5_goToSmooth_24 (fun H locs hP hD hS => ?_)
      refine lv_aload_n hx hb dX5_goToSmooth_27 rfl (lv_at hl 0 rfl) ?_
      obtain ⟨r28, hr28, hF⟩ := opb hF
      refine kVI (As := []) (rest := []) (ws' := (wd_X5_goToSmooth cI a_t a_row a_work a_rest a_bag a_smooth a_text a_saves a_bag_often a_row_signs a_saves_slots a_smooth_madeFor a_smooth_weight a_smooth_inCell a_smooth_all a_smooth_starting a_work_signs r28.2.1 r28.2.2.1 r28.2.2.2.1 r28.2.2.2.2.1 r28.2.2.2.2.2.1 r28.2.2.2.2.2.2.1 r28.2.2.2.2.2.2.2 r24.2.2.1 r24.2.2.2.1 r24.2.2.2.2.1 r24.2.2.2.2.2.1 r24.2.2.2.2.2.2.1 r24.2.2.2.2.2.2.2.1 r24.2.2.2.2.2.2.2.2)) ⟨hx, hb, hml, hown, hts⟩ (c_X5_arrive l D cI a_t a_row a_work a_rest a_bag a_smooth a_text a_saves a_bag_often a_row_signs a_saves_slots a_work_signs H.size c_gone r24.1 r24.2.1 c_row_length c_row_signs c_saves_held c_saves_slots r24.2.2.2.2.2.2.2.1 r24.2.2.2.2.2.2.2.2  r28 hr28) (cwV 0 hts mw_X5_94 rfl rfl rfl hd_X5_arrive ⟨Nat.le_of_ble_eq_true rfl, Nat.le_of_ble_eq_true rfl⟩) hS hA hG hK hP hD [0, 1, 2, 3, 4, 5, 6, 13, 14] rfl rfl rfl rfl rfl ⟨Nat.zero_le _, Nat.zero_le _⟩ 5 0 rfl rfl rfl rfl hl.1 rfl (Nat.le_of_ble_eq_true rfl) dX5_goToSmooth_28 (fun H locs hP hD hS => ?_)
      have ho := Option.some.inj hF
      exact hret H locs ls 31 r28.1 _ hP hS (by rw [← ho]) (by rw [← ho]) dX5_goToSmooth_31
    · replace hF := (if_neg k9).symm.trans hF
      exact nos hF
abbrev wd_X5_needPlace (cI : ClassId) (a_t a_row a_work a_rest a_bag a_smooth a_text a_saves a_row_signs : Nat) (c_gone : Int32) (c_row_length : Int32) : va_W := [(a_t, .inr (5, [.ref a_row, .ref a_work, .ref a_rest, .ref a_bag, .ref a_smooth, .ref a_text, .ref a_saves, .int c_gone])), (a_row, .inr (1, [.ref a_row_signs, .int c_row_length]))]
def rm_X5_needPlace : Room := { frames := 1, cells := 0, slots := 0, locals := 21 }
set_option maxHeartbeats 4000000 in
set_option maxRecDepth 100000 in
theorem c_X5_needPlace (l : Launch) (D : va_G) (cI : ClassId) (a_t a_row a_work a_rest a_bag a_smooth a_text a_saves a_row_signs : Nat) (sz : Nat) (c_gone : Int32) (c_row_length : Int32) (x1 : Int32) (o : Unit) (hF : F_X5_needPlace c_row_length x1 = some o) : Met l yX5_needPlace (Cond.code yX5_needPlace cX5_needPlace 2 none :: WL) rm_X5_needPlace (preM D [(cI, .int)] (wd_X5_needPlace cI a_t a_row a_work a_rest a_bag a_smooth a_text a_saves a_row_signs c_gone c_row_length) sz [.ref a_t, .int x1]) (postV D (wd_X5_needPlace cI a_t a_row a_work a_rest a_bag a_smooth a_text a_saves a_row_signs c_gone c_row_length) (wd_X5_needPlace cI a_t a_row a_work a_rest a_bag a_smooth a_text a_saves a_row_signs c_gone c_row_length) sz) 0 0 (va_A (wd_X5_needPlace cI a_t a_row a_work a_rest a_bag a_smooth a_text a_saves a_row_signs c_gone c_row_length) sz) := by
  refine mofV (by decide +kernel) (Nat.le_of_ble_eq_true rfl) ?_
  intro p e s m args below meth c Q A ls hx hb hml hown hts hK hP hD hS hA hG hl hret hsz0
  have hl : lv_has ls 2 [(0, .ref a_t), (1, .int x1)] := hl
  unfold F_X5_needPlace at hF
  have hP : va_P D vwCl (wd_X5_needPlace cI a_t a_row a_work a_rest a_bag a_smooth a_text a_saves a_row_signs c_gone c_row_length) s.heap := hP
  obtain ⟨H, hH⟩ : ∃ H, H = s.heap := ⟨_, rfl⟩
  rw [← hH]
  rw [← hH] at hP
  obtain ⟨locs, hlo⟩ : ∃ z : List Loc, z = [] := ⟨_, rfl⟩
  rw [← hlo]
  have hS : va_S A s.heap H locs := by rw [hH, hlo]; exact hS
  refine lv_aload_n hx hb dX5_needPlace_0 rfl (lv_at hl 0 rfl) ?_
  refine get_X5_10 hx hb hts hown hK hP 0 rfl rfl dX5_needPlace_1 ?_
  refine lv_iload_n hx hb dX5_needPlace_4 rfl (lv_at hl 1 rfl) ?_
  obtain ⟨r5, hr5, hF⟩ := opb hF
  refine kVI (As := [.int x1]) (rest := []) (ws' := (wd_X5_needPlace cI a_t a_row a_work a_rest a_bag a_smooth a_text a_saves a_row_signs c_gone c_row_length)) ⟨hx, hb, hml, hown, hts⟩ (c_X1_has l D cI a_row a_row_signs H.size c_row_length x1 r5 hr5) (cwV 1 hts mw_X5_277 rfl rfl rfl hd_X1_has ⟨Nat.le_of_ble_eq_true rfl, Nat.le_of_ble_eq_true rfl⟩) hS hA hG hK hP hD [1] rfl rfl rfl rfl rfl ⟨Nat.zero_le _, Nat.zero_le _⟩ 1 1 rfl rfl rfl rfl hl.1 rfl (Nat.le_of_ble_eq_true rfl) dX5_needPlace_5 (fun H locs hP hD hS => ?_)
  refine lv_if_ne (tgt := 21) hx hb dX5_needPlace_8 (by decide) (fun k8 => ?_) (fun k8 => ?_)
  · replace hF := (if_neg k8).symm.trans hF
    have ho := Option.some.inj hF
    exact hret H locs ls 21 _ hP hS rfl dX5_needPlace_21
  · replace hF := (if_pos k8).symm.trans hF
    exact nos hF
abbrev wd_X5_swap (cI : ClassId) (a_t a_row a_work a_rest a_bag a_smooth a_text a_saves a_bag_often a_row_signs a_saves_slots : Nat) (c_gone : Int32) (c_bag_total : Int32) (c_bag_often : Nat → Int32) (c_row_length : Int32) (c_row_signs : Nat → Int32) (c_saves_held : Int32) (c_saves_slots : Nat → Int32) : va_W := [(a_t, .inr (5, [.ref a_row, .ref a_work, .ref a_rest, .ref a_bag, .ref a_smooth, .ref a_text, .ref a_saves, .int c_gone])), (a_bag, .inr (0, [.ref a_bag_often, .int c_bag_total])), (a_bag_often, .inl (cI, 6, .inl c_bag_often)), (a_row, .inr (1, [.ref a_row_signs, .int c_row_length])), (a_row_signs, .inl (cI, 11, .inl c_row_signs)), (a_saves, .inr (2, [.ref a_saves_slots, .int c_saves_held])), (a_saves_slots, .inl (cI, 78, .inl c_saves_slots))]
def rm_X5_swap : Room := { frames := 4, cells := 0, slots := 0, locals := 91 }
set_option maxHeartbeats 4000000 in
set_option maxRecDepth 100000 in
theorem c_X5_swap (l : Launch) (D : va_G) (cI : ClassId) (a_t a_row a_work a_rest a_bag a_smooth a_text a_saves a_bag_often a_row_signs a_saves_slots : Nat) (sz : Nat) (c_gone : Int32) (c_bag_total : Int32) (c_bag_often : Nat → Int32) (c_row_length : Int32) (c_row_signs : Nat → Int32) (c_saves_held : Int32) (c_saves_slots : Nat → Int32) (x1 : Int32) (x2 : Int32) (o : Int32 × Int32 × (Nat → Int32) × (Nat → Int32) × Int32 × (Nat → Int32)) (hF : F_X5_swap c_gone c_bag_total c_bag_often c_row_length c_row_signs c_saves_held c_saves_slots x1 x2 = some o) : Met l yX5_swap (Cond.code yX5_swap cX5_swap 3 (some .int) :: WL) rm_X5_swap (preM D [(cI, .int)] (wd_X5_swap cI a_t a_row a_work a_rest a_bag a_smooth a_text a_saves a_bag_often a_row_signs a_saves_slots c_gone c_bag_total c_bag_often c_row_length c_row_signs c_saves_held c_saves_slots) sz [.ref a_t, .int x1, .int x2]) (postI D o.1 (wd_X5_swap cI a_t a_row a_work a_rest a_bag a_smooth a_text a_saves a_bag_often a_row_signs a_saves_slots c_gone o.2.1 o.2.2.1 c_row_length o.2.2.2.1 o.2.2.2.2.1 o.2.2.2.2.2) (wd_X5_swap cI a_t a_row a_work a_rest a_bag a_smooth a_text a_saves a_bag_often a_row_signs a_saves_slots c_gone c_bag_total c_bag_often c_row_length c_row_signs c_saves_held c_saves_slots) sz) 0 0 (va_A (wd_X5_swap cI a_t a_row a_work a_rest a_bag a_smooth a_text a_saves a_bag_often a_row_signs a_saves_slots c_gone c_bag_total c_bag_often c_row_length c_row_signs c_saves_held c_saves_slots) sz) := by
  refine mofI (by decide +kernel) (Nat.le_of_ble_eq_true rfl) ?_
  intro p e s m args below meth c Q A ls hx hb hml hown hts hK hP hD hS hA hG hl hret hsz0
  have hl : lv_has ls 3 [(0, .ref a_t), (1, .int x1), (2, .int x2)] := hl
  unfold F_X5_swap at hF
  have hP : va_P D vwCl (wd_X5_swap cI a_t a_row a_work a_rest a_bag a_smooth a_text a_saves a_bag_often a_row_signs a_saves_slots c_gone c_bag_total c_bag_often c_row_length c_row_signs c_saves_held c_saves_slots) s.heap := hP
  obtain ⟨H, hH⟩ : ∃ H, H = s.heap := ⟨_, rfl⟩
  rw [← hH]
  rw [← hH] at hP
  obtain ⟨locs, hlo⟩ : ∃ z : List Loc, z = [] := ⟨_, rfl⟩
  rw [← hlo]
  have hS : va_S A s.heap H locs := by rw [hH, hlo]; exact hS
  refine lv_aload_n hx hb dX5_swap_0 rfl (lv_at hl 0 rfl) ?_
  refine lv_iload_n hx hb dX5_swap_1 rfl (lv_at hl 1 rfl) ?_
  obtain ⟨r2, hr2, hF⟩ := opb hF
  refine kVV (As := [.int x1]) (rest := []) (ws' := (wd_X5_swap cI a_t a_row a_work a_rest a_bag a_smooth a_text a_saves a_bag_often a_row_signs a_saves_slots c_gone c_bag_total c_bag_often c_row_length c_row_signs c_saves_held c_saves_slots)) ⟨hx, hb, hml, hown, hts⟩ (c_X5_needPlace l D cI a_t a_row a_work a_rest a_bag a_smooth a_text a_saves a_row_signs H.size c_gone c_row_length x1 r2 hr2) (cwV 1 hts mw_X5_102 rfl rfl rfl hd_X5_needPlace ⟨Nat.le_of_ble_eq_true rfl, Nat.le_of_ble_eq_true rfl⟩) hS hA hG hK hP hD [0, 3] rfl rfl rfl rfl rfl ⟨Nat.zero_le _, Nat.zero_le _⟩ 5 0 rfl rfl rfl rfl hl.1 rfl (Nat.le_of_ble_eq_true rfl) dX5_swap_2 (fun H locs hP hD hS => ?_)
  refine lv_aload_n hx hb dX5_swap_5 rfl (lv_at hl 0 rfl) ?_
  refine lv_iload_n hx hb dX5_swap_6 rfl (lv_at hl 2 rfl) ?_
  obtain ⟨r7, hr7, hF⟩ := opb hF
  refine kVV (As := [.int x2]) (rest := []) (ws' := (wd_X5_swap cI a_t a_row a_work a_rest a_bag a_smooth a_text a_saves a_bag_often a_row_signs a_saves_slots c_gone c_bag_total c_bag_often c_row_length c_row_signs c_saves_held c_saves_slots)) ⟨hx, hb, hml, hown, hts⟩ (c_X5_needPlace l D cI a_t a_row a_work a_rest a_bag a_smooth a_text a_saves a_row_signs H.size c_gone c_row_length x2 r7 hr7) (cwV 1 hts mw_X5_102 rfl rfl rfl hd_X5_needPlace ⟨Nat.le_of_ble_eq_true rfl, Nat.le_of_ble_eq_true rfl⟩) hS hA hG hK hP hD [0, 3] rfl rfl rfl rfl rfl ⟨Nat.zero_le _, Nat.zero_le _⟩ 5 0 rfl rfl rfl rfl hl.1 rfl (Nat.le_of_ble_eq_true rfl) dX5_swap_7 (fun H locs hP hD hS => ?_)
  refine lv_aload_n hx hb dX5_swap_10 rfl (lv_at hl 0 rfl) ?_
  obtain ⟨r11, hr11, hF⟩ := opb hF
  refine kVV (As := []) (rest := []) (ws' := (wd_X5_swap cI a_t a_row a_work a_rest a_bag a_smooth a_text a_saves a_bag_often a_row_signs a_saves_slots c_gone c_bag_total c_bag_often c_row_length c_row_signs r11.1 r11.2)) ⟨hx, hb, hml, hown, hts⟩ (c_X5_save l D cI a_t a_row a_work a_rest a_bag a_smooth a_text a_saves a_row_signs a_saves_slots H.size c_gone c_row_length c_row_signs c_saves_held c_saves_slots  r11 hr11) (cwV 0 hts mw_X5_105 rfl rfl rfl hd_X5_save ⟨Nat.le_of_ble_eq_true rfl, Nat.le_of_ble_eq_true rfl⟩) hS hA hG hK hP hD [0, 3, 4, 5, 6] rfl rfl rfl rfl rfl ⟨Nat.zero_le _, Nat.zero_le _⟩ 5 0 rfl rfl rfl rfl hl.1 rfl (Nat.le_of_ble_eq_true rfl) dX5_swap_11 (fun H locs hP hD hS => ?_)
  refine lv_aload_n hx hb dX5_swap_14 rfl (lv_at hl 0 rfl) ?_
  refine get_X5_10 hx hb hts hown hK hP 0 rfl rfl dX5_swap_15 ?_
  refine lv_iload_n hx hb dX5_swap_18 rfl (lv_at hl 1 rfl) ?_
  refine lv_iload_n hx hb dX5_swap_19 rfl (lv_at hl 2 rfl) ?_
  obtain ⟨r20, hr20, hF⟩ := opb hF
  refine kVV (As := [.int x1, .int x2]) (rest := []) (ws' := (wd_X5_swap cI a_t a_row a_work a_rest a_bag a_smooth a_text a_saves a_bag_often a_row_signs a_saves_slots c_gone c_bag_total c_bag_often c_row_length r20 r11.1 r11.2)) ⟨hx, hb, hml, hown, hts⟩ (c_X1_exchange l D cI a_row a_row_signs H.size c_row_length c_row_signs x1 x2 r20 hr20) (cwV 2 hts mw_X5_108 rfl rfl rfl hd_X1_exchange ⟨Nat.le_of_ble_eq_true rfl, Nat.le_of_ble_eq_true rfl⟩) hS hA hG hK hP hD [3, 4] rfl rfl rfl rfl rfl ⟨Nat.zero_le _, Nat.zero_le _⟩ 1 3 rfl rfl rfl rfl hl.1 rfl (Nat.le_of_ble_eq_true rfl) dX5_swap_20 (fun H locs hP hD hS => ?_)
  refine lv_aload_n hx hb dX5_swap_23 rfl (lv_at hl 0 rfl) ?_
  refine lv_aload_n hx hb dX5_swap_24 rfl (lv_at hl 0 rfl) ?_
  refine get_X5_10 hx hb hts hown hK hP 0 rfl rfl dX5_swap_25 ?_
  obtain ⟨r28, hr28, hF⟩ := opb hF
  refine kVI (As := [.ref a_row]) (rest := []) (ws' := (wd_X5_swap cI a_t a_row a_work a_rest a_bag a_smooth a_text a_saves a_bag_often a_row_signs a_saves_slots c_gone r28.2.1 r28.2.2 c_row_length r20 r11.1 r11.2)) ⟨hx, hb, hml, hown, hts⟩ (c_X5_rankOf l D cI a_t a_row a_row a_work a_rest a_bag a_smooth a_text a_saves a_bag_often a_row_signs H.size c_gone c_bag_total c_bag_often c_row_length r20  r28 hr28) (cwV 1 hts mw_X5_57 rfl rfl rfl hd_X5_rankOf ⟨Nat.le_of_ble_eq_true rfl, Nat.le_of_ble_eq_true rfl⟩) hS hA hG hK hP hD [0, 1, 2, 3, 4] rfl rfl rfl rfl rfl ⟨Nat.zero_le _, Nat.zero_le _⟩ 5 0 rfl rfl rfl rfl hl.1 rfl (Nat.le_of_ble_eq_true rfl) dX5_swap_28 (fun H locs hP hD hS => ?_)
  have ho := Option.some.inj hF
  exact hret H locs ls 31 r28.1 _ hP hS (by rw [← ho]) (by rw [← ho]) dX5_swap_31
abbrev wd_X5_turn (cI : ClassId) (a_t a_row a_work a_rest a_bag a_smooth a_text a_saves a_bag_often a_row_signs a_saves_slots : Nat) (c_gone : Int32) (c_bag_total : Int32) (c_bag_often : Nat → Int32) (c_row_length : Int32) (c_row_signs : Nat → Int32) (c_saves_held : Int32) (c_saves_slots : Nat → Int32) : va_W := [(a_t, .inr (5, [.ref a_row, .ref a_work, .ref a_rest, .ref a_bag, .ref a_smooth, .ref a_text, .ref a_saves, .int c_gone])), (a_bag, .inr (0, [.ref a_bag_often, .int c_bag_total])), (a_bag_often, .inl (cI, 6, .inl c_bag_often)), (a_row, .inr (1, [.ref a_row_signs, .int c_row_length])), (a_row_signs, .inl (cI, 11, .inl c_row_signs)), (a_saves, .inr (2, [.ref a_saves_slots, .int c_saves_held])), (a_saves_slots, .inl (cI, 78, .inl c_saves_slots))]
def rm_X5_turn : Room := { frames := 4, cells := 0, slots := 0, locals := 91 }
set_option maxHeartbeats 4000000 in
set_option maxRecDepth 100000 in
theorem c_X5_turn (l : Launch) (D : va_G) (cI : ClassId) (a_t a_row a_work a_rest a_bag a_smooth a_text a_saves a_bag_often a_row_signs a_saves_slots : Nat) (sz : Nat) (c_gone : Int32) (c_bag_total : Int32) (c_bag_often : Nat → Int32) (c_row_length : Int32) (c_row_signs : Nat → Int32) (c_saves_held : Int32) (c_saves_slots : Nat → Int32) (x1 : Int32) (x2 : Int32) (o : Int32 × Int32 × (Nat → Int32) × (Nat → Int32) × Int32 × (Nat → Int32)) (hF : F_X5_turn c_gone c_bag_total c_bag_often c_row_length c_row_signs c_saves_held c_saves_slots x1 x2 = some o) : Met l yX5_turn (Cond.code yX5_turn cX5_turn 3 (some .int) :: WL) rm_X5_turn (preM D [(cI, .int)] (wd_X5_turn cI a_t a_row a_work a_rest a_bag a_smooth a_text a_saves a_bag_often a_row_signs a_saves_slots c_gone c_bag_total c_bag_often c_row_length c_row_signs c_saves_held c_saves_slots) sz [.ref a_t, .int x1, .int x2]) (postI D o.1 (wd_X5_turn cI a_t a_row a_work a_rest a_bag a_smooth a_text a_saves a_bag_often a_row_signs a_saves_slots c_gone o.2.1 o.2.2.1 c_row_length o.2.2.2.1 o.2.2.2.2.1 o.2.2.2.2.2) (wd_X5_turn cI a_t a_row a_work a_rest a_bag a_smooth a_text a_saves a_bag_often a_row_signs a_saves_slots c_gone c_bag_total c_bag_often c_row_length c_row_signs c_saves_held c_saves_slots) sz) 0 0 (va_A (wd_X5_turn cI a_t a_row a_work a_rest a_bag a_smooth a_text a_saves a_bag_often a_row_signs a_saves_slots c_gone c_bag_total c_bag_often c_row_length c_row_signs c_saves_held c_saves_slots) sz) := by
  refine mofI (by decide +kernel) (Nat.le_of_ble_eq_true rfl) ?_
  intro p e s m args below meth c Q A ls hx hb hml hown hts hK hP hD hS hA hG hl hret hsz0
  have hl : lv_has ls 3 [(0, .ref a_t), (1, .int x1), (2, .int x2)] := hl
  have K20 : ∀ (c_bag_total : Int32) (c_bag_often : Nat → Int32) (c_row_signs : Nat → Int32) (c_saves_held : Int32) (c_saves_slots : Nat → Int32) (v0 : Int32)  (H : Heap) (locs : List Loc) (ls : Array Slot), va_P D vwCl (wd_X5_turn cI a_t a_row a_work a_rest a_bag a_smooth a_text a_saves a_bag_often a_row_signs a_saves_slots c_gone c_bag_total c_bag_often c_row_length c_row_signs c_saves_held c_saves_slots) H → va_D A (wd_X5_turn cI a_t a_row a_work a_rest a_bag a_smooth a_text a_saves a_bag_often a_row_signs a_saves_slots c_gone c_bag_total c_bag_often c_row_length c_row_signs c_saves_held c_saves_slots) → va_S A s.heap H locs → lv_has ls 3 [(0, .ref a_t), (1, .int x1), (2, .int x2)] → F_X5_turn_J20 c_gone c_row_length x1 x2 c_bag_total c_bag_often c_row_signs c_saves_held c_saves_slots v0 = some o → W p l e rm_X5_turn s m args below meth c H locs 0 0 Q (F0 m 20 ls [.int v0]) := by
    intro c_bag_total c_bag_often c_row_signs c_saves_held c_saves_slots v0 H locs ls hP hD hS hl hF
    unfold F_X5_turn_J20 at hF
    obtain ⟨r20, hr20, hF⟩ := opb hF
    refine kSV (As := [.int v0]) (rest := []) (ws' := (wd_X5_turn cI a_t a_row a_work a_rest a_bag a_smooth a_text a_saves a_bag_often a_row_signs a_saves_slots c_gone c_bag_total c_bag_often c_row_length c_row_signs c_saves_held c_saves_slots)) ⟨hx, hb, hml, hown, hts⟩ (c_X5_need l D cI  H.size  v0 r20 hr20) (va_cwS 1 hts mw_X5_112 rfl rfl rfl hd_X5_need ⟨Nat.le_of_ble_eq_true rfl, Nat.le_of_ble_eq_true rfl⟩) hS hA hG hK hP hD [] rfl rfl rfl rfl rfl ⟨Nat.zero_le _, Nat.zero_le _⟩ rfl hl.1 rfl (Nat.le_of_ble_eq_true rfl) dX5_turn_20 (fun H locs hP hD hS => ?_)
    refine lv_aload_n hx hb dX5_turn_23 rfl (lv_at hl 0 rfl) ?_
    obtain ⟨r24, hr24, hF⟩ := opb hF
    refine kVV (As := []) (rest := []) (ws' := (wd_X5_turn cI a_t a_row a_work a_rest a_bag a_smooth a_text a_saves a_bag_often a_row_signs a_saves_slots c_gone c_bag_total c_bag_often c_row_length c_row_signs r24.1 r24.2)) ⟨hx, hb, hml, hown, hts⟩ (c_X5_save l D cI a_t a_row a_work a_rest a_bag a_smooth a_text a_saves a_row_signs a_saves_slots H.size c_gone c_row_length c_row_signs c_saves_held c_saves_slots  r24 hr24) (cwV 0 hts mw_X5_105 rfl rfl rfl hd_X5_save ⟨Nat.le_of_ble_eq_true rfl, Nat.le_of_ble_eq_true rfl⟩) hS hA hG hK hP hD [0, 3, 4, 5, 6] rfl rfl rfl rfl rfl ⟨Nat.zero_le _, Nat.zero_le _⟩ 5 0 rfl rfl rfl rfl hl.1 rfl (Nat.le_of_ble_eq_true rfl) dX5_turn_24 (fun H locs hP hD hS => ?_)
    refine lv_aload_n hx hb dX5_turn_27 rfl (lv_at hl 0 rfl) ?_
    refine get_X5_10 hx hb hts hown hK hP 0 rfl rfl dX5_turn_28 ?_
    refine lv_iload_n hx hb dX5_turn_31 rfl (lv_at hl 1 rfl) ?_
    refine lv_iload_n hx hb dX5_turn_32 rfl (lv_at hl 2 rfl) ?_
    obtain ⟨r33, hr33, hF⟩ := opb hF
    refine kVV (As := [.int x1, .int x2]) (rest := []) (ws' := (wd_X5_turn cI a_t a_row a_work a_rest a_bag a_smooth a_text a_saves a_bag_often a_row_signs a_saves_slots c_gone c_bag_total c_bag_often c_row_length r33 r24.1 r24.2)) ⟨hx, hb, hml, hown, hts⟩ (c_X1_reverse l D cI a_row a_row_signs H.size c_row_length c_row_signs x1 x2 r33 hr33) (cwV 2 hts mw_X5_116 rfl rfl rfl hd_X1_reverse ⟨Nat.le_of_ble_eq_true rfl, Nat.le_of_ble_eq_true rfl⟩) hS hA hG hK hP hD [3, 4] rfl rfl rfl rfl rfl ⟨Nat.zero_le _, Nat.zero_le _⟩ 1 3 rfl rfl rfl rfl hl.1 rfl (Nat.le_of_ble_eq_true rfl) dX5_turn_33 (fun H locs hP hD hS => ?_)
    refine lv_aload_n hx hb dX5_turn_36 rfl (lv_at hl 0 rfl) ?_
    refine lv_aload_n hx hb dX5_turn_37 rfl (lv_at hl 0 rfl) ?_
    refine get_X5_10 hx hb hts hown hK hP 0 rfl rfl dX5_turn_38 ?_
    obtain ⟨r41, hr41, hF⟩ := opb hF
    refine kVI (As := [.ref a_row]) (rest := []) (ws' := (wd_X5_turn cI a_t a_row a_work a_rest a_bag a_smooth a_text a_saves a_bag_often a_row_signs a_saves_slots c_gone r41.2.1 r41.2.2 c_row_length r33 r24.1 r24.2)) ⟨hx, hb, hml, hown, hts⟩ (c_X5_rankOf l D cI a_t a_row a_row a_work a_rest a_bag a_smooth a_text a_saves a_bag_often a_row_signs H.size c_gone c_bag_total c_bag_often c_row_length r33  r41 hr41) (cwV 1 hts mw_X5_57 rfl rfl rfl hd_X5_rankOf ⟨Nat.le_of_ble_eq_true rfl, Nat.le_of_ble_eq_true rfl⟩) hS hA hG hK hP hD [0, 1, 2, 3, 4] rfl rfl rfl rfl rfl ⟨Nat.zero_le _, Nat.zero_le _⟩ 5 0 rfl rfl rfl rfl hl.1 rfl (Nat.le_of_ble_eq_true rfl) dX5_turn_41 (fun H locs hP hD hS => ?_)
    have ho := Option.some.inj hF
    exact hret H locs ls 44 r41.1 _ hP hS (by rw [← ho]) (by rw [← ho]) dX5_turn_44
  unfold F_X5_turn at hF
  have hP : va_P D vwCl (wd_X5_turn cI a_t a_row a_work a_rest a_bag a_smooth a_text a_saves a_bag_often a_row_signs a_saves_slots c_gone c_bag_total c_bag_often c_row_length c_row_signs c_saves_held c_saves_slots) s.heap := hP
  obtain ⟨H, hH⟩ : ∃ H, H = s.heap := ⟨_, rfl⟩
  rw [← hH]
  rw [← hH] at hP
  obtain ⟨locs, hlo⟩ : ∃ z : List Loc, z = [] := ⟨_, rfl⟩
  rw [← hlo]
  have hS : va_S A s.heap H locs := by rw [hH, hlo]; exact hS
  refine lv_aload_n hx hb dX5_turn_0 rfl (lv_at hl 0 rfl) ?_
  refine lv_iload_n hx hb dX5_turn_1 rfl (lv_at hl 1 rfl) ?_
  obtain ⟨r2, hr2, hF⟩ := opb hF
  refine kVV (As := [.int x1]) (rest := []) (ws' := (wd_X5_turn cI a_t a_row a_work a_rest a_bag a_smooth a_text a_saves a_bag_often a_row_signs a_saves_slots c_gone c_bag_total c_bag_often c_row_length c_row_signs c_saves_held c_saves_slots)) ⟨hx, hb, hml, hown, hts⟩ (c_X5_needPlace l D cI a_t a_row a_work a_rest a_bag a_smooth a_text a_saves a_row_signs H.size c_gone c_row_length x1 r2 hr2) (cwV 1 hts mw_X5_102 rfl rfl rfl hd_X5_needPlace ⟨Nat.le_of_ble_eq_true rfl, Nat.le_of_ble_eq_true rfl⟩) hS hA hG hK hP hD [0, 3] rfl rfl rfl rfl rfl ⟨Nat.zero_le _, Nat.zero_le _⟩ 5 0 rfl rfl rfl rfl hl.1 rfl (Nat.le_of_ble_eq_true rfl) dX5_turn_2 (fun H locs hP hD hS => ?_)
  refine lv_aload_n hx hb dX5_turn_5 rfl (lv_at hl 0 rfl) ?_
  refine lv_iload_n hx hb dX5_turn_6 rfl (lv_at hl 2 rfl) ?_
  obtain ⟨r7, hr7, hF⟩ := opb hF
  refine kVV (As := [.int x2]) (rest := []) (ws' := (wd_X5_turn cI a_t a_row a_work a_rest a_bag a_smooth a_text a_saves a_bag_often a_row_signs a_saves_slots c_gone c_bag_total c_bag_often c_row_length c_row_signs c_saves_held c_saves_slots)) ⟨hx, hb, hml, hown, hts⟩ (c_X5_needPlace l D cI a_t a_row a_work a_rest a_bag a_smooth a_text a_saves a_row_signs H.size c_gone c_row_length x2 r7 hr7) (cwV 1 hts mw_X5_102 rfl rfl rfl hd_X5_needPlace ⟨Nat.le_of_ble_eq_true rfl, Nat.le_of_ble_eq_true rfl⟩) hS hA hG hK hP hD [0, 3] rfl rfl rfl rfl rfl ⟨Nat.zero_le _, Nat.zero_le _⟩ 5 0 rfl rfl rfl rfl hl.1 rfl (Nat.le_of_ble_eq_true rfl) dX5_turn_7 (fun H locs hP hD hS => ?_)
  refine lv_iload_n hx hb dX5_turn_10 rfl (lv_at hl 1 rfl) ?_
  refine lv_iload_n hx hb dX5_turn_11 rfl (lv_at hl 2 rfl) ?_
  refine lv_icmp_gt (tgt := 19) hx hb dX5_turn_12 (by decide) (fun k12 => ?_) (fun k12 => ?_)
  · (try simp only [if_pos k12] at hF)
    refine lv_iconst (v := 0) hx hb dX5_turn_19 (by decide) ?_
    exact K20 c_bag_total c_bag_often c_row_signs c_saves_held c_saves_slots (0 : Int32) H locs ls hP hD hS (lv_sub hl [0, 1, 2] rfl) hF
  · (try simp only [if_neg k12] at hF)
    refine lv_iconst (v := 1) hx hb dX5_turn_15 (by decide) ?_
    refine lv_goto (tgt := 20) hx hb dX5_turn_16 (by decide) ?_
    exact K20 c_bag_total c_bag_often c_row_signs c_saves_held c_saves_slots (1 : Int32) H locs ls hP hD hS (lv_sub hl [0, 1, 2] rfl) hF
abbrev wd_X5_carryOne (cI : ClassId) (a_t a_row a_work a_rest a_bag a_smooth a_text a_saves a_row_signs : Nat) (c_gone : Int32) (c_row_length : Int32) (c_row_signs : Nat → Int32) : va_W := [(a_t, .inr (5, [.ref a_row, .ref a_work, .ref a_rest, .ref a_bag, .ref a_smooth, .ref a_text, .ref a_saves, .int c_gone])), (a_row, .inr (1, [.ref a_row_signs, .int c_row_length])), (a_row_signs, .inl (cI, 11, .inl c_row_signs))]
def rm_X5_carryOne : Room := { frames := 4, cells := 0, slots := 0, locals := 88 }
set_option maxHeartbeats 4000000 in
set_option maxRecDepth 100000 in
theorem c_X5_carryOne (l : Launch) (D : va_G) (cI : ClassId) (a_t a_row a_work a_rest a_bag a_smooth a_text a_saves a_row_signs : Nat) (sz : Nat) (c_gone : Int32) (c_row_length : Int32) (c_row_signs : Nat → Int32) (x1 : Int32) (o : Int32 × (Nat → Int32)) (hF : F_X5_carryOne c_row_length c_row_signs x1 = some o) : Met l yX5_carryOne (Cond.code yX5_carryOne cX5_carryOne 2 (some .int) :: WL) rm_X5_carryOne (preM D [(cI, .int)] (wd_X5_carryOne cI a_t a_row a_work a_rest a_bag a_smooth a_text a_saves a_row_signs c_gone c_row_length c_row_signs) sz [.ref a_t, .int x1]) (postI D o.1 (wd_X5_carryOne cI a_t a_row a_work a_rest a_bag a_smooth a_text a_saves a_row_signs c_gone c_row_length o.2) (wd_X5_carryOne cI a_t a_row a_work a_rest a_bag a_smooth a_text a_saves a_row_signs c_gone c_row_length c_row_signs) sz) 0 0 (va_A (wd_X5_carryOne cI a_t a_row a_work a_rest a_bag a_smooth a_text a_saves a_row_signs c_gone c_row_length c_row_signs) sz) := by
  refine mofI (by decide +kernel) (Nat.le_of_ble_eq_true rfl) ?_
  intro p e s m args below meth c Q A ls hx hb hml hown hts hK hP hD hS hA hG hl hret hsz0
  have hl : lv_has ls 2 [(0, .ref a_t), (1, .int x1)] := hl
  unfold F_X5_carryOne at hF
  have hP : va_P D vwCl (wd_X5_carryOne cI a_t a_row a_work a_rest a_bag a_smooth a_text a_saves a_row_signs c_gone c_row_length c_row_signs) s.heap := hP
  obtain ⟨H, hH⟩ : ∃ H, H = s.heap := ⟨_, rfl⟩
  rw [← hH]
  rw [← hH] at hP
  obtain ⟨locs, hlo⟩ : ∃ z : List Loc, z = [] := ⟨_, rfl⟩
  rw [← hlo]
  have hS : va_S A s.heap H locs := by rw [hH, hlo]; exact hS
  refine lv_iload_n hx hb dX5_carryOne_0 rfl (lv_at hl 1 rfl) ?_
  refine lv_aload_n hx hb dX5_carryOne_1 rfl (lv_at hl 0 rfl) ?_
  refine get_X5_10 hx hb hts hown hK hP 0 rfl rfl dX5_carryOne_2 ?_
  obtain ⟨r5, hr5, hF⟩ := opb hF
  refine kVI (As := []) (rest := [.int x1]) (ws' := (wd_X5_carryOne cI a_t a_row a_work a_rest a_bag a_smooth a_text a_saves a_row_signs c_gone c_row_length c_row_signs)) ⟨hx, hb, hml, hown, hts⟩ (c_X1_length l D cI a_row a_row_signs H.size c_row_length  r5 hr5) (cwV 0 hts mw_X5_79 rfl rfl rfl hd_X1_length ⟨Nat.le_of_ble_eq_true rfl, Nat.le_of_ble_eq_true rfl⟩) hS hA hG hK hP hD [1] rfl rfl rfl rfl rfl ⟨Nat.zero_le _, Nat.zero_le _⟩ 1 1 rfl rfl rfl rfl hl.1 rfl (Nat.le_of_ble_eq_true rfl) dX5_carryOne_5 (fun H locs hP hD hS => ?_)
  refine lv_iconst (v := 1) hx hb dX5_carryOne_8 (by decide) ?_
  refine lv_isub hx hb dX5_carryOne_9 ?_
  refine lv_icmp_ge (tgt := 28) hx hb dX5_carryOne_10 (by decide) (fun k10 => ?_) (fun k10 => ?_)
  · replace hF := (if_pos k10).symm.trans hF
    refine lv_aload_n hx hb dX5_carryOne_28 rfl (lv_at hl 0 rfl) ?_
    refine get_X5_10 hx hb hts hown hK hP 0 rfl rfl dX5_carryOne_29 ?_
    obtain ⟨r32, hr32, hF⟩ := opb hF
    refine kVV (As := []) (rest := []) (ws' := (wd_X5_carryOne cI a_t a_row a_work a_rest a_bag a_smooth a_text a_saves a_row_signs c_gone c_row_length r32)) ⟨hx, hb, hml, hown, hts⟩ (c_X1_roll l D cI a_row a_row_signs H.size c_row_length c_row_signs  r32 hr32) (cwV 0 hts mw_X5_286 rfl rfl rfl hd_X1_roll ⟨Nat.le_of_ble_eq_true rfl, Nat.le_of_ble_eq_true rfl⟩) hS hA hG hK hP hD [1, 2] rfl rfl rfl rfl rfl ⟨Nat.zero_le _, Nat.zero_le _⟩ 1 1 rfl rfl rfl rfl hl.1 rfl (Nat.le_of_ble_eq_true rfl) dX5_carryOne_32 (fun H locs hP hD hS => ?_)
    refine lv_iconst (v := 0) hx hb dX5_carryOne_35 (by decide) ?_
    have ho := Option.some.inj hF
    exact hret H locs ls 36 (0 : Int32) _ hP hS (by rw [← ho]) (by rw [← ho]) dX5_carryOne_36
  · replace hF := (if_neg k10).symm.trans hF
    refine lv_aload_n hx hb dX5_carryOne_13 rfl (lv_at hl 0 rfl) ?_
    refine get_X5_10 hx hb hts hown hK hP 0 rfl rfl dX5_carryOne_14 ?_
    refine lv_iload_n hx hb dX5_carryOne_17 rfl (lv_at hl 1 rfl) ?_
    refine lv_iload_n hx hb dX5_carryOne_18 rfl (lv_at hl 1 rfl) ?_
    refine lv_iconst (v := 1) hx hb dX5_carryOne_19 (by decide) ?_
    refine lv_iadd hx hb dX5_carryOne_20 ?_
    obtain ⟨r21, hr21, hF⟩ := opb hF
    refine kVV (As := [.int x1, .int (x1 + (1 : Int32))]) (rest := []) (ws' := (wd_X5_carryOne cI a_t a_row a_work a_rest a_bag a_smooth a_text a_saves a_row_signs c_gone c_row_length r21)) ⟨hx, hb, hml, hown, hts⟩ (c_X1_exchange l D cI a_row a_row_signs H.size c_row_length c_row_signs x1 (x1 + (1 : Int32)) r21 hr21) (cwV 2 hts mw_X5_108 rfl rfl rfl hd_X1_exchange ⟨Nat.le_of_ble_eq_true rfl, Nat.le_of_ble_eq_true rfl⟩) hS hA hG hK hP hD [1, 2] rfl rfl rfl rfl rfl ⟨Nat.zero_le _, Nat.zero_le _⟩ 1 1 rfl rfl rfl rfl hl.1 rfl (Nat.le_of_ble_eq_true rfl) dX5_carryOne_21 (fun H locs hP hD hS => ?_)
    refine lv_iload_n hx hb dX5_carryOne_24 rfl (lv_at hl 1 rfl) ?_
    refine lv_iconst (v := 1) hx hb dX5_carryOne_25 (by decide) ?_
    refine lv_iadd hx hb dX5_carryOne_26 ?_
    have ho := Option.some.inj hF
    exact hret H locs ls 27 (x1 + (1 : Int32)) _ hP hS (by rw [← ho]) (by rw [← ho]) dX5_carryOne_27
abbrev wd_X5_carry (cI : ClassId) (a_t a_row a_work a_rest a_bag a_smooth a_text a_saves a_row_signs a_saves_slots : Nat) (c_gone : Int32) (c_row_length : Int32) (c_row_signs : Nat → Int32) (c_saves_held : Int32) (c_saves_slots : Nat → Int32) : va_W := [(a_t, .inr (5, [.ref a_row, .ref a_work, .ref a_rest, .ref a_bag, .ref a_smooth, .ref a_text, .ref a_saves, .int c_gone])), (a_row, .inr (1, [.ref a_row_signs, .int c_row_length])), (a_row_signs, .inl (cI, 11, .inl c_row_signs)), (a_saves, .inr (2, [.ref a_saves_slots, .int c_saves_held])), (a_saves_slots, .inl (cI, 78, .inl c_saves_slots))]
def rm_X5_carry : Room := { frames := 5, cells := 0, slots := 0, locals := 109 }
set_option maxHeartbeats 4000000 in
set_option maxRecDepth 100000 in
theorem c_X5_carry (l : Launch) (D : va_G) (cI : ClassId) (a_t a_row a_work a_rest a_bag a_smooth a_text a_saves a_row_signs a_saves_slots : Nat) (sz : Nat) (c_gone : Int32) (c_row_length : Int32) (c_row_signs : Nat → Int32) (c_saves_held : Int32) (c_saves_slots : Nat → Int32) (x1 : Int32) (x2 : Int32) (o : Int32 × (Nat → Int32) × Int32 × (Nat → Int32)) (hF : F_X5_carry c_gone c_row_length c_row_signs c_saves_held c_saves_slots x1 x2 = some o) : Met l yX5_carry (Cond.code yX5_carry cX5_carry 5 (some .int) :: WL) rm_X5_carry (preM D [(cI, .int)] (wd_X5_carry cI a_t a_row a_work a_rest a_bag a_smooth a_text a_saves a_row_signs a_saves_slots c_gone c_row_length c_row_signs c_saves_held c_saves_slots) sz [.ref a_t, .int x1, .int x2]) (postI D o.1 (wd_X5_carry cI a_t a_row a_work a_rest a_bag a_smooth a_text a_saves a_row_signs a_saves_slots c_gone c_row_length o.2.1 o.2.2.1 o.2.2.2) (wd_X5_carry cI a_t a_row a_work a_rest a_bag a_smooth a_text a_saves a_row_signs a_saves_slots c_gone c_row_length c_row_signs c_saves_held c_saves_slots) sz) 0 0 (va_A (wd_X5_carry cI a_t a_row a_work a_rest a_bag a_smooth a_text a_saves a_row_signs a_saves_slots c_gone c_row_length c_row_signs c_saves_held c_saves_slots) sz) := by
  refine mofI (by decide +kernel) (Nat.le_of_ble_eq_true rfl) ?_
  intro p e s m args below meth c Q A ls hx hb hml hown hts hK hP hD hS hA hG hl hret hsz0
  have hl : lv_has ls 5 [(0, .ref a_t), (1, .int x1), (2, .int x2)] := hl
  have K32 : ∀ (n32 : Nat) (c_row_signs : Nat → Int32) (c_saves_held : Int32) (c_saves_slots : Nat → Int32) (x3 : Int32) (x4 : Int32) (H : Heap) (locs : List Loc) (ls : Array Slot), va_P D vwCl (wd_X5_carry cI a_t a_row a_work a_rest a_bag a_smooth a_text a_saves a_row_signs a_saves_slots c_gone c_row_length c_row_signs c_saves_held c_saves_slots) H → va_D A (wd_X5_carry cI a_t a_row a_work a_rest a_bag a_smooth a_text a_saves a_row_signs a_saves_slots c_gone c_row_length c_row_signs c_saves_held c_saves_slots) → va_S A s.heap H locs → lv_has ls 5 [(0, .ref a_t), (2, .int x2), (3, .int x3), (4, .int x4)] → F_X5_carry_L32 c_gone c_row_length x1 x2 n32 c_row_signs c_saves_held c_saves_slots x3 x4 = some o → W p l e rm_X5_carry s m args below meth c H locs 0 0 Q (F0 m 32 ls []) := by
    intro n32
    induction n32 with
    | zero => intro c_row_signs c_saves_held c_saves_slots x3 x4 H locs ls hP hD hS hl hF; exact nos hF
    | succ n32 ih32 =>
      intro c_row_signs c_saves_held c_saves_slots x3 x4 H locs ls hP hD hS hl hF
      rw [F_X5_carry_L32] at hF
      refine lv_iload hx hb dX5_carry_32 (lv_at hl 3 rfl) ?_
      refine lv_iload_n hx hb dX5_carry_34 rfl (lv_at hl 1 rfl) ?_
      refine lv_icmp_ge (tgt := 50) hx hb dX5_carry_35 (by decide) (fun k35 => ?_) (fun k35 => ?_)
      · replace hF := (if_pos k35).symm.trans hF
        refine lv_iload_n hx hb dX5_carry_50 rfl (lv_at hl 2 rfl) ?_
        have ho := Option.some.inj hF
        exact hret H locs ls 51 x3 _ hP hS (by rw [← ho]) (by rw [← ho]) dX5_carry_51
      · replace hF := (if_neg k35).symm.trans hF
        refine lv_aload_n hx hb dX5_carry_38 rfl (lv_at hl 0 rfl) ?_
        refine lv_iload_n hx hb dX5_carry_39 rfl (lv_at hl 2 rfl) ?_
        obtain ⟨r40, hr40, hF⟩ := opb hF
        refine kVI (As := [.int x3]) (rest := []) (ws' := (wd_X5_carry cI a_t a_row a_work a_rest a_bag a_smooth a_text a_saves a_row_signs a_saves_slots c_gone c_row_length r40.2 c_saves_held c_saves_slots)) ⟨hx, hb, hml, hown, hts⟩ (c_X5_carryOne l D cI a_t a_row a_work a_rest a_bag a_smooth a_text a_saves a_row_signs H.size c_gone c_row_length c_row_signs x3 r40 hr40) (cwV 1 hts mw_X5_119 rfl rfl rfl hd_X5_carryOne ⟨Nat.le_of_ble_eq_true rfl, Nat.le_of_ble_eq_true rfl⟩) hS hA hG hK hP hD [0, 1, 2] rfl rfl rfl rfl rfl ⟨Nat.zero_le _, Nat.zero_le _⟩ 5 0 rfl rfl rfl rfl hl.1 rfl (Nat.le_of_ble_eq_true rfl) dX5_carry_40 (fun H locs hP hD hS => ?_)
        refine lv_istore_n (lv' := [(3, .int r40.1), (0, .ref a_t), (2, .int x2), (4, .int x4)]) hx hb dX5_carry_43 rfl hl (by decide) rfl (fun ls hl => ?_)
        refine lv_iinc (v := x4 + 1) (lv' := [(4, .int (x4 + 1)), (3, .int r40.1), (0, .ref a_t), (2, .int x2)]) hx hb dX5_carry_44 hl (k := 3) rfl rfl (by decide) rfl (fun ls hl => ?_)
        refine lv_goto (tgt := 32) hx hb dX5_carry_47 (by decide) ?_
        exact ih32 r40.2 c_saves_held c_saves_slots r40.1 (x4 + 1) H locs ls hP hD hS (lv_sub hl [2, 3, 1, 0] rfl) hF
  have K20 : ∀ (c_row_signs : Nat → Int32) (c_saves_held : Int32) (c_saves_slots : Nat → Int32) (v0 : Int32)  (H : Heap) (locs : List Loc) (ls : Array Slot), va_P D vwCl (wd_X5_carry cI a_t a_row a_work a_rest a_bag a_smooth a_text a_saves a_row_signs a_saves_slots c_gone c_row_length c_row_signs c_saves_held c_saves_slots) H → va_D A (wd_X5_carry cI a_t a_row a_work a_rest a_bag a_smooth a_text a_saves a_row_signs a_saves_slots c_gone c_row_length c_row_signs c_saves_held c_saves_slots) → va_S A s.heap H locs → lv_has ls 5 [(0, .ref a_t), (1, .int x1), (2, .int x2)] → F_X5_carry_J20 c_gone c_row_length x1 x2 c_row_signs c_saves_held c_saves_slots v0 = some o → W p l e rm_X5_carry s m args below meth c H locs 0 0 Q (F0 m 20 ls [.int v0]) := by
    intro c_row_signs c_saves_held c_saves_slots v0 H locs ls hP hD hS hl hF
    unfold F_X5_carry_J20 at hF
    obtain ⟨r20, hr20, hF⟩ := opb hF
    refine kSV (As := [.int v0]) (rest := []) (ws' := (wd_X5_carry cI a_t a_row a_work a_rest a_bag a_smooth a_text a_saves a_row_signs a_saves_slots c_gone c_row_length c_row_signs c_saves_held c_saves_slots)) ⟨hx, hb, hml, hown, hts⟩ (c_X5_need l D cI  H.size  v0 r20 hr20) (va_cwS 1 hts mw_X5_112 rfl rfl rfl hd_X5_need ⟨Nat.le_of_ble_eq_true rfl, Nat.le_of_ble_eq_true rfl⟩) hS hA hG hK hP hD [] rfl rfl rfl rfl rfl ⟨Nat.zero_le _, Nat.zero_le _⟩ rfl hl.1 rfl (Nat.le_of_ble_eq_true rfl) dX5_carry_20 (fun H locs hP hD hS => ?_)
    refine lv_aload_n hx hb dX5_carry_23 rfl (lv_at hl 0 rfl) ?_
    obtain ⟨r24, hr24, hF⟩ := opb hF
    refine kVV (As := []) (rest := []) (ws' := (wd_X5_carry cI a_t a_row a_work a_rest a_bag a_smooth a_text a_saves a_row_signs a_saves_slots c_gone c_row_length c_row_signs r24.1 r24.2)) ⟨hx, hb, hml, hown, hts⟩ (c_X5_save l D cI a_t a_row a_work a_rest a_bag a_smooth a_text a_saves a_row_signs a_saves_slots H.size c_gone c_row_length c_row_signs c_saves_held c_saves_slots  r24 hr24) (cwV 0 hts mw_X5_105 rfl rfl rfl hd_X5_save ⟨Nat.le_of_ble_eq_true rfl, Nat.le_of_ble_eq_true rfl⟩) hS hA hG hK hP hD [0, 1, 2, 3, 4] rfl rfl rfl rfl rfl ⟨Nat.zero_le _, Nat.zero_le _⟩ 5 0 rfl rfl rfl rfl hl.1 rfl (Nat.le_of_ble_eq_true rfl) dX5_carry_24 (fun H locs hP hD hS => ?_)
    refine lv_iload_n hx hb dX5_carry_27 rfl (lv_at hl 1 rfl) ?_
    refine lv_istore_n (lv' := [(3, .int x1), (0, .ref a_t), (1, .int x1), (2, .int x2)]) hx hb dX5_carry_28 rfl hl (by decide) rfl (fun ls hl => ?_)
    refine lv_iconst (v := 0) hx hb dX5_carry_29 (by decide) ?_
    refine lv_istore (lv' := [(4, .int (0 : Int32)), (3, .int x1), (0, .ref a_t), (1, .int x1), (2, .int x2)]) hx hb dX5_carry_30 hl (by decide) rfl (fun ls hl => ?_)
    exact K32 FU c_row_signs r24.1 r24.2 x1 (0 : Int32) H locs ls hP hD hS (lv_sub hl [2, 4, 1, 0] rfl) hF
  unfold F_X5_carry at hF
  have hP : va_P D vwCl (wd_X5_carry cI a_t a_row a_work a_rest a_bag a_smooth a_text a_saves a_row_signs a_saves_slots c_gone c_row_length c_row_signs c_saves_held c_saves_slots) s.heap := hP
  obtain ⟨H, hH⟩ : ∃ H, H = s.heap := ⟨_, rfl⟩
  rw [← hH]
  rw [← hH] at hP
  obtain ⟨locs, hlo⟩ : ∃ z : List Loc, z = [] := ⟨_, rfl⟩
  rw [← hlo]
  have hS : va_S A s.heap H locs := by rw [hH, hlo]; exact hS
  refine lv_aload_n hx hb dX5_carry_0 rfl (lv_at hl 0 rfl) ?_
  refine lv_iload_n hx hb dX5_carry_1 rfl (lv_at hl 1 rfl) ?_
  obtain ⟨r2, hr2, hF⟩ := opb hF
  refine kVV (As := [.int x1]) (rest := []) (ws' := (wd_X5_carry cI a_t a_row a_work a_rest a_bag a_smooth a_text a_saves a_row_signs a_saves_slots c_gone c_row_length c_row_signs c_saves_held c_saves_slots)) ⟨hx, hb, hml, hown, hts⟩ (c_X5_needPlace l D cI a_t a_row a_work a_rest a_bag a_smooth a_text a_saves a_row_signs H.size c_gone c_row_length x1 r2 hr2) (cwV 1 hts mw_X5_102 rfl rfl rfl hd_X5_needPlace ⟨Nat.le_of_ble_eq_true rfl, Nat.le_of_ble_eq_true rfl⟩) hS hA hG hK hP hD [0, 1] rfl rfl rfl rfl rfl ⟨Nat.zero_le _, Nat.zero_le _⟩ 5 0 rfl rfl rfl rfl hl.1 rfl (Nat.le_of_ble_eq_true rfl) dX5_carry_2 (fun H locs hP hD hS => ?_)
  refine lv_iload_n hx hb dX5_carry_5 rfl (lv_at hl 2 rfl) ?_
  refine lv_if_lt (tgt := 19) hx hb dX5_carry_6 (by decide) (fun k6 => ?_) (fun k6 => ?_)
  · (try simp only [if_pos k6] at hF)
    refine lv_iconst (v := 0) hx hb dX5_carry_19 (by decide) ?_
    exact K20 c_row_signs c_saves_held c_saves_slots (0 : Int32) H locs ls hP hD hS (lv_sub hl [0, 1, 2] rfl) hF
  · (try simp only [if_neg k6] at hF)
    refine lv_iload_n hx hb dX5_carry_9 rfl (lv_at hl 2 rfl) ?_
    refine lv_bipush (v := 20) hx hb dX5_carry_10 (by decide) ?_
    refine lv_icmp_gt (tgt := 19) hx hb dX5_carry_12 (by decide) (fun k12 => ?_) (fun k12 => ?_)
    · (try simp only [if_pos k12] at hF)
      refine lv_iconst (v := 0) hx hb dX5_carry_19 (by decide) ?_
      exact K20 c_row_signs c_saves_held c_saves_slots (0 : Int32) H locs ls hP hD hS (lv_sub hl [0, 1, 2] rfl) hF
    · (try simp only [if_neg k12] at hF)
      refine lv_iconst (v := 1) hx hb dX5_carry_15 (by decide) ?_
      refine lv_goto (tgt := 20) hx hb dX5_carry_16 (by decide) ?_
      exact K20 c_row_signs c_saves_held c_saves_slots (1 : Int32) H locs ls hP hD hS (lv_sub hl [0, 1, 2] rfl) hF
abbrev wd_X5_needSign (cI : ClassId)  : va_W := []
def rm_X5_needSign : Room := { frames := 1, cells := 0, slots := 0, locals := 20 }
set_option maxHeartbeats 4000000 in
set_option maxRecDepth 100000 in
theorem c_X5_needSign (l : Launch) (D : va_G) (cI : ClassId) (sz : Nat) (x0 : Int32) (o : Unit) (hF : F_X5_needSign x0 = some o) : Met l yX5_needSign (Cond.code yX5_needSign cX5_needSign 1 none :: WL) rm_X5_needSign (preM D [(cI, .int)] (wd_X5_needSign cI ) sz [.int x0]) (postV D (wd_X5_needSign cI ) (wd_X5_needSign cI ) sz) 0 0 (va_A (wd_X5_needSign cI ) sz) := by
  refine mofV (by decide +kernel) (Nat.le_of_ble_eq_true rfl) ?_
  intro p e s m args below meth c Q A ls hx hb hml hown hts hK hP hD hS hA hG hl hret hsz0
  have hl : lv_has ls 1 [(0, .int x0)] := hl
  have K15 : ∀ (v0 : Int32)  (H : Heap) (locs : List Loc) (ls : Array Slot), va_P D vwCl (wd_X5_needSign cI ) H → va_D A (wd_X5_needSign cI ) → va_S A s.heap H locs → lv_has ls 1 [] → F_X5_needSign_J15 x0 v0 = some o → W p l e rm_X5_needSign s m args below meth c H locs 0 0 Q (F0 m 15 ls [.int v0]) := by
    intro v0 H locs ls hP hD hS hl hF
    unfold F_X5_needSign_J15 at hF
    obtain ⟨r15, hr15, hF⟩ := opb hF
    refine kSV (As := [.int v0]) (rest := []) (ws' := (wd_X5_needSign cI )) ⟨hx, hb, hml, hown, hts⟩ (c_X5_need l D cI  H.size  v0 r15 hr15) (va_cwS 1 hts mw_X5_112 rfl rfl rfl hd_X5_need ⟨Nat.le_of_ble_eq_true rfl, Nat.le_of_ble_eq_true rfl⟩) hS hA hG hK hP hD [] rfl rfl rfl rfl rfl ⟨Nat.zero_le _, Nat.zero_le _⟩ rfl hl.1 rfl (Nat.le_of_ble_eq_true rfl) dX5_needSign_15 (fun H locs hP hD hS => ?_)
    have ho := Option.some.inj hF
    exact hret H locs ls 18 _ hP hS rfl dX5_needSign_18
  unfold F_X5_needSign at hF
  have hP : va_P D vwCl (wd_X5_needSign cI ) s.heap := hP
  obtain ⟨H, hH⟩ : ∃ H, H = s.heap := ⟨_, rfl⟩
  rw [← hH]
  rw [← hH] at hP
  obtain ⟨locs, hlo⟩ : ∃ z : List Loc, z = [] := ⟨_, rfl⟩
  rw [← hlo]
  have hS : va_S A s.heap H locs := by rw [hH, hlo]; exact hS
  refine lv_iload_n hx hb dX5_needSign_0 rfl (lv_at hl 0 rfl) ?_
  refine lv_if_lt (tgt := 14) hx hb dX5_needSign_1 (by decide) (fun k1 => ?_) (fun k1 => ?_)
  · (try simp only [if_pos k1] at hF)
    refine lv_iconst (v := 0) hx hb dX5_needSign_14 (by decide) ?_
    exact K15 (0 : Int32) H locs ls hP hD hS (lv_sub hl [] rfl) hF
  · (try simp only [if_neg k1] at hF)
    refine lv_iload_n hx hb dX5_needSign_4 rfl (lv_at hl 0 rfl) ?_
    refine lv_bipush (v := 6) hx hb dX5_needSign_5 (by decide) ?_
    refine lv_icmp_ge (tgt := 14) hx hb dX5_needSign_7 (by decide) (fun k7 => ?_) (fun k7 => ?_)
    · (try simp only [if_pos k7] at hF)
      refine lv_iconst (v := 0) hx hb dX5_needSign_14 (by decide) ?_
      exact K15 (0 : Int32) H locs ls hP hD hS (lv_sub hl [] rfl) hF
    · (try simp only [if_neg k7] at hF)
      refine lv_iconst (v := 1) hx hb dX5_needSign_10 (by decide) ?_
      refine lv_goto (tgt := 15) hx hb dX5_needSign_11 (by decide) ?_
      exact K15 (1 : Int32) H locs ls hP hD hS (lv_sub hl [] rfl) hF
abbrev wd_X5_put (cI : ClassId) (a_t a_row a_work a_rest a_bag a_smooth a_text a_saves a_bag_often a_row_signs a_saves_slots : Nat) (c_gone : Int32) (c_bag_total : Int32) (c_bag_often : Nat → Int32) (c_row_length : Int32) (c_row_signs : Nat → Int32) (c_saves_held : Int32) (c_saves_slots : Nat → Int32) : va_W := [(a_t, .inr (5, [.ref a_row, .ref a_work, .ref a_rest, .ref a_bag, .ref a_smooth, .ref a_text, .ref a_saves, .int c_gone])), (a_bag, .inr (0, [.ref a_bag_often, .int c_bag_total])), (a_bag_often, .inl (cI, 6, .inl c_bag_often)), (a_row, .inr (1, [.ref a_row_signs, .int c_row_length])), (a_row_signs, .inl (cI, 11, .inl c_row_signs)), (a_saves, .inr (2, [.ref a_saves_slots, .int c_saves_held])), (a_saves_slots, .inl (cI, 78, .inl c_saves_slots))]
def rm_X5_put : Room := { frames := 4, cells := 0, slots := 0, locals := 90 }
set_option maxHeartbeats 4000000 in
set_option maxRecDepth 100000 in
theorem c_X5_put (l : Launch) (D : va_G) (cI : ClassId) (a_t a_row a_work a_rest a_bag a_smooth a_text a_saves a_bag_often a_row_signs a_saves_slots : Nat) (sz : Nat) (c_gone : Int32) (c_bag_total : Int32) (c_bag_often : Nat → Int32) (c_row_length : Int32) (c_row_signs : Nat → Int32) (c_saves_held : Int32) (c_saves_slots : Nat → Int32) (x1 : Int32) (x2 : Int32) (o : Int32 × Int32 × (Nat → Int32) × Int32 × (Nat → Int32) × Int32 × (Nat → Int32)) (hF : F_X5_put c_gone c_bag_total c_bag_often c_row_length c_row_signs c_saves_held c_saves_slots x1 x2 = some o) : Met l yX5_put (Cond.code yX5_put cX5_put 3 (some .int) :: WL) rm_X5_put (preM D [(cI, .int)] (wd_X5_put cI a_t a_row a_work a_rest a_bag a_smooth a_text a_saves a_bag_often a_row_signs a_saves_slots c_gone c_bag_total c_bag_often c_row_length c_row_signs c_saves_held c_saves_slots) sz [.ref a_t, .int x1, .int x2]) (postI D o.1 (wd_X5_put cI a_t a_row a_work a_rest a_bag a_smooth a_text a_saves a_bag_often a_row_signs a_saves_slots c_gone o.2.1 o.2.2.1 o.2.2.2.1 o.2.2.2.2.1 o.2.2.2.2.2.1 o.2.2.2.2.2.2) (wd_X5_put cI a_t a_row a_work a_rest a_bag a_smooth a_text a_saves a_bag_often a_row_signs a_saves_slots c_gone c_bag_total c_bag_often c_row_length c_row_signs c_saves_held c_saves_slots) sz) 0 0 (va_A (wd_X5_put cI a_t a_row a_work a_rest a_bag a_smooth a_text a_saves a_bag_often a_row_signs a_saves_slots c_gone c_bag_total c_bag_often c_row_length c_row_signs c_saves_held c_saves_slots) sz) := by
  refine mofI (by decide +kernel) (Nat.le_of_ble_eq_true rfl) ?_
  intro p e s m args below meth c Q A ls hx hb hml hown hts hK hP hD hS hA hG hl hret hsz0
  have hl : lv_has ls 3 [(0, .ref a_t), (1, .int x1), (2, .int x2)] := hl
  unfold F_X5_put at hF
  have hP : va_P D vwCl (wd_X5_put cI a_t a_row a_work a_rest a_bag a_smooth a_text a_saves a_bag_often a_row_signs a_saves_slots c_gone c_bag_total c_bag_often c_row_length c_row_signs c_saves_held c_saves_slots) s.heap := hP
  obtain ⟨H, hH⟩ : ∃ H, H = s.heap := ⟨_, rfl⟩
  rw [← hH]
  rw [← hH] at hP
  obtain ⟨locs, hlo⟩ : ∃ z : List Loc, z = [] := ⟨_, rfl⟩
  rw [← hlo]
  have hS : va_S A s.heap H locs := by rw [hH, hlo]; exact hS
  refine lv_iload_n hx hb dX5_put_0 rfl (lv_at hl 1 rfl) ?_
  refine lv_if_lt (tgt := 15) hx hb dX5_put_1 (by decide) (fun k1 => ?_) (fun k1 => ?_)
  · replace hF := (if_pos k1).symm.trans hF
    exact nos hF
  · replace hF := (if_neg k1).symm.trans hF
    refine lv_iload_n hx hb dX5_put_4 rfl (lv_at hl 1 rfl) ?_
    refine lv_aload_n hx hb dX5_put_5 rfl (lv_at hl 0 rfl) ?_
    refine get_X5_10 hx hb hts hown hK hP 0 rfl rfl dX5_put_6 ?_
    obtain ⟨r9, hr9, hF⟩ := opb hF
    refine kVI (As := []) (rest := [.int x1]) (ws' := (wd_X5_put cI a_t a_row a_work a_rest a_bag a_smooth a_text a_saves a_bag_often a_row_signs a_saves_slots c_gone c_bag_total c_bag_often c_row_length c_row_signs c_saves_held c_saves_slots)) ⟨hx, hb, hml, hown, hts⟩ (c_X1_length l D cI a_row a_row_signs H.size c_row_length  r9 hr9) (cwV 0 hts mw_X5_79 rfl rfl rfl hd_X1_length ⟨Nat.le_of_ble_eq_true rfl, Nat.le_of_ble_eq_true rfl⟩) hS hA hG hK hP hD [3] rfl rfl rfl rfl rfl ⟨Nat.zero_le _, Nat.zero_le _⟩ 1 3 rfl rfl rfl rfl hl.1 rfl (Nat.le_of_ble_eq_true rfl) dX5_put_9 (fun H locs hP hD hS => ?_)
    refine lv_icmp_le (tgt := 25) hx hb dX5_put_12 (by decide) (fun k12 => ?_) (fun k12 => ?_)
    · replace hF := (if_pos k12).symm.trans hF
      refine lv_iload_n hx hb dX5_put_25 rfl (lv_at hl 2 rfl) ?_
      obtain ⟨r26, hr26, hF⟩ := opb hF
      refine kSV (As := [.int x2]) (rest := []) (ws' := (wd_X5_put cI a_t a_row a_work a_rest a_bag a_smooth a_text a_saves a_bag_often a_row_signs a_saves_slots c_gone c_bag_total c_bag_often c_row_length c_row_signs c_saves_held c_saves_slots)) ⟨hx, hb, hml, hown, hts⟩ (c_X5_needSign l D cI  H.size  x2 r26 hr26) (va_cwS 1 hts mw_X5_127 rfl rfl rfl hd_X5_needSign ⟨Nat.le_of_ble_eq_true rfl, Nat.le_of_ble_eq_true rfl⟩) hS hA hG hK hP hD [] rfl rfl rfl rfl rfl ⟨Nat.zero_le _, Nat.zero_le _⟩ rfl hl.1 rfl (Nat.le_of_ble_eq_true rfl) dX5_put_26 (fun H locs hP hD hS => ?_)
      refine lv_aload_n hx hb dX5_put_29 rfl (lv_at hl 0 rfl) ?_
      refine get_X5_10 hx hb hts hown hK hP 0 rfl rfl dX5_put_30 ?_
      obtain ⟨r33, hr33, hF⟩ := opb hF
      refine kVI (As := []) (rest := []) (ws' := (wd_X5_put cI a_t a_row a_work a_rest a_bag a_smooth a_text a_saves a_bag_often a_row_signs a_saves_slots c_gone c_bag_total c_bag_often c_row_length c_row_signs c_saves_held c_saves_slots)) ⟨hx, hb, hml, hown, hts⟩ (c_X1_length l D cI a_row a_row_signs H.size c_row_length  r33 hr33) (cwV 0 hts mw_X5_79 rfl rfl rfl hd_X1_length ⟨Nat.le_of_ble_eq_true rfl, Nat.le_of_ble_eq_true rfl⟩) hS hA hG hK hP hD [3] rfl rfl rfl rfl rfl ⟨Nat.zero_le _, Nat.zero_le _⟩ 1 3 rfl rfl rfl rfl hl.1 rfl (Nat.le_of_ble_eq_true rfl) dX5_put_33 (fun H locs hP hD hS => ?_)
      refine lv_bipush (v := 11) hx hb dX5_put_36 (by decide) ?_
      refine lv_icmp_lt (tgt := 51) hx hb dX5_put_38 (by decide) (fun k38 => ?_) (fun k38 => ?_)
      · replace hF := (if_pos k38).symm.trans hF
        refine lv_aload_n hx hb dX5_put_51 rfl (lv_at hl 0 rfl) ?_
        obtain ⟨r52, hr52, hF⟩ := opb hF
        refine kVV (As := []) (rest := []) (ws' := (wd_X5_put cI a_t a_row a_work a_rest a_bag a_smooth a_text a_saves a_bag_often a_row_signs a_saves_slots c_gone c_bag_total c_bag_often c_row_length c_row_signs r52.1 r52.2)) ⟨hx, hb, hml, hown, hts⟩ (c_X5_save l D cI a_t a_row a_work a_rest a_bag a_smooth a_text a_saves a_row_signs a_saves_slots H.size c_gone c_row_length c_row_signs c_saves_held c_saves_slots  r52 hr52) (cwV 0 hts mw_X5_105 rfl rfl rfl hd_X5_save ⟨Nat.le_of_ble_eq_true rfl, Nat.le_of_ble_eq_true rfl⟩) hS hA hG hK hP hD [0, 3, 4, 5, 6] rfl rfl rfl rfl rfl ⟨Nat.zero_le _, Nat.zero_le _⟩ 5 0 rfl rfl rfl rfl hl.1 rfl (Nat.le_of_ble_eq_true rfl) dX5_put_52 (fun H locs hP hD hS => ?_)
        refine lv_aload_n hx hb dX5_put_55 rfl (lv_at hl 0 rfl) ?_
        refine get_X5_10 hx hb hts hown hK hP 0 rfl rfl dX5_put_56 ?_
        refine lv_iload_n hx hb dX5_put_59 rfl (lv_at hl 1 rfl) ?_
        refine lv_iload_n hx hb dX5_put_60 rfl (lv_at hl 2 rfl) ?_
        obtain ⟨r61, hr61, hF⟩ := opb hF
        refine kVV (As := [.int x1, .int x2]) (rest := []) (ws' := (wd_X5_put cI a_t a_row a_work a_rest a_bag a_smooth a_text a_saves a_bag_often a_row_signs a_saves_slots c_gone c_bag_total c_bag_often r61.1 r61.2 r52.1 r52.2)) ⟨hx, hb, hml, hown, hts⟩ (c_X1_insert l D cI a_row a_row_signs H.size c_row_length c_row_signs x1 x2 r61 hr61) (cwV 2 hts mw_X5_132 rfl rfl rfl hd_X1_insert ⟨Nat.le_of_ble_eq_true rfl, Nat.le_of_ble_eq_true rfl⟩) hS hA hG hK hP hD [3, 4] rfl rfl rfl rfl rfl ⟨Nat.zero_le _, Nat.zero_le _⟩ 1 3 rfl rfl rfl rfl hl.1 rfl (Nat.le_of_ble_eq_true rfl) dX5_put_61 (fun H locs hP hD hS => ?_)
        refine lv_aload_n hx hb dX5_put_64 rfl (lv_at hl 0 rfl) ?_
        obtain ⟨r65, hr65, hF⟩ := opb hF
        refine kVI (As := []) (rest := []) (ws' := (wd_X5_put cI a_t a_row a_work a_rest a_bag a_smooth a_text a_saves a_bag_often a_row_signs a_saves_slots c_gone r65.2.1 r65.2.2 r61.1 r61.2 r52.1 r52.2)) ⟨hx, hb, hml, hown, hts⟩ (c_X5_all l D cI a_t a_row a_work a_rest a_bag a_smooth a_text a_saves a_bag_often a_row_signs H.size c_gone c_bag_total c_bag_often r61.1 r61.2  r65 hr65) (cwV 0 hts mw_X5_65 rfl rfl rfl hd_X5_all ⟨Nat.le_of_ble_eq_true rfl, Nat.le_of_ble_eq_true rfl⟩) hS hA hG hK hP hD [0, 1, 2, 3, 4] rfl rfl rfl rfl rfl ⟨Nat.zero_le _, Nat.zero_le _⟩ 5 0 rfl rfl rfl rfl hl.1 rfl (Nat.le_of_ble_eq_true rfl) dX5_put_65 (fun H locs hP hD hS => ?_)
        have ho := Option.some.inj hF
        exact hret H locs ls 68 r65.1 _ hP hS (by rw [← ho]) (by rw [← ho]) dX5_put_68
      · replace hF := (if_neg k38).symm.trans hF
        exact nos hF
    · replace hF := (if_neg k12).symm.trans hF
      exact nos hF
abbrev wd_X5_take (cI : ClassId) (a_t a_row a_work a_rest a_bag a_smooth a_text a_saves a_row_signs a_saves_slots : Nat) (c_gone : Int32) (c_row_length : Int32) (c_row_signs : Nat → Int32) (c_saves_held : Int32) (c_saves_slots : Nat → Int32) : va_W := [(a_t, .inr (5, [.ref a_row, .ref a_work, .ref a_rest, .ref a_bag, .ref a_smooth, .ref a_text, .ref a_saves, .int c_gone])), (a_row, .inr (1, [.ref a_row_signs, .int c_row_length])), (a_row_signs, .inl (cI, 11, .inl c_row_signs)), (a_saves, .inr (2, [.ref a_saves_slots, .int c_saves_held])), (a_saves_slots, .inl (cI, 78, .inl c_saves_slots))]
def rm_X5_take : Room := { frames := 4, cells := 0, slots := 0, locals := 87 }
set_option maxHeartbeats 4000000 in
set_option maxRecDepth 100000 in
theorem c_X5_take (l : Launch) (D : va_G) (cI : ClassId) (a_t a_row a_work a_rest a_bag a_smooth a_text a_saves a_row_signs a_saves_slots : Nat) (sz : Nat) (c_gone : Int32) (c_row_length : Int32) (c_row_signs : Nat → Int32) (c_saves_held : Int32) (c_saves_slots : Nat → Int32) (x1 : Int32) (o : Int32 × Int32 × (Nat → Int32) × Int32 × (Nat → Int32)) (hF : F_X5_take c_gone c_row_length c_row_signs c_saves_held c_saves_slots x1 = some o) : Met l yX5_take (Cond.code yX5_take cX5_take 3 (some .int) :: WL) rm_X5_take (preM D [(cI, .int)] (wd_X5_take cI a_t a_row a_work a_rest a_bag a_smooth a_text a_saves a_row_signs a_saves_slots c_gone c_row_length c_row_signs c_saves_held c_saves_slots) sz [.ref a_t, .int x1]) (postI D o.1 (wd_X5_take cI a_t a_row a_work a_rest a_bag a_smooth a_text a_saves a_row_signs a_saves_slots c_gone o.2.1 o.2.2.1 o.2.2.2.1 o.2.2.2.2) (wd_X5_take cI a_t a_row a_work a_rest a_bag a_smooth a_text a_saves a_row_signs a_saves_slots c_gone c_row_length c_row_signs c_saves_held c_saves_slots) sz) 0 0 (va_A (wd_X5_take cI a_t a_row a_work a_rest a_bag a_smooth a_text a_saves a_row_signs a_saves_slots c_gone c_row_length c_row_signs c_saves_held c_saves_slots) sz) := by
  refine mofI (by decide +kernel) (Nat.le_of_ble_eq_true rfl) ?_
  intro p e s m args below meth c Q A ls hx hb hml hown hts hK hP hD hS hA hG hl hret hsz0
  have hl : lv_has ls 3 [(0, .ref a_t), (1, .int x1)] := hl
  unfold F_X5_take at hF
  have hP : va_P D vwCl (wd_X5_take cI a_t a_row a_work a_rest a_bag a_smooth a_text a_saves a_row_signs a_saves_slots c_gone c_row_length c_row_signs c_saves_held c_saves_slots) s.heap := hP
  obtain ⟨H, hH⟩ : ∃ H, H = s.heap := ⟨_, rfl⟩
  rw [← hH]
  rw [← hH] at hP
  obtain ⟨locs, hlo⟩ : ∃ z : List Loc, z = [] := ⟨_, rfl⟩
  rw [← hlo]
  have hS : va_S A s.heap H locs := by rw [hH, hlo]; exact hS
  refine lv_aload_n hx hb dX5_take_0 rfl (lv_at hl 0 rfl) ?_
  refine lv_iload_n hx hb dX5_take_1 rfl (lv_at hl 1 rfl) ?_
  obtain ⟨r2, hr2, hF⟩ := opb hF
  refine kVV (As := [.int x1]) (rest := []) (ws' := (wd_X5_take cI a_t a_row a_work a_rest a_bag a_smooth a_text a_saves a_row_signs a_saves_slots c_gone c_row_length c_row_signs c_saves_held c_saves_slots)) ⟨hx, hb, hml, hown, hts⟩ (c_X5_needPlace l D cI a_t a_row a_work a_rest a_bag a_smooth a_text a_saves a_row_signs H.size c_gone c_row_length x1 r2 hr2) (cwV 1 hts mw_X5_102 rfl rfl rfl hd_X5_needPlace ⟨Nat.le_of_ble_eq_true rfl, Nat.le_of_ble_eq_true rfl⟩) hS hA hG hK hP hD [0, 1] rfl rfl rfl rfl rfl ⟨Nat.zero_le _, Nat.zero_le _⟩ 5 0 rfl rfl rfl rfl hl.1 rfl (Nat.le_of_ble_eq_true rfl) dX5_take_2 (fun H locs hP hD hS => ?_)
  refine lv_aload_n hx hb dX5_take_5 rfl (lv_at hl 0 rfl) ?_
  refine get_X5_10 hx hb hts hown hK hP 0 rfl rfl dX5_take_6 ?_
  obtain ⟨r9, hr9, hF⟩ := opb hF
  refine kVI (As := []) (rest := []) (ws' := (wd_X5_take cI a_t a_row a_work a_rest a_bag a_smooth a_text a_saves a_row_signs a_saves_slots c_gone c_row_length c_row_signs c_saves_held c_saves_slots)) ⟨hx, hb, hml, hown, hts⟩ (c_X1_length l D cI a_row a_row_signs H.size c_row_length  r9 hr9) (cwV 0 hts mw_X5_79 rfl rfl rfl hd_X1_length ⟨Nat.le_of_ble_eq_true rfl, Nat.le_of_ble_eq_true rfl⟩) hS hA hG hK hP hD [1] rfl rfl rfl rfl rfl ⟨Nat.zero_le _, Nat.zero_le _⟩ 1 1 rfl rfl rfl rfl hl.1 rfl (Nat.le_of_ble_eq_true rfl) dX5_take_9 (fun H locs hP hD hS => ?_)
  refine lv_iconst (v := 1) hx hb dX5_take_12 (by decide) ?_
  refine lv_icmp_gt (tgt := 26) hx hb dX5_take_13 (by decide) (fun k13 => ?_) (fun k13 => ?_)
  · replace hF := (if_pos k13).symm.trans hF
    refine lv_aload_n hx hb dX5_take_26 rfl (lv_at hl 0 rfl) ?_
    obtain ⟨r27, hr27, hF⟩ := opb hF
    refine kVV (As := []) (rest := []) (ws' := (wd_X5_take cI a_t a_row a_work a_rest a_bag a_smooth a_text a_saves a_row_signs a_saves_slots c_gone c_row_length c_row_signs r27.1 r27.2)) ⟨hx, hb, hml, hown, hts⟩ (c_X5_save l D cI a_t a_row a_work a_rest a_bag a_smooth a_text a_saves a_row_signs a_saves_slots H.size c_gone c_row_length c_row_signs c_saves_held c_saves_slots  r27 hr27) (cwV 0 hts mw_X5_105 rfl rfl rfl hd_X5_save ⟨Nat.le_of_ble_eq_true rfl, Nat.le_of_ble_eq_true rfl⟩) hS hA hG hK hP hD [0, 1, 2, 3, 4] rfl rfl rfl rfl rfl ⟨Nat.zero_le _, Nat.zero_le _⟩ 5 0 rfl rfl rfl rfl hl.1 rfl (Nat.le_of_ble_eq_true rfl) dX5_take_27 (fun H locs hP hD hS => ?_)
    refine lv_aload_n hx hb dX5_take_30 rfl (lv_at hl 0 rfl) ?_
    refine get_X5_10 hx hb hts hown hK hP 0 rfl rfl dX5_take_31 ?_
    refine lv_iload_n hx hb dX5_take_34 rfl (lv_at hl 1 rfl) ?_
    obtain ⟨r35, hr35, hF⟩ := opb hF
    refine kVI (As := [.int x1]) (rest := []) (ws' := (wd_X5_take cI a_t a_row a_work a_rest a_bag a_smooth a_text a_saves a_row_signs a_saves_slots c_gone c_row_length c_row_signs r27.1 r27.2)) ⟨hx, hb, hml, hown, hts⟩ (c_X1_at l D cI a_row a_row_signs H.size c_row_length c_row_signs x1 r35 hr35) (cwV 1 hts mw_X5_137 rfl rfl rfl hd_X1_at ⟨Nat.le_of_ble_eq_true rfl, Nat.le_of_ble_eq_true rfl⟩) hS hA hG hK hP hD [1, 2] rfl rfl rfl rfl rfl ⟨Nat.zero_le _, Nat.zero_le _⟩ 1 1 rfl rfl rfl rfl hl.1 rfl (Nat.le_of_ble_eq_true rfl) dX5_take_35 (fun H locs hP hD hS => ?_)
    refine lv_istore_n (lv' := [(2, .int r35), (0, .ref a_t), (1, .int x1)]) hx hb dX5_take_38 rfl hl (by decide) rfl (fun ls hl => ?_)
    refine lv_aload_n hx hb dX5_take_39 rfl (lv_at hl 1 rfl) ?_
    refine get_X5_10 hx hb hts hown hK hP 0 rfl rfl dX5_take_40 ?_
    refine lv_iload_n hx hb dX5_take_43 rfl (lv_at hl 2 rfl) ?_
    obtain ⟨r44, hr44, hF⟩ := opb hF
    refine kVV (As := [.int x1]) (rest := []) (ws' := (wd_X5_take cI a_t a_row a_work a_rest a_bag a_smooth a_text a_saves a_row_signs a_saves_slots c_gone r44.1 r44.2 r27.1 r27.2)) ⟨hx, hb, hml, hown, hts⟩ (c_X1_remove l D cI a_row a_row_signs H.size c_row_length c_row_signs x1 r44 hr44) (cwV 1 hts mw_X5_140 rfl rfl rfl hd_X1_remove ⟨Nat.le_of_ble_eq_true rfl, Nat.le_of_ble_eq_true rfl⟩) hS hA hG hK hP hD [1, 2] rfl rfl rfl rfl rfl ⟨Nat.zero_le _, Nat.zero_le _⟩ 1 1 rfl rfl rfl rfl hl.1 rfl (Nat.le_of_ble_eq_true rfl) dX5_take_44 (fun H locs hP hD hS => ?_)
    refine lv_iload_n hx hb dX5_take_47 rfl (lv_at hl 0 rfl) ?_
    have ho := Option.some.inj hF
    exact hret H locs ls 48 r35 _ hP hS (by rw [← ho]) (by rw [← ho]) dX5_take_48
  · replace hF := (if_neg k13).symm.trans hF
    exact nos hF
abbrev wd_X5_append (cI : ClassId) (a_t a_row a_work a_rest a_bag a_smooth a_text a_saves a_text_codes : Nat) (c_gone : Int32) (c_text_length : Int32) (c_text_codes : Nat → Int32) : va_W := [(a_t, .inr (5, [.ref a_row, .ref a_work, .ref a_rest, .ref a_bag, .ref a_smooth, .ref a_text, .ref a_saves, .int c_gone])), (a_text, .inr (4, [.ref a_text_codes, .int c_text_length])), (a_text_codes, .inl (cI, 60, .inl c_text_codes))]
def rm_X5_append : Room := { frames := 1, cells := 0, slots := 0, locals := 21 }
set_option maxHeartbeats 4000000 in
set_option maxRecDepth 100000 in
theorem c_X5_append (l : Launch) (D : va_G) (cI : ClassId) (a_t a_row a_work a_rest a_bag a_smooth a_text a_saves a_text_codes : Nat) (sz : Nat) (c_gone : Int32) (c_text_length : Int32) (c_text_codes : Nat → Int32) (x1 : Int32) (o : Int32 × Int32 × (Nat → Int32)) (hF : F_X5_append c_text_length c_text_codes x1 = some o) : Met l yX5_append (Cond.code yX5_append cX5_append 2 (some .int) :: WL) rm_X5_append (preM D [(cI, .int)] (wd_X5_append cI a_t a_row a_work a_rest a_bag a_smooth a_text a_saves a_text_codes c_gone c_text_length c_text_codes) sz [.ref a_t, .int x1]) (postI D o.1 (wd_X5_append cI a_t a_row a_work a_rest a_bag a_smooth a_text a_saves a_text_codes c_gone o.2.1 o.2.2) (wd_X5_append cI a_t a_row a_work a_rest a_bag a_smooth a_text a_saves a_text_codes c_gone c_text_length c_text_codes) sz) 0 0 (va_A (wd_X5_append cI a_t a_row a_work a_rest a_bag a_smooth a_text a_saves a_text_codes c_gone c_text_length c_text_codes) sz) := by
  refine mofI (by decide +kernel) (Nat.le_of_ble_eq_true rfl) ?_
  intro p e s m args below meth c Q A ls hx hb hml hown hts hK hP hD hS hA hG hl hret hsz0
  have hl : lv_has ls 2 [(0, .ref a_t), (1, .int x1)] := hl
  have K17 : ∀ (c_text_length : Int32) (c_text_codes : Nat → Int32) (v0 : Int32)  (H : Heap) (locs : List Loc) (ls : Array Slot), va_P D vwCl (wd_X5_append cI a_t a_row a_work a_rest a_bag a_smooth a_text a_saves a_text_codes c_gone c_text_length c_text_codes) H → va_D A (wd_X5_append cI a_t a_row a_work a_rest a_bag a_smooth a_text a_saves a_text_codes c_gone c_text_length c_text_codes) → va_S A s.heap H locs → lv_has ls 2 [(0, .ref a_t), (1, .int x1)] → F_X5_append_J17 x1 c_text_length c_text_codes v0 = some o → W p l e rm_X5_append s m args below meth c H locs 0 0 Q (F0 m 17 ls [.int v0]) := by
    intro c_text_length c_text_codes v0 H locs ls hP hD hS hl hF
    unfold F_X5_append_J17 at hF
    obtain ⟨r17, hr17, hF⟩ := opb hF
    refine kSV (As := [.int v0]) (rest := []) (ws' := (wd_X5_append cI a_t a_row a_work a_rest a_bag a_smooth a_text a_saves a_text_codes c_gone c_text_length c_text_codes)) ⟨hx, hb, hml, hown, hts⟩ (c_X5_need l D cI  H.size  v0 r17 hr17) (va_cwS 1 hts mw_X5_112 rfl rfl rfl hd_X5_need ⟨Nat.le_of_ble_eq_true rfl, Nat.le_of_ble_eq_true rfl⟩) hS hA hG hK hP hD [] rfl rfl rfl rfl rfl ⟨Nat.zero_le _, Nat.zero_le _⟩ rfl hl.1 rfl (Nat.le_of_ble_eq_true rfl) dX5_append_17 (fun H locs hP hD hS => ?_)
    refine lv_aload_n hx hb dX5_append_20 rfl (lv_at hl 0 rfl) ?_
    refine get_X5_39 hx hb hts hown hK hP 0 rfl rfl dX5_append_21 ?_
    obtain ⟨r24, hr24, hF⟩ := opb hF
    refine kVI (As := []) (rest := []) (ws' := (wd_X5_append cI a_t a_row a_work a_rest a_bag a_smooth a_text a_saves a_text_codes c_gone c_text_length c_text_codes)) ⟨hx, hb, hml, hown, hts⟩ (c_X4_length l D cI a_text a_text_codes H.size c_text_length  r24 hr24) (cwV 0 hts mw_X5_143 rfl rfl rfl hd_X4_length ⟨Nat.le_of_ble_eq_true rfl, Nat.le_of_ble_eq_true rfl⟩) hS hA hG hK hP hD [1] rfl rfl rfl rfl rfl ⟨Nat.zero_le _, Nat.zero_le _⟩ 4 1 rfl rfl rfl rfl hl.1 rfl (Nat.le_of_ble_eq_true rfl) dX5_append_24 (fun H locs hP hD hS => ?_)
    refine lv_bipush (v := 60) hx hb dX5_append_27 (by decide) ?_
    refine lv_icmp_lt (tgt := 42) hx hb dX5_append_29 (by decide) (fun k29 => ?_) (fun k29 => ?_)
    · replace hF := (if_pos k29).symm.trans hF
      refine lv_aload_n hx hb dX5_append_42 rfl (lv_at hl 0 rfl) ?_
      refine get_X5_39 hx hb hts hown hK hP 0 rfl rfl dX5_append_43 ?_
      refine lv_iload_n hx hb dX5_append_46 rfl (lv_at hl 1 rfl) ?_
      obtain ⟨r47, hr47, hF⟩ := opb hF
      refine kVV (As := [.int x1]) (rest := []) (ws' := (wd_X5_append cI a_t a_row a_work a_rest a_bag a_smooth a_text a_saves a_text_codes c_gone r47.1 r47.2)) ⟨hx, hb, hml, hown, hts⟩ (c_X4_add l D cI a_text a_text_codes H.size c_text_length c_text_codes x1 r47 hr47) (cwV 1 hts mw_X5_146 rfl rfl rfl hd_X4_add ⟨Nat.le_of_ble_eq_true rfl, Nat.le_of_ble_eq_true rfl⟩) hS hA hG hK hP hD [1, 2] rfl rfl rfl rfl rfl ⟨Nat.zero_le _, Nat.zero_le _⟩ 4 1 rfl rfl rfl rfl hl.1 rfl (Nat.le_of_ble_eq_true rfl) dX5_append_47 (fun H locs hP hD hS => ?_)
      refine lv_aload_n hx hb dX5_append_50 rfl (lv_at hl 0 rfl) ?_
      refine get_X5_39 hx hb hts hown hK hP 0 rfl rfl dX5_append_51 ?_
      obtain ⟨r54, hr54, hF⟩ := opb hF
      refine kVI (As := []) (rest := []) (ws' := (wd_X5_append cI a_t a_row a_work a_rest a_bag a_smooth a_text a_saves a_text_codes c_gone r47.1 r47.2)) ⟨hx, hb, hml, hown, hts⟩ (c_X4_length l D cI a_text a_text_codes H.size r47.1  r54 hr54) (cwV 0 hts mw_X5_143 rfl rfl rfl hd_X4_length ⟨Nat.le_of_ble_eq_true rfl, Nat.le_of_ble_eq_true rfl⟩) hS hA hG hK hP hD [1] rfl rfl rfl rfl rfl ⟨Nat.zero_le _, Nat.zero_le _⟩ 4 1 rfl rfl rfl rfl hl.1 rfl (Nat.le_of_ble_eq_true rfl) dX5_append_54 (fun H locs hP hD hS => ?_)
      have ho := Option.some.inj hF
      exact hret H locs ls 57 r54 _ hP hS (by rw [← ho]) (by rw [← ho]) dX5_append_57
    · replace hF := (if_neg k29).symm.trans hF
      exact nos hF
  unfold F_X5_append at hF
  have hP : va_P D vwCl (wd_X5_append cI a_t a_row a_work a_rest a_bag a_smooth a_text a_saves a_text_codes c_gone c_text_length c_text_codes) s.heap := hP
  obtain ⟨H, hH⟩ : ∃ H, H = s.heap := ⟨_, rfl⟩
  rw [← hH]
  rw [← hH] at hP
  obtain ⟨locs, hlo⟩ : ∃ z : List Loc, z = [] := ⟨_, rfl⟩
  rw [← hlo]
  have hS : va_S A s.heap H locs := by rw [hH, hlo]; exact hS
  refine lv_iload_n hx hb dX5_append_0 rfl (lv_at hl 1 rfl) ?_
  refine lv_bipush (v := 33) hx hb dX5_append_1 (by decide) ?_
  refine lv_icmp_lt (tgt := 16) hx hb dX5_append_3 (by decide) (fun k3 => ?_) (fun k3 => ?_)
  · (try simp only [if_pos k3] at hF)
    refine lv_iconst (v := 0) hx hb dX5_append_16 (by decide) ?_
    exact K17 c_text_length c_text_codes (0 : Int32) H locs ls hP hD hS (lv_sub hl [0, 1] rfl) hF
  · (try simp only [if_neg k3] at hF)
    refine lv_iload_n hx hb dX5_append_6 rfl (lv_at hl 1 rfl) ?_
    refine lv_bipush (v := 126) hx hb dX5_append_7 (by decide) ?_
    refine lv_icmp_gt (tgt := 16) hx hb dX5_append_9 (by decide) (fun k9 => ?_) (fun k9 => ?_)
    · (try simp only [if_pos k9] at hF)
      refine lv_iconst (v := 0) hx hb dX5_append_16 (by decide) ?_
      exact K17 c_text_length c_text_codes (0 : Int32) H locs ls hP hD hS (lv_sub hl [0, 1] rfl) hF
    · (try simp only [if_neg k9] at hF)
      refine lv_iconst (v := 1) hx hb dX5_append_12 (by decide) ?_
      refine lv_goto (tgt := 17) hx hb dX5_append_13 (by decide) ?_
      exact K17 c_text_length c_text_codes (1 : Int32) H locs ls hP hD hS (lv_sub hl [0, 1] rfl) hF
abbrev wd_X5_clearBuffer (cI : ClassId) (a_t a_row a_work a_rest a_bag a_smooth a_text a_saves a_text_codes : Nat) (c_gone : Int32) (c_text_length : Int32) : va_W := [(a_t, .inr (5, [.ref a_row, .ref a_work, .ref a_rest, .ref a_bag, .ref a_smooth, .ref a_text, .ref a_saves, .int c_gone])), (a_text, .inr (4, [.ref a_text_codes, .int c_text_length]))]
def rm_X5_clearBuffer : Room := { frames := 1, cells := 0, slots := 0, locals := 20 }
set_option maxHeartbeats 4000000 in
set_option maxRecDepth 100000 in
theorem c_X5_clearBuffer (l : Launch) (D : va_G) (cI : ClassId) (a_t a_row a_work a_rest a_bag a_smooth a_text a_saves a_text_codes : Nat) (sz : Nat) (c_gone : Int32) (c_text_length : Int32) (o : Int32 × Int32) (hF : F_X5_clearBuffer c_text_length = some o) : Met l yX5_clearBuffer (Cond.code yX5_clearBuffer cX5_clearBuffer 2 (some .int) :: WL) rm_X5_clearBuffer (preM D [(cI, .int)] (wd_X5_clearBuffer cI a_t a_row a_work a_rest a_bag a_smooth a_text a_saves a_text_codes c_gone c_text_length) sz [.ref a_t]) (postI D o.1 (wd_X5_clearBuffer cI a_t a_row a_work a_rest a_bag a_smooth a_text a_saves a_text_codes c_gone o.2) (wd_X5_clearBuffer cI a_t a_row a_work a_rest a_bag a_smooth a_text a_saves a_text_codes c_gone c_text_length) sz) 0 0 (va_A (wd_X5_clearBuffer cI a_t a_row a_work a_rest a_bag a_smooth a_text a_saves a_text_codes c_gone c_text_length) sz) := by
  refine mofI (by decide +kernel) (Nat.le_of_ble_eq_true rfl) ?_
  intro p e s m args below meth c Q A ls hx hb hml hown hts hK hP hD hS hA hG hl hret hsz0
  have hl : lv_has ls 2 [(0, .ref a_t)] := hl
  unfold F_X5_clearBuffer at hF
  have hP : va_P D vwCl (wd_X5_clearBuffer cI a_t a_row a_work a_rest a_bag a_smooth a_text a_saves a_text_codes c_gone c_text_length) s.heap := hP
  obtain ⟨H, hH⟩ : ∃ H, H = s.heap := ⟨_, rfl⟩
  rw [← hH]
  rw [← hH] at hP
  obtain ⟨locs, hlo⟩ : ∃ z : List Loc, z = [] := ⟨_, rfl⟩
  rw [← hlo]
  have hS : va_S A s.heap H locs := by rw [hH, hlo]; exact hS
  refine lv_aload_n hx hb dX5_clearBuffer_0 rfl (lv_at hl 0 rfl) ?_
  refine get_X5_39 hx hb hts hown hK hP 0 rfl rfl dX5_clearBuffer_1 ?_
  obtain ⟨r4, hr4, hF⟩ := opb hF
  refine kVI (As := []) (rest := []) (ws' := (wd_X5_clearBuffer cI a_t a_row a_work a_rest a_bag a_smooth a_text a_saves a_text_codes c_gone c_text_length)) ⟨hx, hb, hml, hown, hts⟩ (c_X4_length l D cI a_text a_text_codes H.size c_text_length  r4 hr4) (cwV 0 hts mw_X5_143 rfl rfl rfl hd_X4_length ⟨Nat.le_of_ble_eq_true rfl, Nat.le_of_ble_eq_true rfl⟩) hS hA hG hK hP hD [1] rfl rfl rfl rfl rfl ⟨Nat.zero_le _, Nat.zero_le _⟩ 4 1 rfl rfl rfl rfl hl.1 rfl (Nat.le_of_ble_eq_true rfl) dX5_clearBuffer_4 (fun H locs hP hD hS => ?_)
  refine lv_istore_n (lv' := [(1, .int r4), (0, .ref a_t)]) hx hb dX5_clearBuffer_7 rfl hl (by decide) rfl (fun ls hl => ?_)
  refine lv_aload_n hx hb dX5_clearBuffer_8 rfl (lv_at hl 1 rfl) ?_
  refine get_X5_39 hx hb hts hown hK hP 0 rfl rfl dX5_clearBuffer_9 ?_
  obtain ⟨r12, hr12, hF⟩ := opb hF
  refine kVV (As := []) (rest := []) (ws' := (wd_X5_clearBuffer cI a_t a_row a_work a_rest a_bag a_smooth a_text a_saves a_text_codes c_gone r12)) ⟨hx, hb, hml, hown, hts⟩ (c_X4_clear l D cI a_text a_text_codes H.size c_text_length  r12 hr12) (cwV 0 hts mw_X5_147 rfl rfl rfl hd_X4_clear ⟨Nat.le_of_ble_eq_true rfl, Nat.le_of_ble_eq_true rfl⟩) hS hA hG hK hP hD [1] rfl rfl rfl rfl rfl ⟨Nat.zero_le _, Nat.zero_le _⟩ 4 1 rfl rfl rfl rfl hl.1 rfl (Nat.le_of_ble_eq_true rfl) dX5_clearBuffer_12 (fun H locs hP hD hS => ?_)
  refine lv_iload_n hx hb dX5_clearBuffer_15 rfl (lv_at hl 0 rfl) ?_
  have ho := Option.some.inj hF
  exact hret H locs ls 16 r4 _ hP hS (by rw [← ho]) (by rw [← ho]) dX5_clearBuffer_16
abbrev wd_X5_firstError (cI : ClassId) (a_t a_row a_work a_rest a_bag a_smooth a_text a_saves a_text_codes : Nat) (c_gone : Int32) (c_text_length : Int32) (c_text_codes : Nat → Int32) : va_W := [(a_t, .inr (5, [.ref a_row, .ref a_work, .ref a_rest, .ref a_bag, .ref a_smooth, .ref a_text, .ref a_saves, .int c_gone])), (a_text, .inr (4, [.ref a_text_codes, .int c_text_length])), (a_text_codes, .inl (cI, 60, .inl c_text_codes))]
def rm_X5_firstError : Room := { frames := 4, cells := 0, slots := 0, locals := 87 }
set_option maxHeartbeats 4000000 in
set_option maxRecDepth 100000 in
theorem c_X5_firstError (l : Launch) (D : va_G) (cI : ClassId) (a_t a_row a_work a_rest a_bag a_smooth a_text a_saves a_text_codes : Nat) (sz : Nat) (c_gone : Int32) (c_text_length : Int32) (c_text_codes : Nat → Int32) (o : Int32) (hF : F_X5_firstError c_text_length c_text_codes = some o) : Met l yX5_firstError (Cond.code yX5_firstError cX5_firstError 1 (some .int) :: WL) rm_X5_firstError (preM D [(cI, .int)] (wd_X5_firstError cI a_t a_row a_work a_rest a_bag a_smooth a_text a_saves a_text_codes c_gone c_text_length c_text_codes) sz [.ref a_t]) (postI D o (wd_X5_firstError cI a_t a_row a_work a_rest a_bag a_smooth a_text a_saves a_text_codes c_gone c_text_length c_text_codes) (wd_X5_firstError cI a_t a_row a_work a_rest a_bag a_smooth a_text a_saves a_text_codes c_gone c_text_length c_text_codes) sz) 0 0 (va_A (wd_X5_firstError cI a_t a_row a_work a_rest a_bag a_smooth a_text a_saves a_text_codes c_gone c_text_length c_text_codes) sz) := by
  refine mofI (by decide +kernel) (Nat.le_of_ble_eq_true rfl) ?_
  intro p e s m args below meth c Q A ls hx hb hml hown hts hK hP hD hS hA hG hl hret hsz0
  have hl : lv_has ls 1 [(0, .ref a_t)] := hl
  unfold F_X5_firstError at hF
  have hP : va_P D vwCl (wd_X5_firstError cI a_t a_row a_work a_rest a_bag a_smooth a_text a_saves a_text_codes c_gone c_text_length c_text_codes) s.heap := hP
  obtain ⟨H, hH⟩ : ∃ H, H = s.heap := ⟨_, rfl⟩
  rw [← hH]
  rw [← hH] at hP
  obtain ⟨locs, hlo⟩ : ∃ z : List Loc, z = [] := ⟨_, rfl⟩
  rw [← hlo]
  have hS : va_S A s.heap H locs := by rw [hH, hlo]; exact hS
  refine lv_aload_n hx hb dX5_firstError_0 rfl (lv_at hl 0 rfl) ?_
  refine get_X5_39 hx hb hts hown hK hP 0 rfl rfl dX5_firstError_1 ?_
  obtain ⟨r4, hr4, hF⟩ := opb hF
  refine kVI (As := []) (rest := []) (ws' := (wd_X5_firstError cI a_t a_row a_work a_rest a_bag a_smooth a_text a_saves a_text_codes c_gone c_text_length c_text_codes)) ⟨hx, hb, hml, hown, hts⟩ (c_X4_firstBad l D cI a_text a_text_codes H.size c_text_length c_text_codes  r4 hr4) (cwV 0 hts mw_X5_150 rfl rfl rfl hd_X4_firstBad ⟨Nat.le_of_ble_eq_true rfl, Nat.le_of_ble_eq_true rfl⟩) hS hA hG hK hP hD [1, 2] rfl rfl rfl rfl rfl ⟨Nat.zero_le _, Nat.zero_le _⟩ 4 1 rfl rfl rfl rfl hl.1 rfl (Nat.le_of_ble_eq_true rfl) dX5_firstError_4 (fun H locs hP hD hS => ?_)
  have ho := Option.some.inj hF
  exact hret H locs ls 7 r4 _ hP hS rfl ho dX5_firstError_7
abbrev wd_X5_read (cI : ClassId) (a_t a_row a_work a_rest a_bag a_smooth a_text a_saves a_bag_often a_row_signs a_saves_slots a_text_codes : Nat) (c_gone : Int32) (c_bag_total : Int32) (c_bag_often : Nat → Int32) (c_row_length : Int32) (c_row_signs : Nat → Int32) (c_saves_held : Int32) (c_saves_slots : Nat → Int32) (c_text_length : Int32) (c_text_codes : Nat → Int32) : va_W := [(a_t, .inr (5, [.ref a_row, .ref a_work, .ref a_rest, .ref a_bag, .ref a_smooth, .ref a_text, .ref a_saves, .int c_gone])), (a_bag, .inr (0, [.ref a_bag_often, .int c_bag_total])), (a_bag_often, .inl (cI, 6, .inl c_bag_often)), (a_row, .inr (1, [.ref a_row_signs, .int c_row_length])), (a_row_signs, .inl (cI, 11, .inl c_row_signs)), (a_saves, .inr (2, [.ref a_saves_slots, .int c_saves_held])), (a_saves_slots, .inl (cI, 78, .inl c_saves_slots)), (a_text, .inr (4, [.ref a_text_codes, .int c_text_length])), (a_text_codes, .inl (cI, 60, .inl c_text_codes))]
def rm_X5_read : Room := { frames := 4, cells := 0, slots := 0, locals := 91 }
set_option maxHeartbeats 4000000 in
set_option maxRecDepth 100000 in
theorem c_X5_read (l : Launch) (D : va_G) (cI : ClassId) (a_t a_row a_work a_rest a_bag a_smooth a_text a_saves a_bag_often a_row_signs a_saves_slots a_text_codes : Nat) (sz : Nat) (c_gone : Int32) (c_bag_total : Int32) (c_bag_often : Nat → Int32) (c_row_length : Int32) (c_row_signs : Nat → Int32) (c_saves_held : Int32) (c_saves_slots : Nat → Int32) (c_text_length : Int32) (c_text_codes : Nat → Int32) (o : Int32 × Int32 × (Nat → Int32) × Int32 × (Nat → Int32) × Int32 × (Nat → Int32) × Int32) (hF : F_X5_read c_gone c_bag_total c_bag_often c_row_length c_row_signs c_saves_held c_saves_slots c_text_length c_text_codes = some o) : Met l yX5_read (Cond.code yX5_read cX5_read 1 (some .int) :: WL) rm_X5_read (preM D [(cI, .int)] (wd_X5_read cI a_t a_row a_work a_rest a_bag a_smooth a_text a_saves a_bag_often a_row_signs a_saves_slots a_text_codes c_gone c_bag_total c_bag_often c_row_length c_row_signs c_saves_held c_saves_slots c_text_length c_text_codes) sz [.ref a_t]) (postI D o.1 (wd_X5_read cI a_t a_row a_work a_rest a_bag a_smooth a_text a_saves a_bag_often a_row_signs a_saves_slots a_text_codes c_gone o.2.1 o.2.2.1 o.2.2.2.1 o.2.2.2.2.1 o.2.2.2.2.2.1 o.2.2.2.2.2.2.1 o.2.2.2.2.2.2.2 c_text_codes) (wd_X5_read cI a_t a_row a_work a_rest a_bag a_smooth a_text a_saves a_bag_often a_row_signs a_saves_slots a_text_codes c_gone c_bag_total c_bag_often c_row_length c_row_signs c_saves_held c_saves_slots c_text_length c_text_codes) sz) 0 0 (va_A (wd_X5_read cI a_t a_row a_work a_rest a_bag a_smooth a_text a_saves a_bag_often a_row_signs a_saves_slots a_text_codes c_gone c_bag_total c_bag_often c_row_length c_row_signs c_saves_held c_saves_slots c_text_length c_text_codes) sz) := by
  refine mofI (by decide +kernel) (Nat.le_of_ble_eq_true rfl) ?_
  intro p e s m args below meth c Q A ls hx hb hml hown hts hK hP hD hS hA hG hl hret hsz0
  have hl : lv_has ls 1 [(0, .ref a_t)] := hl
  unfold F_X5_read at hF
  have hP : va_P D vwCl (wd_X5_read cI a_t a_row a_work a_rest a_bag a_smooth a_text a_saves a_bag_often a_row_signs a_saves_slots a_text_codes c_gone c_bag_total c_bag_often c_row_length c_row_signs c_saves_held c_saves_slots c_text_length c_text_codes) s.heap := hP
  obtain ⟨H, hH⟩ : ∃ H, H = s.heap := ⟨_, rfl⟩
  rw [← hH]
  rw [← hH] at hP
  obtain ⟨locs, hlo⟩ : ∃ z : List Loc, z = [] := ⟨_, rfl⟩
  rw [← hlo]
  have hS : va_S A s.heap H locs := by rw [hH, hlo]; exact hS
  refine lv_aload_n hx hb dX5_read_0 rfl (lv_at hl 0 rfl) ?_
  refine get_X5_39 hx hb hts hown hK hP 0 rfl rfl dX5_read_1 ?_
  obtain ⟨r4, hr4, hF⟩ := opb hF
  refine kVI (As := []) (rest := []) (ws' := (wd_X5_read cI a_t a_row a_work a_rest a_bag a_smooth a_text a_saves a_bag_often a_row_signs a_saves_slots a_text_codes c_gone c_bag_total c_bag_often c_row_length c_row_signs c_saves_held c_saves_slots c_text_length c_text_codes)) ⟨hx, hb, hml, hown, hts⟩ (c_X4_length l D cI a_text a_text_codes H.size c_text_length  r4 hr4) (cwV 0 hts mw_X5_143 rfl rfl rfl hd_X4_length ⟨Nat.le_of_ble_eq_true rfl, Nat.le_of_ble_eq_true rfl⟩) hS hA hG hK hP hD [7] rfl rfl rfl rfl rfl ⟨Nat.zero_le _, Nat.zero_le _⟩ 4 7 rfl rfl rfl rfl hl.1 rfl (Nat.le_of_ble_eq_true rfl) dX5_read_4 (fun H locs hP hD hS => ?_)
  refine lv_if_eq (tgt := 27) hx hb dX5_read_7 (by decide) (fun k7 => ?_) (fun k7 => ?_)
  · replace hF := (if_pos k7).symm.trans hF
    exact nos hF
  · replace hF := (if_neg k7).symm.trans hF
    refine lv_aload_n hx hb dX5_read_10 rfl (lv_at hl 0 rfl) ?_
    refine get_X5_39 hx hb hts hown hK hP 0 rfl rfl dX5_read_11 ?_
    obtain ⟨r14, hr14, hF⟩ := opb hF
    refine kVI (As := []) (rest := []) (ws' := (wd_X5_read cI a_t a_row a_work a_rest a_bag a_smooth a_text a_saves a_bag_often a_row_signs a_saves_slots a_text_codes c_gone c_bag_total c_bag_often c_row_length c_row_signs c_saves_held c_saves_slots c_text_length c_text_codes)) ⟨hx, hb, hml, hown, hts⟩ (c_X4_firstBad l D cI a_text a_text_codes H.size c_text_length c_text_codes  r14 hr14) (cwV 0 hts mw_X5_150 rfl rfl rfl hd_X4_firstBad ⟨Nat.le_of_ble_eq_true rfl, Nat.le_of_ble_eq_true rfl⟩) hS hA hG hK hP hD [7, 8] rfl rfl rfl rfl rfl ⟨Nat.zero_le _, Nat.zero_le _⟩ 4 7 rfl rfl rfl rfl hl.1 rfl (Nat.le_of_ble_eq_true rfl) dX5_read_14 (fun H locs hP hD hS => ?_)
    refine lv_aload_n hx hb dX5_read_17 rfl (lv_at hl 0 rfl) ?_
    refine get_X5_39 hx hb hts hown hK hP 0 rfl rfl dX5_read_18 ?_
    obtain ⟨r21, hr21, hF⟩ := opb hF
    refine kVI (As := []) (rest := [.int r14]) (ws' := (wd_X5_read cI a_t a_row a_work a_rest a_bag a_smooth a_text a_saves a_bag_often a_row_signs a_saves_slots a_text_codes c_gone c_bag_total c_bag_often c_row_length c_row_signs c_saves_held c_saves_slots c_text_length c_text_codes)) ⟨hx, hb, hml, hown, hts⟩ (c_X4_length l D cI a_text a_text_codes H.size c_text_length  r21 hr21) (cwV 0 hts mw_X5_143 rfl rfl rfl hd_X4_length ⟨Nat.le_of_ble_eq_true rfl, Nat.le_of_ble_eq_true rfl⟩) hS hA hG hK hP hD [7] rfl rfl rfl rfl rfl ⟨Nat.zero_le _, Nat.zero_le _⟩ 4 7 rfl rfl rfl rfl hl.1 rfl (Nat.le_of_ble_eq_true rfl) dX5_read_21 (fun H locs hP hD hS => ?_)
    refine lv_icmp_ge (tgt := 37) hx hb dX5_read_24 (by decide) (fun k24 => ?_) (fun k24 => ?_)
    · replace hF := (if_pos k24).symm.trans hF
      refine lv_aload_n hx hb dX5_read_37 rfl (lv_at hl 0 rfl) ?_
      obtain ⟨r38, hr38, hF⟩ := opb hF
      refine kVV (As := []) (rest := []) (ws' := (wd_X5_read cI a_t a_row a_work a_rest a_bag a_smooth a_text a_saves a_bag_often a_row_signs a_saves_slots a_text_codes c_gone c_bag_total c_bag_often c_row_length c_row_signs r38.1 r38.2 c_text_length c_text_codes)) ⟨hx, hb, hml, hown, hts⟩ (c_X5_save l D cI a_t a_row a_work a_rest a_bag a_smooth a_text a_saves a_row_signs a_saves_slots H.size c_gone c_row_length c_row_signs c_saves_held c_saves_slots  r38 hr38) (cwV 0 hts mw_X5_105 rfl rfl rfl hd_X5_save ⟨Nat.le_of_ble_eq_true rfl, Nat.le_of_ble_eq_true rfl⟩) hS hA hG hK hP hD [0, 3, 4, 5, 6] rfl rfl rfl rfl rfl ⟨Nat.zero_le _, Nat.zero_le _⟩ 5 0 rfl rfl rfl rfl hl.1 rfl (Nat.le_of_ble_eq_true rfl) dX5_read_38 (fun H locs hP hD hS => ?_)
      refine lv_aload_n hx hb dX5_read_41 rfl (lv_at hl 0 rfl) ?_
      refine get_X5_39 hx hb hts hown hK hP 0 rfl rfl dX5_read_42 ?_
      refine lv_aload_n hx hb dX5_read_45 rfl (lv_at hl 0 rfl) ?_
      refine get_X5_10 hx hb hts hown hK hP 0 rfl rfl dX5_read_46 ?_
      obtain ⟨r49, hr49, hF⟩ := opb hF
      refine kVV (As := [.ref a_row]) (rest := []) (ws' := (wd_X5_read cI a_t a_row a_work a_rest a_bag a_smooth a_text a_saves a_bag_often a_row_signs a_saves_slots a_text_codes c_gone c_bag_total c_bag_often r49.1 r49.2 r38.1 r38.2 c_text_length c_text_codes)) ⟨hx, hb, hml, hown, hts⟩ (c_X4_writeTo l D cI a_text a_row a_text_codes a_row_signs H.size c_text_length c_text_codes c_row_length c_row_signs  r49 hr49) (cwV 1 hts mw_X5_155 rfl rfl rfl hd_X4_writeTo ⟨Nat.le_of_ble_eq_true rfl, Nat.le_of_ble_eq_true rfl⟩) hS hA hG hK hP hD [7, 8, 3, 4] rfl rfl rfl rfl rfl ⟨Nat.zero_le _, Nat.zero_le _⟩ 4 7 rfl rfl rfl rfl hl.1 rfl (Nat.le_of_ble_eq_true rfl) dX5_read_49 (fun H locs hP hD hS => ?_)
      refine lv_aload_n hx hb dX5_read_52 rfl (lv_at hl 0 rfl) ?_
      refine get_X5_39 hx hb hts hown hK hP 0 rfl rfl dX5_read_53 ?_
      obtain ⟨r56, hr56, hF⟩ := opb hF
      refine kVV (As := []) (rest := []) (ws' := (wd_X5_read cI a_t a_row a_work a_rest a_bag a_smooth a_text a_saves a_bag_often a_row_signs a_saves_slots a_text_codes c_gone c_bag_total c_bag_often r49.1 r49.2 r38.1 r38.2 r56 c_text_codes)) ⟨hx, hb, hml, hown, hts⟩ (c_X4_clear l D cI a_text a_text_codes H.size c_text_length  r56 hr56) (cwV 0 hts mw_X5_147 rfl rfl rfl hd_X4_clear ⟨Nat.le_of_ble_eq_true rfl, Nat.le_of_ble_eq_true rfl⟩) hS hA hG hK hP hD [7] rfl rfl rfl rfl rfl ⟨Nat.zero_le _, Nat.zero_le _⟩ 4 7 rfl rfl rfl rfl hl.1 rfl (Nat.le_of_ble_eq_true rfl) dX5_read_56 (fun H locs hP hD hS => ?_)
      refine lv_aload_n hx hb dX5_read_59 rfl (lv_at hl 0 rfl) ?_
      refine lv_aload_n hx hb dX5_read_60 rfl (lv_at hl 0 rfl) ?_
      refine get_X5_10 hx hb hts hown hK hP 0 rfl rfl dX5_read_61 ?_
      obtain ⟨r64, hr64, hF⟩ := opb hF
      refine kVI (As := [.ref a_row]) (rest := []) (ws' := (wd_X5_read cI a_t a_row a_work a_rest a_bag a_smooth a_text a_saves a_bag_often a_row_signs a_saves_slots a_text_codes c_gone r64.2.1 r64.2.2 r49.1 r49.2 r38.1 r38.2 r56 c_text_codes)) ⟨hx, hb, hml, hown, hts⟩ (c_X5_rankOf l D cI a_t a_row a_row a_work a_rest a_bag a_smooth a_text a_saves a_bag_often a_row_signs H.size c_gone c_bag_total c_bag_often r49.1 r49.2  r64 hr64) (cwV 1 hts mw_X5_57 rfl rfl rfl hd_X5_rankOf ⟨Nat.le_of_ble_eq_true rfl, Nat.le_of_ble_eq_true rfl⟩) hS hA hG hK hP hD [0, 1, 2, 3, 4] rfl rfl rfl rfl rfl ⟨Nat.zero_le _, Nat.zero_le _⟩ 5 0 rfl rfl rfl rfl hl.1 rfl (Nat.le_of_ble_eq_true rfl) dX5_read_64 (fun H locs hP hD hS => ?_)
      have ho := Option.some.inj hF
      exact hret H locs ls 67 r64.1 _ hP hS (by rw [← ho]) (by rw [← ho]) dX5_read_67
    · replace hF := (if_neg k24).symm.trans hF
      exact nos hF
abbrev wd_X5_undo (cI : ClassId) (a_t a_row a_work a_rest a_bag a_smooth a_text a_saves a_row_signs a_saves_slots : Nat) (c_gone : Int32) (c_row_length : Int32) (c_row_signs : Nat → Int32) (c_saves_held : Int32) (c_saves_slots : Nat → Int32) : va_W := [(a_t, .inr (5, [.ref a_row, .ref a_work, .ref a_rest, .ref a_bag, .ref a_smooth, .ref a_text, .ref a_saves, .int c_gone])), (a_row, .inr (1, [.ref a_row_signs, .int c_row_length])), (a_row_signs, .inl (cI, 11, .inl c_row_signs)), (a_saves, .inr (2, [.ref a_saves_slots, .int c_saves_held])), (a_saves_slots, .inl (cI, 78, .inl c_saves_slots))]
def rm_X5_undo : Room := { frames := 3, cells := 0, slots := 0, locals := 67 }
set_option maxHeartbeats 4000000 in
set_option maxRecDepth 100000 in
theorem c_X5_undo (l : Launch) (D : va_G) (cI : ClassId) (a_t a_row a_work a_rest a_bag a_smooth a_text a_saves a_row_signs a_saves_slots : Nat) (sz : Nat) (c_gone : Int32) (c_row_length : Int32) (c_row_signs : Nat → Int32) (c_saves_held : Int32) (c_saves_slots : Nat → Int32) (o : Int32 × Int32 × Int32 × (Nat → Int32) × Int32) (hF : F_X5_undo c_gone c_row_length c_row_signs c_saves_held c_saves_slots = some o) : Met l yX5_undo (Cond.code yX5_undo cX5_undo 1 (some .int) :: WL) rm_X5_undo (preM D [(cI, .int)] (wd_X5_undo cI a_t a_row a_work a_rest a_bag a_smooth a_text a_saves a_row_signs a_saves_slots c_gone c_row_length c_row_signs c_saves_held c_saves_slots) sz [.ref a_t]) (postI D o.1 (wd_X5_undo cI a_t a_row a_work a_rest a_bag a_smooth a_text a_saves a_row_signs a_saves_slots o.2.1 o.2.2.1 o.2.2.2.1 o.2.2.2.2 c_saves_slots) (wd_X5_undo cI a_t a_row a_work a_rest a_bag a_smooth a_text a_saves a_row_signs a_saves_slots c_gone c_row_length c_row_signs c_saves_held c_saves_slots) sz) 0 0 (va_A (wd_X5_undo cI a_t a_row a_work a_rest a_bag a_smooth a_text a_saves a_row_signs a_saves_slots c_gone c_row_length c_row_signs c_saves_held c_saves_slots) sz) := by
  refine mofI (by decide +kernel) (Nat.le_of_ble_eq_true rfl) ?_
  intro p e s m args below meth c Q A ls hx hb hml hown hts hK hP hD hS hA hG hl hret hsz0
  have hl : lv_has ls 1 [(0, .ref a_t)] := hl
  unfold F_X5_undo at hF
  have hP : va_P D vwCl (wd_X5_undo cI a_t a_row a_work a_rest a_bag a_smooth a_text a_saves a_row_signs a_saves_slots c_gone c_row_length c_row_signs c_saves_held c_saves_slots) s.heap := hP
  obtain ⟨H, hH⟩ : ∃ H, H = s.heap := ⟨_, rfl⟩
  rw [← hH]
  rw [← hH] at hP
  obtain ⟨locs, hlo⟩ : ∃ z : List Loc, z = [] := ⟨_, rfl⟩
  rw [← hlo]
  have hS : va_S A s.heap H locs := by rw [hH, hlo]; exact hS
  refine lv_aload_n hx hb dX5_undo_0 rfl (lv_at hl 0 rfl) ?_
  refine get_X5_46 hx hb hts hown hK hP 0 rfl rfl dX5_undo_1 ?_
  obtain ⟨r4, hr4, hF⟩ := opb hF
  refine kVI (As := []) (rest := []) (ws' := (wd_X5_undo cI a_t a_row a_work a_rest a_bag a_smooth a_text a_saves a_row_signs a_saves_slots c_gone c_row_length c_row_signs c_saves_held c_saves_slots)) ⟨hx, hb, hml, hown, hts⟩ (c_X2_held l D cI a_saves a_saves_slots H.size c_saves_held  r4 hr4) (cwV 0 hts mw_X5_159 rfl rfl rfl hd_X2_held ⟨Nat.le_of_ble_eq_true rfl, Nat.le_of_ble_eq_true rfl⟩) hS hA hG hK hP hD [3] rfl rfl rfl rfl rfl ⟨Nat.zero_le _, Nat.zero_le _⟩ 2 3 rfl rfl rfl rfl hl.1 rfl (Nat.le_of_ble_eq_true rfl) dX5_undo_4 (fun H locs hP hD hS => ?_)
  refine lv_if_ne (tgt := 20) hx hb dX5_undo_7 (by decide) (fun k7 => ?_) (fun k7 => ?_)
  · replace hF := (if_neg k7).symm.trans hF
    refine lv_aload_n hx hb dX5_undo_20 rfl (lv_at hl 0 rfl) ?_
    refine lv_aload_n hx hb dX5_undo_21 rfl (lv_at hl 0 rfl) ?_
    refine get_X5_46 hx hb hts hown hK hP 0 rfl rfl dX5_undo_22 ?_
    refine lv_aload_n hx hb dX5_undo_25 rfl (lv_at hl 0 rfl) ?_
    refine get_X5_10 hx hb hts hown hK hP 0 rfl rfl dX5_undo_26 ?_
    obtain ⟨r29, hr29, hF⟩ := opb hF
    refine kVI (As := [.ref a_row]) (rest := [.ref a_t]) (ws' := (wd_X5_undo cI a_t a_row a_work a_rest a_bag a_smooth a_text a_saves a_row_signs a_saves_slots c_gone r29.2.2.1 r29.2.2.2 r29.2.1 c_saves_slots)) ⟨hx, hb, hml, hown, hts⟩ (c_X2_restore l D cI a_saves a_row a_saves_slots a_row_signs H.size c_saves_held c_saves_slots c_row_length c_row_signs  r29 hr29) (cwV 1 hts mw_X5_164 rfl rfl rfl hd_X2_restore ⟨Nat.le_of_ble_eq_true rfl, Nat.le_of_ble_eq_true rfl⟩) hS hA hG hK hP hD [3, 4, 1, 2] rfl rfl rfl rfl rfl ⟨Nat.zero_le _, Nat.zero_le _⟩ 2 3 rfl rfl rfl rfl hl.1 rfl (Nat.le_of_ble_eq_true rfl) dX5_undo_29 (fun H locs hP hD hS => ?_)
    refine put_X5_167 hx hb hts hown hK hP hD hS 0 rfl rfl rfl (Nat.le_of_ble_eq_true rfl) dX5_undo_32 (fun H locs hP hD hS => ?_)
    have hP : va_P D vwCl (wd_X5_undo cI a_t a_row a_work a_rest a_bag a_smooth a_text a_saves a_row_signs a_saves_slots r29.1 r29.2.2.1 r29.2.2.2 r29.2.1 c_saves_slots) H := hP
    have hD : va_D A (wd_X5_undo cI a_t a_row a_work a_rest a_bag a_smooth a_text a_saves a_row_signs a_saves_slots r29.1 r29.2.2.1 r29.2.2.2 r29.2.1 c_saves_slots) := hD
    refine lv_aload_n hx hb dX5_undo_35 rfl (lv_at hl 0 rfl) ?_
    refine get_X5_46 hx hb hts hown hK hP 0 rfl rfl dX5_undo_36 ?_
    obtain ⟨r39, hr39, hF⟩ := opb hF
    refine kVI (As := []) (rest := []) (ws' := (wd_X5_undo cI a_t a_row a_work a_rest a_bag a_smooth a_text a_saves a_row_signs a_saves_slots r29.1 r29.2.2.1 r29.2.2.2 r29.2.1 c_saves_slots)) ⟨hx, hb, hml, hown, hts⟩ (c_X2_held l D cI a_saves a_saves_slots H.size r29.2.1  r39 hr39) (cwV 0 hts mw_X5_159 rfl rfl rfl hd_X2_held ⟨Nat.le_of_ble_eq_true rfl, Nat.le_of_ble_eq_true rfl⟩) hS hA hG hK hP hD [3] rfl rfl rfl rfl rfl ⟨Nat.zero_le _, Nat.zero_le _⟩ 2 3 rfl rfl rfl rfl hl.1 rfl (Nat.le_of_ble_eq_true rfl) dX5_undo_39 (fun H locs hP hD hS => ?_)
    have ho := Option.some.inj hF
    exact hret H locs ls 42 r39 _ hP hS (by rw [← ho]) (by rw [← ho]) dX5_undo_42
  · replace hF := (if_pos k7).symm.trans hF
    exact nos hF
abbrev wd_X5_sign (cI : ClassId) (a_t a_row a_work a_rest a_bag a_smooth a_text a_saves a_row_signs : Nat) (c_gone : Int32) (c_row_length : Int32) (c_row_signs : Nat → Int32) : va_W := [(a_t, .inr (5, [.ref a_row, .ref a_work, .ref a_rest, .ref a_bag, .ref a_smooth, .ref a_text, .ref a_saves, .int c_gone])), (a_row, .inr (1, [.ref a_row_signs, .int c_row_length])), (a_row_signs, .inl (cI, 11, .inl c_row_signs))]
def rm_X5_sign : Room := { frames := 2, cells := 0, slots := 0, locals := 42 }
set_option maxHeartbeats 4000000 in
set_option maxRecDepth 100000 in
theorem c_X5_sign (l : Launch) (D : va_G) (cI : ClassId) (a_t a_row a_work a_rest a_bag a_smooth a_text a_saves a_row_signs : Nat) (sz : Nat) (c_gone : Int32) (c_row_length : Int32) (c_row_signs : Nat → Int32) (x1 : Int32) (o : Int32) (hF : F_X5_sign c_row_length c_row_signs x1 = some o) : Met l yX5_sign (Cond.code yX5_sign cX5_sign 2 (some .int) :: WL) rm_X5_sign (preM D [(cI, .int)] (wd_X5_sign cI a_t a_row a_work a_rest a_bag a_smooth a_text a_saves a_row_signs c_gone c_row_length c_row_signs) sz [.ref a_t, .int x1]) (postI D o (wd_X5_sign cI a_t a_row a_work a_rest a_bag a_smooth a_text a_saves a_row_signs c_gone c_row_length c_row_signs) (wd_X5_sign cI a_t a_row a_work a_rest a_bag a_smooth a_text a_saves a_row_signs c_gone c_row_length c_row_signs) sz) 0 0 (va_A (wd_X5_sign cI a_t a_row a_work a_rest a_bag a_smooth a_text a_saves a_row_signs c_gone c_row_length c_row_signs) sz) := by
  refine mofI (by decide +kernel) (Nat.le_of_ble_eq_true rfl) ?_
  intro p e s m args below meth c Q A ls hx hb hml hown hts hK hP hD hS hA hG hl hret hsz0
  have hl : lv_has ls 2 [(0, .ref a_t), (1, .int x1)] := hl
  unfold F_X5_sign at hF
  have hP : va_P D vwCl (wd_X5_sign cI a_t a_row a_work a_rest a_bag a_smooth a_text a_saves a_row_signs c_gone c_row_length c_row_signs) s.heap := hP
  obtain ⟨H, hH⟩ : ∃ H, H = s.heap := ⟨_, rfl⟩
  rw [← hH]
  rw [← hH] at hP
  obtain ⟨locs, hlo⟩ : ∃ z : List Loc, z = [] := ⟨_, rfl⟩
  rw [← hlo]
  have hS : va_S A s.heap H locs := by rw [hH, hlo]; exact hS
  refine lv_aload_n hx hb dX5_sign_0 rfl (lv_at hl 0 rfl) ?_
  refine lv_iload_n hx hb dX5_sign_1 rfl (lv_at hl 1 rfl) ?_
  obtain ⟨r2, hr2, hF⟩ := opb hF
  refine kVV (As := [.int x1]) (rest := []) (ws' := (wd_X5_sign cI a_t a_row a_work a_rest a_bag a_smooth a_text a_saves a_row_signs c_gone c_row_length c_row_signs)) ⟨hx, hb, hml, hown, hts⟩ (c_X5_needPlace l D cI a_t a_row a_work a_rest a_bag a_smooth a_text a_saves a_row_signs H.size c_gone c_row_length x1 r2 hr2) (cwV 1 hts mw_X5_102 rfl rfl rfl hd_X5_needPlace ⟨Nat.le_of_ble_eq_true rfl, Nat.le_of_ble_eq_true rfl⟩) hS hA hG hK hP hD [0, 1] rfl rfl rfl rfl rfl ⟨Nat.zero_le _, Nat.zero_le _⟩ 5 0 rfl rfl rfl rfl hl.1 rfl (Nat.le_of_ble_eq_true rfl) dX5_sign_2 (fun H locs hP hD hS => ?_)
  refine lv_aload_n hx hb dX5_sign_5 rfl (lv_at hl 0 rfl) ?_
  refine get_X5_10 hx hb hts hown hK hP 0 rfl rfl dX5_sign_6 ?_
  refine lv_iload_n hx hb dX5_sign_9 rfl (lv_at hl 1 rfl) ?_
  obtain ⟨r10, hr10, hF⟩ := opb hF
  refine kVI (As := [.int x1]) (rest := []) (ws' := (wd_X5_sign cI a_t a_row a_work a_rest a_bag a_smooth a_text a_saves a_row_signs c_gone c_row_length c_row_signs)) ⟨hx, hb, hml, hown, hts⟩ (c_X1_at l D cI a_row a_row_signs H.size c_row_length c_row_signs x1 r10 hr10) (cwV 1 hts mw_X5_137 rfl rfl rfl hd_X1_at ⟨Nat.le_of_ble_eq_true rfl, Nat.le_of_ble_eq_true rfl⟩) hS hA hG hK hP hD [1, 2] rfl rfl rfl rfl rfl ⟨Nat.zero_le _, Nat.zero_le _⟩ 1 1 rfl rfl rfl rfl hl.1 rfl (Nat.le_of_ble_eq_true rfl) dX5_sign_10 (fun H locs hP hD hS => ?_)
  have ho := Option.some.inj hF
  exact hret H locs ls 13 r10 _ hP hS rfl ho dX5_sign_13
abbrev wd_X5_digit (cI : ClassId) (a_t a_row a_work a_rest a_bag a_smooth a_text a_saves a_bag_often a_row_signs : Nat) (c_gone : Int32) (c_bag_total : Int32) (c_bag_often : Nat → Int32) (c_row_length : Int32) (c_row_signs : Nat → Int32) : va_W := [(a_t, .inr (5, [.ref a_row, .ref a_work, .ref a_rest, .ref a_bag, .ref a_smooth, .ref a_text, .ref a_saves, .int c_gone])), (a_bag, .inr (0, [.ref a_bag_often, .int c_bag_total])), (a_bag_often, .inl (cI, 6, .inl c_bag_often)), (a_row, .inr (1, [.ref a_row_signs, .int c_row_length])), (a_row_signs, .inl (cI, 11, .inl c_row_signs))]
def rm_X5_digit : Room := { frames := 2, cells := 0, slots := 0, locals := 44 }
set_option maxHeartbeats 4000000 in
set_option maxRecDepth 100000 in
theorem c_X5_digit (l : Launch) (D : va_G) (cI : ClassId) (a_t a_row a_work a_rest a_bag a_smooth a_text a_saves a_bag_often a_row_signs : Nat) (sz : Nat) (c_gone : Int32) (c_bag_total : Int32) (c_bag_often : Nat → Int32) (c_row_length : Int32) (c_row_signs : Nat → Int32) (x1 : Int32) (o : Int32 × Int32 × (Nat → Int32)) (hF : F_X5_digit c_bag_total c_bag_often c_row_length c_row_signs x1 = some o) : Met l yX5_digit (Cond.code yX5_digit cX5_digit 2 (some .int) :: WL) rm_X5_digit (preM D [(cI, .int)] (wd_X5_digit cI a_t a_row a_work a_rest a_bag a_smooth a_text a_saves a_bag_often a_row_signs c_gone c_bag_total c_bag_often c_row_length c_row_signs) sz [.ref a_t, .int x1]) (postI D o.1 (wd_X5_digit cI a_t a_row a_work a_rest a_bag a_smooth a_text a_saves a_bag_often a_row_signs c_gone o.2.1 o.2.2 c_row_length c_row_signs) (wd_X5_digit cI a_t a_row a_work a_rest a_bag a_smooth a_text a_saves a_bag_often a_row_signs c_gone c_bag_total c_bag_often c_row_length c_row_signs) sz) 0 0 (va_A (wd_X5_digit cI a_t a_row a_work a_rest a_bag a_smooth a_text a_saves a_bag_often a_row_signs c_gone c_bag_total c_bag_often c_row_length c_row_signs) sz) := by
  refine mofI (by decide +kernel) (Nat.le_of_ble_eq_true rfl) ?_
  intro p e s m args below meth c Q A ls hx hb hml hown hts hK hP hD hS hA hG hl hret hsz0
  have hl : lv_has ls 2 [(0, .ref a_t), (1, .int x1)] := hl
  unfold F_X5_digit at hF
  have hP : va_P D vwCl (wd_X5_digit cI a_t a_row a_work a_rest a_bag a_smooth a_text a_saves a_bag_often a_row_signs c_gone c_bag_total c_bag_often c_row_length c_row_signs) s.heap := hP
  obtain ⟨H, hH⟩ : ∃ H, H = s.heap := ⟨_, rfl⟩
  rw [← hH]
  rw [← hH] at hP
  obtain ⟨locs, hlo⟩ : ∃ z : List Loc, z = [] := ⟨_, rfl⟩
  rw [← hlo]
  have hS : va_S A s.heap H locs := by rw [hH, hlo]; exact hS
  refine lv_aload_n hx hb dX5_digit_0 rfl (lv_at hl 0 rfl) ?_
  refine lv_iload_n hx hb dX5_digit_1 rfl (lv_at hl 1 rfl) ?_
  obtain ⟨r2, hr2, hF⟩ := opb hF
  refine kVV (As := [.int x1]) (rest := []) (ws' := (wd_X5_digit cI a_t a_row a_work a_rest a_bag a_smooth a_text a_saves a_bag_often a_row_signs c_gone c_bag_total c_bag_often c_row_length c_row_signs)) ⟨hx, hb, hml, hown, hts⟩ (c_X5_needPlace l D cI a_t a_row a_work a_rest a_bag a_smooth a_text a_saves a_row_signs H.size c_gone c_row_length x1 r2 hr2) (cwV 1 hts mw_X5_102 rfl rfl rfl hd_X5_needPlace ⟨Nat.le_of_ble_eq_true rfl, Nat.le_of_ble_eq_true rfl⟩) hS hA hG hK hP hD [0, 3] rfl rfl rfl rfl rfl ⟨Nat.zero_le _, Nat.zero_le _⟩ 5 0 rfl rfl rfl rfl hl.1 rfl (Nat.le_of_ble_eq_true rfl) dX5_digit_2 (fun H locs hP hD hS => ?_)
  refine lv_aload_n hx hb dX5_digit_5 rfl (lv_at hl 0 rfl) ?_
  refine get_X5_25 hx hb hts hown hK hP 0 rfl rfl dX5_digit_6 ?_
  refine lv_aload_n hx hb dX5_digit_9 rfl (lv_at hl 0 rfl) ?_
  refine get_X5_10 hx hb hts hown hK hP 0 rfl rfl dX5_digit_10 ?_
  refine lv_iload_n hx hb dX5_digit_13 rfl (lv_at hl 1 rfl) ?_
  obtain ⟨r14, hr14, hF⟩ := opb hF
  refine kVV (As := [.ref a_row, .int x1]) (rest := []) (ws' := (wd_X5_digit cI a_t a_row a_work a_rest a_bag a_smooth a_text a_saves a_bag_often a_row_signs c_gone r14.1 r14.2 c_row_length c_row_signs)) ⟨hx, hb, hml, hown, hts⟩ (c_X0_fill l D cI a_bag a_row a_bag_often a_row_signs H.size c_bag_total c_bag_often c_row_length c_row_signs x1 r14 hr14) (cwV 2 hts mw_X5_171 rfl rfl rfl hd_X0_fill ⟨Nat.le_of_ble_eq_true rfl, Nat.le_of_ble_eq_true rfl⟩) hS hA hG hK hP hD [1, 2, 3, 4] rfl rfl rfl rfl rfl ⟨Nat.zero_le _, Nat.zero_le _⟩ 0 1 rfl rfl rfl rfl hl.1 rfl (Nat.le_of_ble_eq_true rfl) dX5_digit_14 (fun H locs hP hD hS => ?_)
  refine lv_aload_n hx hb dX5_digit_17 rfl (lv_at hl 0 rfl) ?_
  refine get_X5_25 hx hb hts hown hK hP 0 rfl rfl dX5_digit_18 ?_
  refine lv_aload_n hx hb dX5_digit_21 rfl (lv_at hl 0 rfl) ?_
  refine get_X5_10 hx hb hts hown hK hP 0 rfl rfl dX5_digit_22 ?_
  refine lv_iload_n hx hb dX5_digit_25 rfl (lv_at hl 1 rfl) ?_
  obtain ⟨r26, hr26, hF⟩ := opb hF
  refine kVI (As := [.int x1]) (rest := [.ref a_bag]) (ws' := (wd_X5_digit cI a_t a_row a_work a_rest a_bag a_smooth a_text a_saves a_bag_often a_row_signs c_gone r14.1 r14.2 c_row_length c_row_signs)) ⟨hx, hb, hml, hown, hts⟩ (c_X1_at l D cI a_row a_row_signs H.size c_row_length c_row_signs x1 r26 hr26) (cwV 1 hts mw_X5_137 rfl rfl rfl hd_X1_at ⟨Nat.le_of_ble_eq_true rfl, Nat.le_of_ble_eq_true rfl⟩) hS hA hG hK hP hD [3, 4] rfl rfl rfl rfl rfl ⟨Nat.zero_le _, Nat.zero_le _⟩ 1 3 rfl rfl rfl rfl hl.1 rfl (Nat.le_of_ble_eq_true rfl) dX5_digit_26 (fun H locs hP hD hS => ?_)
  obtain ⟨r29, hr29, hF⟩ := opb hF
  refine kVI (As := [.int r26]) (rest := []) (ws' := (wd_X5_digit cI a_t a_row a_work a_rest a_bag a_smooth a_text a_saves a_bag_often a_row_signs c_gone r14.1 r14.2 c_row_length c_row_signs)) ⟨hx, hb, hml, hown, hts⟩ (c_X0_unlikeBelow l D cI a_bag a_bag_often H.size r14.1 r14.2 r26 r29 hr29) (cwV 1 hts mw_X5_175 rfl rfl rfl hd_X0_unlikeBelow ⟨Nat.le_of_ble_eq_true rfl, Nat.le_of_ble_eq_true rfl⟩) hS hA hG hK hP hD [1, 2] rfl rfl rfl rfl rfl ⟨Nat.zero_le _, Nat.zero_le _⟩ 0 1 rfl rfl rfl rfl hl.1 rfl (Nat.le_of_ble_eq_true rfl) dX5_digit_29 (fun H locs hP hD hS => ?_)
  have ho := Option.some.inj hF
  exact hret H locs ls 32 r29 _ hP hS (by rw [← ho]) (by rw [← ho]) dX5_digit_32
abbrev wd_X5_many (cI : ClassId) (a_t a_row a_work a_rest a_bag a_smooth a_text a_saves a_bag_often a_row_signs : Nat) (c_gone : Int32) (c_bag_total : Int32) (c_bag_often : Nat → Int32) (c_row_length : Int32) (c_row_signs : Nat → Int32) : va_W := [(a_t, .inr (5, [.ref a_row, .ref a_work, .ref a_rest, .ref a_bag, .ref a_smooth, .ref a_text, .ref a_saves, .int c_gone])), (a_bag, .inr (0, [.ref a_bag_often, .int c_bag_total])), (a_bag_often, .inl (cI, 6, .inl c_bag_often)), (a_row, .inr (1, [.ref a_row_signs, .int c_row_length])), (a_row_signs, .inl (cI, 11, .inl c_row_signs))]
def rm_X5_many : Room := { frames := 2, cells := 0, slots := 0, locals := 44 }
set_option maxHeartbeats 4000000 in
set_option maxRecDepth 100000 in
theorem c_X5_many (l : Launch) (D : va_G) (cI : ClassId) (a_t a_row a_work a_rest a_bag a_smooth a_text a_saves a_bag_often a_row_signs : Nat) (sz : Nat) (c_gone : Int32) (c_bag_total : Int32) (c_bag_often : Nat → Int32) (c_row_length : Int32) (c_row_signs : Nat → Int32) (x1 : Int32) (o : Int32 × Int32 × (Nat → Int32)) (hF : F_X5_many c_bag_total c_bag_often c_row_length c_row_signs x1 = some o) : Met l yX5_many (Cond.code yX5_many cX5_many 2 (some .int) :: WL) rm_X5_many (preM D [(cI, .int)] (wd_X5_many cI a_t a_row a_work a_rest a_bag a_smooth a_text a_saves a_bag_often a_row_signs c_gone c_bag_total c_bag_often c_row_length c_row_signs) sz [.ref a_t, .int x1]) (postI D o.1 (wd_X5_many cI a_t a_row a_work a_rest a_bag a_smooth a_text a_saves a_bag_often a_row_signs c_gone o.2.1 o.2.2 c_row_length c_row_signs) (wd_X5_many cI a_t a_row a_work a_rest a_bag a_smooth a_text a_saves a_bag_often a_row_signs c_gone c_bag_total c_bag_often c_row_length c_row_signs) sz) 0 0 (va_A (wd_X5_many cI a_t a_row a_work a_rest a_bag a_smooth a_text a_saves a_bag_often a_row_signs c_gone c_bag_total c_bag_often c_row_length c_row_signs) sz) := by
  refine mofI (by decide +kernel) (Nat.le_of_ble_eq_true rfl) ?_
  intro p e s m args below meth c Q A ls hx hb hml hown hts hK hP hD hS hA hG hl hret hsz0
  have hl : lv_has ls 2 [(0, .ref a_t), (1, .int x1)] := hl
  unfold F_X5_many at hF
  have hP : va_P D vwCl (wd_X5_many cI a_t a_row a_work a_rest a_bag a_smooth a_text a_saves a_bag_often a_row_signs c_gone c_bag_total c_bag_often c_row_length c_row_signs) s.heap := hP
  obtain ⟨H, hH⟩ : ∃ H, H = s.heap := ⟨_, rfl⟩
  rw [← hH]
  rw [← hH] at hP
  obtain ⟨locs, hlo⟩ : ∃ z : List Loc, z = [] := ⟨_, rfl⟩
  rw [← hlo]
  have hS : va_S A s.heap H locs := by rw [hH, hlo]; exact hS
  refine lv_iload_n hx hb dX5_many_0 rfl (lv_at hl 1 rfl) ?_
  obtain ⟨r1, hr1, hF⟩ := opb hF
  refine kSV (As := [.int x1]) (rest := []) (ws' := (wd_X5_many cI a_t a_row a_work a_rest a_bag a_smooth a_text a_saves a_bag_often a_row_signs c_gone c_bag_total c_bag_often c_row_length c_row_signs)) ⟨hx, hb, hml, hown, hts⟩ (c_X5_needSign l D cI  H.size  x1 r1 hr1) (va_cwS 1 hts mw_X5_127 rfl rfl rfl hd_X5_needSign ⟨Nat.le_of_ble_eq_true rfl, Nat.le_of_ble_eq_true rfl⟩) hS hA hG hK hP hD [] rfl rfl rfl rfl rfl ⟨Nat.zero_le _, Nat.zero_le _⟩ rfl hl.1 rfl (Nat.le_of_ble_eq_true rfl) dX5_many_1 (fun H locs hP hD hS => ?_)
  refine lv_aload_n hx hb dX5_many_4 rfl (lv_at hl 0 rfl) ?_
  refine get_X5_25 hx hb hts hown hK hP 0 rfl rfl dX5_many_5 ?_
  refine lv_aload_n hx hb dX5_many_8 rfl (lv_at hl 0 rfl) ?_
  refine get_X5_10 hx hb hts hown hK hP 0 rfl rfl dX5_many_9 ?_
  refine lv_iconst (v := 0) hx hb dX5_many_12 (by decide) ?_
  obtain ⟨r13, hr13, hF⟩ := opb hF
  refine kVV (As := [.ref a_row, .int (0 : Int32)]) (rest := []) (ws' := (wd_X5_many cI a_t a_row a_work a_rest a_bag a_smooth a_text a_saves a_bag_often a_row_signs c_gone r13.1 r13.2 c_row_length c_row_signs)) ⟨hx, hb, hml, hown, hts⟩ (c_X0_fill l D cI a_bag a_row a_bag_often a_row_signs H.size c_bag_total c_bag_often c_row_length c_row_signs (0 : Int32) r13 hr13) (cwV 2 hts mw_X5_171 rfl rfl rfl hd_X0_fill ⟨Nat.le_of_ble_eq_true rfl, Nat.le_of_ble_eq_true rfl⟩) hS hA hG hK hP hD [1, 2, 3, 4] rfl rfl rfl rfl rfl ⟨Nat.zero_le _, Nat.zero_le _⟩ 0 1 rfl rfl rfl rfl hl.1 rfl (Nat.le_of_ble_eq_true rfl) dX5_many_13 (fun H locs hP hD hS => ?_)
  refine lv_aload_n hx hb dX5_many_16 rfl (lv_at hl 0 rfl) ?_
  refine get_X5_25 hx hb hts hown hK hP 0 rfl rfl dX5_many_17 ?_
  refine lv_iload_n hx hb dX5_many_20 rfl (lv_at hl 1 rfl) ?_
  obtain ⟨r21, hr21, hF⟩ := opb hF
  refine kVI (As := [.int x1]) (rest := []) (ws' := (wd_X5_many cI a_t a_row a_work a_rest a_bag a_smooth a_text a_saves a_bag_often a_row_signs c_gone r13.1 r13.2 c_row_length c_row_signs)) ⟨hx, hb, hml, hown, hts⟩ (c_X0_of l D cI a_bag a_bag_often H.size r13.1 r13.2 x1 r21 hr21) (cwV 1 hts mw_X5_178 rfl rfl rfl hd_X0_of ⟨Nat.le_of_ble_eq_true rfl, Nat.le_of_ble_eq_true rfl⟩) hS hA hG hK hP hD [1, 2] rfl rfl rfl rfl rfl ⟨Nat.zero_le _, Nat.zero_le _⟩ 0 1 rfl rfl rfl rfl hl.1 rfl (Nat.le_of_ble_eq_true rfl) dX5_many_21 (fun H locs hP hD hS => ?_)
  have ho := Option.some.inj hF
  exact hret H locs ls 24 r21 _ hP hS (by rw [← ho]) (by rw [← ho]) dX5_many_24
abbrev wd_X5_block (cI : ClassId) (a_t a_row a_work a_rest a_bag a_smooth a_text a_saves a_bag_often a_row_signs a_smooth_madeFor a_smooth_weight a_smooth_inCell a_smooth_all a_smooth_starting : Nat) (c_gone : Int32) (c_bag_total : Int32) (c_bag_often : Nat → Int32) (c_row_length : Int32) (c_row_signs : Nat → Int32) (c_smooth_all : Nat → Int32) (c_smooth_inCell : Nat → Int32) (c_smooth_madeFor : Nat → Int32) (c_smooth_starting : Nat → Int32) (c_smooth_weight : Nat → Int32) : va_W := [(a_t, .inr (5, [.ref a_row, .ref a_work, .ref a_rest, .ref a_bag, .ref a_smooth, .ref a_text, .ref a_saves, .int c_gone])), (a_bag, .inr (0, [.ref a_bag_often, .int c_bag_total])), (a_bag_often, .inl (cI, 6, .inl c_bag_often)), (a_row, .inr (1, [.ref a_row_signs, .int c_row_length])), (a_row_signs, .inl (cI, 11, .inl c_row_signs)), (a_smooth, .inr (3, [.ref a_smooth_madeFor, .ref a_smooth_weight, .ref a_smooth_inCell, .ref a_smooth_all, .ref a_smooth_starting])), (a_smooth_all, .inl (cI, 486, .inl c_smooth_all)), (a_smooth_inCell, .inl (cI, 6, .inl c_smooth_inCell)), (a_smooth_madeFor, .inl (cI, 6, .inl c_smooth_madeFor)), (a_smooth_starting, .inl (cI, 2916, .inl c_smooth_starting)), (a_smooth_weight, .inl (cI, 6, .inl c_smooth_weight))]
def rm_X5_block : Room := { frames := 5, cells := 0, slots := 0, locals := 113 }
set_option maxHeartbeats 4000000 in
set_option maxRecDepth 100000 in
theorem c_X5_block (l : Launch) (D : va_G) (cI : ClassId) (a_t a_row a_work a_rest a_bag a_smooth a_text a_saves a_bag_often a_row_signs a_smooth_madeFor a_smooth_weight a_smooth_inCell a_smooth_all a_smooth_starting : Nat) (sz : Nat) (c_gone : Int32) (c_bag_total : Int32) (c_bag_often : Nat → Int32) (c_row_length : Int32) (c_row_signs : Nat → Int32) (c_smooth_all : Nat → Int32) (c_smooth_inCell : Nat → Int32) (c_smooth_madeFor : Nat → Int32) (c_smooth_starting : Nat → Int32) (c_smooth_weight : Nat → Int32) (x1 : Int32) (x2 : Int32) (o : Int32 × Int32 × (Nat → Int32) × (Nat → Int32) × (Nat → Int32) × (Nat → Int32) × (Nat → Int32) × (Nat → Int32)) (hF : F_X5_block c_bag_total c_bag_often c_row_length c_row_signs c_smooth_all c_smooth_inCell c_smooth_madeFor c_smooth_starting c_smooth_weight x1 x2 = some o) : Met l yX5_block (Cond.code yX5_block cX5_block 3 (some .int) :: WL) rm_X5_block (preM D [(cI, .int)] (wd_X5_block cI a_t a_row a_work a_rest a_bag a_smooth a_text a_saves a_bag_often a_row_signs a_smooth_madeFor a_smooth_weight a_smooth_inCell a_smooth_all a_smooth_starting c_gone c_bag_total c_bag_often c_row_length c_row_signs c_smooth_all c_smooth_inCell c_smooth_madeFor c_smooth_starting c_smooth_weight) sz [.ref a_t, .int x1, .int x2]) (postI D o.1 (wd_X5_block cI a_t a_row a_work a_rest a_bag a_smooth a_text a_saves a_bag_often a_row_signs a_smooth_madeFor a_smooth_weight a_smooth_inCell a_smooth_all a_smooth_starting c_gone o.2.1 o.2.2.1 c_row_length c_row_signs o.2.2.2.1 o.2.2.2.2.1 o.2.2.2.2.2.1 o.2.2.2.2.2.2.1 o.2.2.2.2.2.2.2) (wd_X5_block cI a_t a_row a_work a_rest a_bag a_smooth a_text a_saves a_bag_often a_row_signs a_smooth_madeFor a_smooth_weight a_smooth_inCell a_smooth_all a_smooth_starting c_gone c_bag_total c_bag_often c_row_length c_row_signs c_smooth_all c_smooth_inCell c_smooth_madeFor c_smooth_starting c_smooth_weight) sz) 0 0 (va_A (wd_X5_block cI a_t a_row a_work a_rest a_bag a_smooth a_text a_saves a_bag_often a_row_signs a_smooth_madeFor a_smooth_weight a_smooth_inCell a_smooth_all a_smooth_starting c_gone c_bag_total c_bag_often c_row_length c_row_signs c_smooth_all c_smooth_inCell c_smooth_madeFor c_smooth_starting c_smooth_weight) sz) := by
  refine mofI (by decide +kernel) (Nat.le_of_ble_eq_true rfl) ?_
  intro p e s m args below meth c Q A ls hx hb hml hown hts hK hP hD hS hA hG hl hret hsz0
  have hl : lv_has ls 3 [(0, .ref a_t), (1, .int x1), (2, .int x2)] := hl
  have K29 : ∀ (c_bag_total : Int32) (c_bag_often : Nat → Int32) (c_smooth_all : Nat → Int32) (c_smooth_inCell : Nat → Int32) (c_smooth_madeFor : Nat → Int32) (c_smooth_starting : Nat → Int32) (c_smooth_weight : Nat → Int32) (v0 : Int32)  (H : Heap) (locs : List Loc) (ls : Array Slot), va_P D vwCl (wd_X5_block cI a_t a_row a_work a_rest a_bag a_smooth a_text a_saves a_bag_often a_row_signs a_smooth_madeFor a_smooth_weight a_smooth_inCell a_smooth_all a_smooth_starting c_gone c_bag_total c_bag_often c_row_length c_row_signs c_smooth_all c_smooth_inCell c_smooth_madeFor c_smooth_starting c_smooth_weight) H → va_D A (wd_X5_block cI a_t a_row a_work a_rest a_bag a_smooth a_text a_saves a_bag_often a_row_signs a_smooth_madeFor a_smooth_weight a_smooth_inCell a_smooth_all a_smooth_starting c_gone c_bag_total c_bag_often c_row_length c_row_signs c_smooth_all c_smooth_inCell c_smooth_madeFor c_smooth_starting c_smooth_weight) → va_S A s.heap H locs → lv_has ls 3 [(0, .ref a_t), (1, .int x1), (2, .int x2)] → F_X5_block_J29 c_row_length c_row_signs x1 x2 c_bag_total c_bag_often c_smooth_all c_smooth_inCell c_smooth_madeFor c_smooth_starting c_smooth_weight v0 = some o → W p l e rm_X5_block s m args below meth c H locs 0 0 Q (F0 m 29 ls [.int v0]) := by
    intro c_bag_total c_bag_often c_smooth_all c_smooth_inCell c_smooth_madeFor c_smooth_starting c_smooth_weight v0 H locs ls hP hD hS hl hF
    unfold F_X5_block_J29 at hF
    obtain ⟨r29, hr29, hF⟩ := opb hF
    refine kSV (As := [.int v0]) (rest := []) (ws' := (wd_X5_block cI a_t a_row a_work a_rest a_bag a_smooth a_text a_saves a_bag_often a_row_signs a_smooth_madeFor a_smooth_weight a_smooth_inCell a_smooth_all a_smooth_starting c_gone c_bag_total c_bag_often c_row_length c_row_signs c_smooth_all c_smooth_inCell c_smooth_madeFor c_smooth_starting c_smooth_weight)) ⟨hx, hb, hml, hown, hts⟩ (c_X5_need l D cI  H.size  v0 r29 hr29) (va_cwS 1 hts mw_X5_112 rfl rfl rfl hd_X5_need ⟨Nat.le_of_ble_eq_true rfl, Nat.le_of_ble_eq_true rfl⟩) hS hA hG hK hP hD [] rfl rfl rfl rfl rfl ⟨Nat.zero_le _, Nat.zero_le _⟩ rfl hl.1 rfl (Nat.le_of_ble_eq_true rfl) dX5_block_29 (fun H locs hP hD hS => ?_)
    refine lv_iload_n hx hb dX5_block_32 rfl (lv_at hl 2 rfl) ?_
    by_cases k33_0 : x2 = 0
    · refine lv_lookup (tgt := 60) (off := 27) hx hb dX5_block_33 (by decide) (by rw [k33_0]; decide) (by decide) ?_
      replace hF := (if_pos k33_0).symm.trans hF
      refine lv_aload_n hx hb dX5_block_60 rfl (lv_at hl 0 rfl) ?_
      refine lv_aload_n hx hb dX5_block_61 rfl (lv_at hl 0 rfl) ?_
      refine get_X5_10 hx hb hts hown hK hP 0 rfl rfl dX5_block_62 ?_
      refine lv_iload_n hx hb dX5_block_65 rfl (lv_at hl 1 rfl) ?_
      obtain ⟨r66, hr66, hF⟩ := opb hF
      refine kVI (As := [.ref a_row, .int x1]) (rest := []) (ws' := (wd_X5_block cI a_t a_row a_work a_rest a_bag a_smooth a_text a_saves a_bag_often a_row_signs a_smooth_madeFor a_smooth_weight a_smooth_inCell a_smooth_all a_smooth_starting c_gone r66.2.1 r66.2.2 c_row_length c_row_signs c_smooth_all c_smooth_inCell c_smooth_madeFor c_smooth_starting c_smooth_weight)) ⟨hx, hb, hml, hown, hts⟩ (c_X5_lowestRank l D cI a_t a_row a_row a_work a_rest a_bag a_smooth a_text a_saves a_bag_often a_row_signs H.size c_gone c_bag_total c_bag_often c_row_length c_row_signs x1 r66 hr66) (cwV 2 hts mw_X5_181 rfl rfl rfl hd_X5_lowestRank ⟨Nat.le_of_ble_eq_true rfl, Nat.le_of_ble_eq_true rfl⟩) hS hA hG hK hP hD [0, 1, 2, 3, 4] rfl rfl rfl rfl rfl ⟨Nat.zero_le _, Nat.zero_le _⟩ 5 0 rfl rfl rfl rfl hl.1 rfl (Nat.le_of_ble_eq_true rfl) dX5_block_66 (fun H locs hP hD hS => ?_)
      have ho := Option.some.inj hF
      exact hret H locs ls 69 r66.1 _ hP hS (by rw [← ho]) (by rw [← ho]) dX5_block_69
    replace hF := (if_neg k33_0).symm.trans hF
    by_cases k33_1 : x2 = 1
    · refine lv_lookup (tgt := 70) (off := 37) hx hb dX5_block_33 (by decide) (by rw [k33_1]; decide) (by decide) ?_
      replace hF := (if_pos k33_1).symm.trans hF
      refine lv_aload_n hx hb dX5_block_70 rfl (lv_at hl 0 rfl) ?_
      refine lv_iload_n hx hb dX5_block_71 rfl (lv_at hl 1 rfl) ?_
      obtain ⟨r72, hr72, hF⟩ := opb hF
      refine kVI (As := [.int x1]) (rest := []) (ws' := (wd_X5_block cI a_t a_row a_work a_rest a_bag a_smooth a_text a_saves a_bag_often a_row_signs a_smooth_madeFor a_smooth_weight a_smooth_inCell a_smooth_all a_smooth_starting c_gone r72.2.1 r72.2.2 c_row_length c_row_signs c_smooth_all c_smooth_inCell c_smooth_madeFor c_smooth_starting c_smooth_weight)) ⟨hx, hb, hml, hown, hts⟩ (c_X5_blockSize l D cI a_t a_row a_work a_rest a_bag a_smooth a_text a_saves a_bag_often a_row_signs H.size c_gone c_bag_total c_bag_often c_row_length c_row_signs x1 r72 hr72) (cwV 1 hts mw_X5_185 rfl rfl rfl hd_X5_blockSize ⟨Nat.le_of_ble_eq_true rfl, Nat.le_of_ble_eq_true rfl⟩) hS hA hG hK hP hD [0, 1, 2, 3, 4] rfl rfl rfl rfl rfl ⟨Nat.zero_le _, Nat.zero_le _⟩ 5 0 rfl rfl rfl rfl hl.1 rfl (Nat.le_of_ble_eq_true rfl) dX5_block_72 (fun H locs hP hD hS => ?_)
      have ho := Option.some.inj hF
      exact hret H locs ls 75 r72.1 _ hP hS (by rw [← ho]) (by rw [← ho]) dX5_block_75
    replace hF := (if_neg k33_1).symm.trans hF
    refine lv_lookup (tgt := 76) (off := 43) hx hb dX5_block_33 (by decide) (by rw [lv_osw (k := 0) k33_0 (by decide), lv_osw (k := 1) k33_1 (by decide)]; rfl) (by decide) ?_
    refine lv_aload_n hx hb dX5_block_76 rfl (lv_at hl 0 rfl) ?_
    refine lv_iload_n hx hb dX5_block_77 rfl (lv_at hl 1 rfl) ?_
    obtain ⟨r78, hr78, hF⟩ := opb hF
    refine kVI (As := [.int x1]) (rest := []) (ws' := (wd_X5_block cI a_t a_row a_work a_rest a_bag a_smooth a_text a_saves a_bag_often a_row_signs a_smooth_madeFor a_smooth_weight a_smooth_inCell a_smooth_all a_smooth_starting c_gone r78.2.1 r78.2.2.1 c_row_length c_row_signs r78.2.2.2.1 r78.2.2.2.2.1 r78.2.2.2.2.2.1 r78.2.2.2.2.2.2.1 r78.2.2.2.2.2.2.2)) ⟨hx, hb, hml, hown, hts⟩ (c_X5_smoothInBlock l D cI a_t a_row a_work a_rest a_bag a_smooth a_text a_saves a_bag_often a_row_signs a_smooth_madeFor a_smooth_weight a_smooth_inCell a_smooth_all a_smooth_starting H.size c_gone c_bag_total c_bag_often c_row_length c_row_signs c_smooth_all c_smooth_inCell c_smooth_madeFor c_smooth_starting c_smooth_weight x1 r78 hr78) (cwV 1 hts mw_X5_188 rfl rfl rfl hd_X5_smoothInBlock ⟨Nat.le_of_ble_eq_true rfl, Nat.le_of_ble_eq_true rfl⟩) hS hA hG hK hP hD [0, 1, 2, 3, 4, 5, 6, 7, 8, 9, 10] rfl rfl rfl rfl rfl ⟨Nat.zero_le _, Nat.zero_le _⟩ 5 0 rfl rfl rfl rfl hl.1 rfl (Nat.le_of_ble_eq_true rfl) dX5_block_78 (fun H locs hP hD hS => ?_)
    have ho := Option.some.inj hF
    exact hret H locs ls 81 r78.1 _ hP hS (by rw [← ho]) (by rw [← ho]) dX5_block_81
  unfold F_X5_block at hF
  have hP : va_P D vwCl (wd_X5_block cI a_t a_row a_work a_rest a_bag a_smooth a_text a_saves a_bag_often a_row_signs a_smooth_madeFor a_smooth_weight a_smooth_inCell a_smooth_all a_smooth_starting c_gone c_bag_total c_bag_often c_row_length c_row_signs c_smooth_all c_smooth_inCell c_smooth_madeFor c_smooth_starting c_smooth_weight) s.heap := hP
  obtain ⟨H, hH⟩ : ∃ H, H = s.heap := ⟨_, rfl⟩
  rw [← hH]
  rw [← hH] at hP
  obtain ⟨locs, hlo⟩ : ∃ z : List Loc, z = [] := ⟨_, rfl⟩
  rw [← hlo]
  have hS : va_S A s.heap H locs := by rw [hH, hlo]; exact hS
  refine lv_iload_n hx hb dX5_block_0 rfl (lv_at hl 1 rfl) ?_
  refine lv_if_lt (tgt := 28) hx hb dX5_block_1 (by decide) (fun k1 => ?_) (fun k1 => ?_)
  · replace hF := (if_pos k1).symm.trans hF
    refine lv_iconst (v := 0) hx hb dX5_block_28 (by decide) ?_
    exact K29 c_bag_total c_bag_often c_smooth_all c_smooth_inCell c_smooth_madeFor c_smooth_starting c_smooth_weight (0 : Int32) H locs ls hP hD hS (lv_sub hl [0, 1, 2] rfl) hF
  · replace hF := (if_neg k1).symm.trans hF
    refine lv_iload_n hx hb dX5_block_4 rfl (lv_at hl 1 rfl) ?_
    refine lv_aload_n hx hb dX5_block_5 rfl (lv_at hl 0 rfl) ?_
    refine get_X5_10 hx hb hts hown hK hP 0 rfl rfl dX5_block_6 ?_
    obtain ⟨r9, hr9, hF⟩ := opb hF
    refine kVI (As := []) (rest := [.int x1]) (ws' := (wd_X5_block cI a_t a_row a_work a_rest a_bag a_smooth a_text a_saves a_bag_often a_row_signs a_smooth_madeFor a_smooth_weight a_smooth_inCell a_smooth_all a_smooth_starting c_gone c_bag_total c_bag_often c_row_length c_row_signs c_smooth_all c_smooth_inCell c_smooth_madeFor c_smooth_starting c_smooth_weight)) ⟨hx, hb, hml, hown, hts⟩ (c_X1_length l D cI a_row a_row_signs H.size c_row_length  r9 hr9) (cwV 0 hts mw_X5_79 rfl rfl rfl hd_X1_length ⟨Nat.le_of_ble_eq_true rfl, Nat.le_of_ble_eq_true rfl⟩) hS hA hG hK hP hD [3] rfl rfl rfl rfl rfl ⟨Nat.zero_le _, Nat.zero_le _⟩ 1 3 rfl rfl rfl rfl hl.1 rfl (Nat.le_of_ble_eq_true rfl) dX5_block_9 (fun H locs hP hD hS => ?_)
    refine lv_icmp_gt (tgt := 28) hx hb dX5_block_12 (by decide) (fun k12 => ?_) (fun k12 => ?_)
    · (try simp only [if_pos k12] at hF)
      refine lv_iconst (v := 0) hx hb dX5_block_28 (by decide) ?_
      exact K29 c_bag_total c_bag_often c_smooth_all c_smooth_inCell c_smooth_madeFor c_smooth_starting c_smooth_weight (0 : Int32) H locs ls hP hD hS (lv_sub hl [0, 1, 2] rfl) hF
    · (try simp only [if_neg k12] at hF)
      refine lv_iload_n hx hb dX5_block_15 rfl (lv_at hl 2 rfl) ?_
      refine lv_if_lt (tgt := 28) hx hb dX5_block_16 (by decide) (fun k16 => ?_) (fun k16 => ?_)
      · (try simp only [if_pos k16] at hF)
        refine lv_iconst (v := 0) hx hb dX5_block_28 (by decide) ?_
        exact K29 c_bag_total c_bag_often c_smooth_all c_smooth_inCell c_smooth_madeFor c_smooth_starting c_smooth_weight (0 : Int32) H locs ls hP hD hS (lv_sub hl [0, 1, 2] rfl) hF
      · (try simp only [if_neg k16] at hF)
        refine lv_iload_n hx hb dX5_block_19 rfl (lv_at hl 2 rfl) ?_
        refine lv_iconst (v := 3) hx hb dX5_block_20 (by decide) ?_
        refine lv_icmp_ge (tgt := 28) hx hb dX5_block_21 (by decide) (fun k21 => ?_) (fun k21 => ?_)
        · (try simp only [if_pos k21] at hF)
          refine lv_iconst (v := 0) hx hb dX5_block_28 (by decide) ?_
          exact K29 c_bag_total c_bag_often c_smooth_all c_smooth_inCell c_smooth_madeFor c_smooth_starting c_smooth_weight (0 : Int32) H locs ls hP hD hS (lv_sub hl [0, 1, 2] rfl) hF
        · (try simp only [if_neg k21] at hF)
          refine lv_iconst (v := 1) hx hb dX5_block_24 (by decide) ?_
          refine lv_goto (tgt := 29) hx hb dX5_block_25 (by decide) ?_
          exact K29 c_bag_total c_bag_often c_smooth_all c_smooth_inCell c_smooth_madeFor c_smooth_starting c_smooth_weight (1 : Int32) H locs ls hP hD hS (lv_sub hl [0, 1, 2] rfl) hF
abbrev wd_X5_rankBySecondWay (cI : ClassId) (a_t a_row a_work a_rest a_bag a_smooth a_text a_saves a_bag_often a_row_signs : Nat) (c_gone : Int32) (c_bag_total : Int32) (c_bag_often : Nat → Int32) (c_row_length : Int32) (c_row_signs : Nat → Int32) : va_W := [(a_t, .inr (5, [.ref a_row, .ref a_work, .ref a_rest, .ref a_bag, .ref a_smooth, .ref a_text, .ref a_saves, .int c_gone])), (a_bag, .inr (0, [.ref a_bag_often, .int c_bag_total])), (a_bag_often, .inl (cI, 6, .inl c_bag_often)), (a_row, .inr (1, [.ref a_row_signs, .int c_row_length])), (a_row_signs, .inl (cI, 11, .inl c_row_signs))]
def rm_X5_rankBySecondWay : Room := { frames := 3, cells := 0, slots := 0, locals := 65 }
set_option maxHeartbeats 4000000 in
set_option maxRecDepth 100000 in
theorem c_X5_rankBySecondWay (l : Launch) (D : va_G) (cI : ClassId) (a_t a_row a_work a_rest a_bag a_smooth a_text a_saves a_bag_often a_row_signs : Nat) (sz : Nat) (c_gone : Int32) (c_bag_total : Int32) (c_bag_often : Nat → Int32) (c_row_length : Int32) (c_row_signs : Nat → Int32) (o : Int32 × Int32 × (Nat → Int32)) (hF : F_X5_rankBySecondWay c_bag_total c_bag_often c_row_length c_row_signs = some o) : Met l yX5_rankBySecondWay (Cond.code yX5_rankBySecondWay cX5_rankBySecondWay 4 (some .int) :: WL) rm_X5_rankBySecondWay (preM D [(cI, .int)] (wd_X5_rankBySecondWay cI a_t a_row a_work a_rest a_bag a_smooth a_text a_saves a_bag_often a_row_signs c_gone c_bag_total c_bag_often c_row_length c_row_signs) sz [.ref a_t]) (postI D o.1 (wd_X5_rankBySecondWay cI a_t a_row a_work a_rest a_bag a_smooth a_text a_saves a_bag_often a_row_signs c_gone o.2.1 o.2.2 c_row_length c_row_signs) (wd_X5_rankBySecondWay cI a_t a_row a_work a_rest a_bag a_smooth a_text a_saves a_bag_often a_row_signs c_gone c_bag_total c_bag_often c_row_length c_row_signs) sz) 0 0 (va_A (wd_X5_rankBySecondWay cI a_t a_row a_work a_rest a_bag a_smooth a_text a_saves a_bag_often a_row_signs c_gone c_bag_total c_bag_often c_row_length c_row_signs) sz) := by
  refine mofI (by decide +kernel) (Nat.le_of_ble_eq_true rfl) ?_
  intro p e s m args below meth c Q A ls hx hb hml hown hts hK hP hD hS hA hG hl hret hsz0
  have hl : lv_has ls 4 [(0, .ref a_t)] := hl
  have K4 : ∀ (n4 : Nat) (c_bag_total : Int32) (c_bag_often : Nat → Int32) (x1 : Int32) (x2 : Int32) (H : Heap) (locs : List Loc) (ls : Array Slot), va_P D vwCl (wd_X5_rankBySecondWay cI a_t a_row a_work a_rest a_bag a_smooth a_text a_saves a_bag_often a_row_signs c_gone c_bag_total c_bag_often c_row_length c_row_signs) H → va_D A (wd_X5_rankBySecondWay cI a_t a_row a_work a_rest a_bag a_smooth a_text a_saves a_bag_often a_row_signs c_gone c_bag_total c_bag_often c_row_length c_row_signs) → va_S A s.heap H locs → lv_has ls 4 [(0, .ref a_t), (1, .int x1), (2, .int x2)] → F_X5_rankBySecondWay_L4 c_row_length c_row_signs n4 c_bag_total c_bag_often x1 x2 = some o → W p l e rm_X5_rankBySecondWay s m args below meth c H locs 0 0 Q (F0 m 4 ls []) := by
    intro n4
    induction n4 with
    | zero => intro c_bag_total c_bag_often x1 x2 H locs ls hP hD hS hl hF; exact nos hF
    | succ n4 ih4 =>
      have K29 : ∀ (n29 : Nat) (c_bag_total : Int32) (c_bag_often : Nat → Int32) (x1 : Int32) (x2 : Int32) (x3 : Int32) (H : Heap) (locs : List Loc) (ls : Array Slot), va_P D vwCl (wd_X5_rankBySecondWay cI a_t a_row a_work a_rest a_bag a_smooth a_text a_saves a_bag_often a_row_signs c_gone c_bag_total c_bag_often c_row_length c_row_signs) H → va_D A (wd_X5_rankBySecondWay cI a_t a_row a_work a_rest a_bag a_smooth a_text a_saves a_bag_often a_row_signs c_gone c_bag_total c_bag_often c_row_length c_row_signs) → va_S A s.heap H locs → lv_has ls 4 [(0, .ref a_t), (1, .int x1), (2, .int x2), (3, .int x3)] → F_X5_rankBySecondWay_L29 (F_X5_rankBySecondWay_L4 c_row_length c_row_signs n4) c_row_length c_row_signs n29 c_bag_total c_bag_often x1 x2 x3 = some o → W p l e rm_X5_rankBySecondWay s m args below meth c H locs 0 0 Q (F0 m 29 ls []) := by
        intro n29
        induction n29 with
        | zero => intro c_bag_total c_bag_often x1 x2 x3 H locs ls hP hD hS hl hF; exact nos hF
        | succ n29 ih29 =>
          intro c_bag_total c_bag_often x1 x2 x3 H locs ls hP hD hS hl hF
          rw [F_X5_rankBySecondWay_L29] at hF
          refine lv_iload_n hx hb dX5_rankBySecondWay_29 rfl (lv_at hl 3 rfl) ?_
          refine lv_aload_n hx hb dX5_rankBySecondWay_30 rfl (lv_at hl 0 rfl) ?_
          refine get_X5_10 hx hb hts hown hK hP 0 rfl rfl dX5_rankBySecondWay_31 ?_
          refine lv_iload_n hx hb dX5_rankBySecondWay_34 rfl (lv_at hl 2 rfl) ?_
          obtain ⟨r35, hr35, hF⟩ := opb hF
          refine kVI (As := [.int x2]) (rest := [.int x3]) (ws' := (wd_X5_rankBySecondWay cI a_t a_row a_work a_rest a_bag a_smooth a_text a_saves a_bag_often a_row_signs c_gone c_bag_total c_bag_often c_row_length c_row_signs)) ⟨hx, hb, hml, hown, hts⟩ (c_X1_at l D cI a_row a_row_signs H.size c_row_length c_row_signs x2 r35 hr35) (cwV 1 hts mw_X5_137 rfl rfl rfl hd_X1_at ⟨Nat.le_of_ble_eq_true rfl, Nat.le_of_ble_eq_true rfl⟩) hS hA hG hK hP hD [3, 4] rfl rfl rfl rfl rfl ⟨Nat.zero_le _, Nat.zero_le _⟩ 1 3 rfl rfl rfl rfl hl.1 rfl (Nat.le_of_ble_eq_true rfl) dX5_rankBySecondWay_35 (fun H locs hP hD hS => ?_)
          refine lv_icmp_ge (tgt := 58) hx hb dX5_rankBySecondWay_38 (by decide) (fun k38 => ?_) (fun k38 => ?_)
          · replace hF := (if_pos k38).symm.trans hF
            refine lv_iinc (v := x2 + 1) (lv' := [(2, .int (x2 + 1)), (0, .ref a_t), (1, .int x1), (3, .int x3)]) hx hb dX5_rankBySecondWay_58 hl (k := 2) rfl rfl (by decide) rfl (fun ls hl => ?_)
            refine lv_goto (tgt := 4) hx hb dX5_rankBySecondWay_61 (by decide) ?_
            exact ih4 c_bag_total c_bag_often x1 (x2 + 1) H locs ls hP hD hS (lv_sub hl [1, 2, 0] rfl) hF
          · replace hF := (if_neg k38).symm.trans hF
            refine lv_iload_n hx hb dX5_rankBySecondWay_41 rfl (lv_at hl 1 rfl) ?_
            refine lv_aload_n hx hb dX5_rankBySecondWay_42 rfl (lv_at hl 0 rfl) ?_
            refine get_X5_25 hx hb hts hown hK hP 0 rfl rfl dX5_rankBySecondWay_43 ?_
            refine lv_iload_n hx hb dX5_rankBySecondWay_46 rfl (lv_at hl 3 rfl) ?_
            obtain ⟨r47, hr47, hF⟩ := opb hF
            refine kVI (As := [.int x3]) (rest := [.int x1]) (ws' := (wd_X5_rankBySecondWay cI a_t a_row a_work a_rest a_bag a_smooth a_text a_saves a_bag_often a_row_signs c_gone r47.2.1 r47.2.2 c_row_length c_row_signs)) ⟨hx, hb, hml, hown, hts⟩ (c_X0_waysBehind l D cI a_bag a_bag_often H.size c_bag_total c_bag_often x3 r47 hr47) (cwV 1 hts mw_X5_304 rfl rfl rfl hd_X0_waysBehind ⟨Nat.le_of_ble_eq_true rfl, Nat.le_of_ble_eq_true rfl⟩) hS hA hG hK hP hD [1, 2] rfl rfl rfl rfl rfl ⟨Nat.zero_le _, Nat.zero_le _⟩ 0 1 rfl rfl rfl rfl hl.1 rfl (Nat.le_of_ble_eq_true rfl) dX5_rankBySecondWay_47 (fun H locs hP hD hS => ?_)
            refine lv_iadd hx hb dX5_rankBySecondWay_50 ?_
            refine lv_istore_n (lv' := [(1, .int (x1 + r47.1)), (0, .ref a_t), (2, .int x2), (3, .int x3)]) hx hb dX5_rankBySecondWay_51 rfl hl (by decide) rfl (fun ls hl => ?_)
            refine lv_iinc (v := x3 + 1) (lv' := [(3, .int (x3 + 1)), (1, .int (x1 + r47.1)), (0, .ref a_t), (2, .int x2)]) hx hb dX5_rankBySecondWay_52 hl (k := 3) rfl rfl (by decide) rfl (fun ls hl => ?_)
            refine lv_goto (tgt := 29) hx hb dX5_rankBySecondWay_55 (by decide) ?_
            exact ih29 r47.2.1 r47.2.2 (x1 + r47.1) x2 (x3 + 1) H locs ls hP hD hS (lv_sub hl [2, 1, 3, 0] rfl) hF
      intro c_bag_total c_bag_often x1 x2 H locs ls hP hD hS hl hF
      rw [F_X5_rankBySecondWay_L4] at hF
      refine lv_iload_n hx hb dX5_rankBySecondWay_4 rfl (lv_at hl 2 rfl) ?_
      refine lv_aload_n hx hb dX5_rankBySecondWay_5 rfl (lv_at hl 0 rfl) ?_
      refine get_X5_10 hx hb hts hown hK hP 0 rfl rfl dX5_rankBySecondWay_6 ?_
      obtain ⟨r9, hr9, hF⟩ := opb hF
      refine kVI (As := []) (rest := [.int x2]) (ws' := (wd_X5_rankBySecondWay cI a_t a_row a_work a_rest a_bag a_smooth a_text a_saves a_bag_often a_row_signs c_gone c_bag_total c_bag_often c_row_length c_row_signs)) ⟨hx, hb, hml, hown, hts⟩ (c_X1_length l D cI a_row a_row_signs H.size c_row_length  r9 hr9) (cwV 0 hts mw_X5_79 rfl rfl rfl hd_X1_length ⟨Nat.le_of_ble_eq_true rfl, Nat.le_of_ble_eq_true rfl⟩) hS hA hG hK hP hD [3] rfl rfl rfl rfl rfl ⟨Nat.zero_le _, Nat.zero_le _⟩ 1 3 rfl rfl rfl rfl hl.1 rfl (Nat.le_of_ble_eq_true rfl) dX5_rankBySecondWay_9 (fun H locs hP hD hS => ?_)
      refine lv_icmp_ge (tgt := 64) hx hb dX5_rankBySecondWay_12 (by decide) (fun k12 => ?_) (fun k12 => ?_)
      · replace hF := (if_pos k12).symm.trans hF
        refine lv_iload_n hx hb dX5_rankBySecondWay_64 rfl (lv_at hl 1 rfl) ?_
        have ho := Option.some.inj hF
        exact hret H locs ls 65 x1 _ hP hS (by rw [← ho]) (by rw [← ho]) dX5_rankBySecondWay_65
      · replace hF := (if_neg k12).symm.trans hF
        refine lv_aload_n hx hb dX5_rankBySecondWay_15 rfl (lv_at hl 0 rfl) ?_
        refine get_X5_25 hx hb hts hown hK hP 0 rfl rfl dX5_rankBySecondWay_16 ?_
        refine lv_aload_n hx hb dX5_rankBySecondWay_19 rfl (lv_at hl 0 rfl) ?_
        refine get_X5_10 hx hb hts hown hK hP 0 rfl rfl dX5_rankBySecondWay_20 ?_
        refine lv_iload_n hx hb dX5_rankBySecondWay_23 rfl (lv_at hl 2 rfl) ?_
        obtain ⟨r24, hr24, hF⟩ := opb hF
        refine kVV (As := [.ref a_row, .int x2]) (rest := []) (ws' := (wd_X5_rankBySecondWay cI a_t a_row a_work a_rest a_bag a_smooth a_text a_saves a_bag_often a_row_signs c_gone r24.1 r24.2 c_row_length c_row_signs)) ⟨hx, hb, hml, hown, hts⟩ (c_X0_fill l D cI a_bag a_row a_bag_often a_row_signs H.size c_bag_total c_bag_often c_row_length c_row_signs x2 r24 hr24) (cwV 2 hts mw_X5_171 rfl rfl rfl hd_X0_fill ⟨Nat.le_of_ble_eq_true rfl, Nat.le_of_ble_eq_true rfl⟩) hS hA hG hK hP hD [1, 2, 3, 4] rfl rfl rfl rfl rfl ⟨Nat.zero_le _, Nat.zero_le _⟩ 0 1 rfl rfl rfl rfl hl.1 rfl (Nat.le_of_ble_eq_true rfl) dX5_rankBySecondWay_24 (fun H locs hP hD hS => ?_)
        refine lv_iconst (v := 0) hx hb dX5_rankBySecondWay_27 (by decide) ?_
        refine lv_istore_n (lv' := [(3, .int (0 : Int32)), (0, .ref a_t), (1, .int x1), (2, .int x2)]) hx hb dX5_rankBySecondWay_28 rfl hl (by decide) rfl (fun ls hl => ?_)
        exact K29 FU r24.1 r24.2 x1 x2 (0 : Int32) H locs ls hP hD hS (lv_sub hl [1, 2, 3, 0] rfl) hF
  unfold F_X5_rankBySecondWay at hF
  have hP : va_P D vwCl (wd_X5_rankBySecondWay cI a_t a_row a_work a_rest a_bag a_smooth a_text a_saves a_bag_often a_row_signs c_gone c_bag_total c_bag_often c_row_length c_row_signs) s.heap := hP
  obtain ⟨H, hH⟩ : ∃ H, H = s.heap := ⟨_, rfl⟩
  rw [← hH]
  rw [← hH] at hP
  obtain ⟨locs, hlo⟩ : ∃ z : List Loc, z = [] := ⟨_, rfl⟩
  rw [← hlo]
  have hS : va_S A s.heap H locs := by rw [hH, hlo]; exact hS
  refine lv_iconst (v := 0) hx hb dX5_rankBySecondWay_0 (by decide) ?_
  refine lv_istore_n (lv' := [(1, .int (0 : Int32)), (0, .ref a_t)]) hx hb dX5_rankBySecondWay_1 rfl hl (by decide) rfl (fun ls hl => ?_)
  refine lv_iconst (v := 0) hx hb dX5_rankBySecondWay_2 (by decide) ?_
  refine lv_istore_n (lv' := [(2, .int (0 : Int32)), (1, .int (0 : Int32)), (0, .ref a_t)]) hx hb dX5_rankBySecondWay_3 rfl hl (by decide) rfl (fun ls hl => ?_)
  exact K4 FU c_bag_total c_bag_often (0 : Int32) (0 : Int32) H locs ls hP hD hS (lv_sub hl [2, 1, 0] rfl) hF
abbrev wd_X5_rankTurnedAround (cI : ClassId) (a_t a_row a_work a_rest a_bag a_smooth a_text a_saves a_bag_often a_row_signs a_work_signs : Nat) (c_gone : Int32) (c_bag_total : Int32) (c_bag_often : Nat → Int32) (c_row_length : Int32) (c_row_signs : Nat → Int32) (c_work_length : Int32) (c_work_signs : Nat → Int32) : va_W := [(a_t, .inr (5, [.ref a_row, .ref a_work, .ref a_rest, .ref a_bag, .ref a_smooth, .ref a_text, .ref a_saves, .int c_gone])), (a_bag, .inr (0, [.ref a_bag_often, .int c_bag_total])), (a_bag_often, .inl (cI, 6, .inl c_bag_often)), (a_row, .inr (1, [.ref a_row_signs, .int c_row_length])), (a_row_signs, .inl (cI, 11, .inl c_row_signs)), (a_work, .inr (1, [.ref a_work_signs, .int c_work_length])), (a_work_signs, .inl (cI, 11, .inl c_work_signs))]
def rm_X5_rankTurnedAround : Room := { frames := 4, cells := 0, slots := 0, locals := 91 }
set_option maxHeartbeats 4000000 in
set_option maxRecDepth 100000 in
theorem c_X5_rankTurnedAround (l : Launch) (D : va_G) (cI : ClassId) (a_t a_row a_work a_rest a_bag a_smooth a_text a_saves a_bag_often a_row_signs a_work_signs : Nat) (sz : Nat) (c_gone : Int32) (c_bag_total : Int32) (c_bag_often : Nat → Int32) (c_row_length : Int32) (c_row_signs : Nat → Int32) (c_work_length : Int32) (c_work_signs : Nat → Int32) (o : Int32 × Int32 × (Nat → Int32) × Int32 × (Nat → Int32)) (hF : F_X5_rankTurnedAround c_bag_total c_bag_often c_row_length c_row_signs c_work_length c_work_signs = some o) : Met l yX5_rankTurnedAround (Cond.code yX5_rankTurnedAround cX5_rankTurnedAround 1 (some .int) :: WL) rm_X5_rankTurnedAround (preM D [(cI, .int)] (wd_X5_rankTurnedAround cI a_t a_row a_work a_rest a_bag a_smooth a_text a_saves a_bag_often a_row_signs a_work_signs c_gone c_bag_total c_bag_often c_row_length c_row_signs c_work_length c_work_signs) sz [.ref a_t]) (postI D o.1 (wd_X5_rankTurnedAround cI a_t a_row a_work a_rest a_bag a_smooth a_text a_saves a_bag_often a_row_signs a_work_signs c_gone o.2.1 o.2.2.1 c_row_length c_row_signs o.2.2.2.1 o.2.2.2.2) (wd_X5_rankTurnedAround cI a_t a_row a_work a_rest a_bag a_smooth a_text a_saves a_bag_often a_row_signs a_work_signs c_gone c_bag_total c_bag_often c_row_length c_row_signs c_work_length c_work_signs) sz) 0 0 (va_A (wd_X5_rankTurnedAround cI a_t a_row a_work a_rest a_bag a_smooth a_text a_saves a_bag_often a_row_signs a_work_signs c_gone c_bag_total c_bag_often c_row_length c_row_signs c_work_length c_work_signs) sz) := by
  refine mofI (by decide +kernel) (Nat.le_of_ble_eq_true rfl) ?_
  intro p e s m args below meth c Q A ls hx hb hml hown hts hK hP hD hS hA hG hl hret hsz0
  have hl : lv_has ls 1 [(0, .ref a_t)] := hl
  unfold F_X5_rankTurnedAround at hF
  have hP : va_P D vwCl (wd_X5_rankTurnedAround cI a_t a_row a_work a_rest a_bag a_smooth a_text a_saves a_bag_often a_row_signs a_work_signs c_gone c_bag_total c_bag_often c_row_length c_row_signs c_work_length c_work_signs) s.heap := hP
  obtain ⟨H, hH⟩ : ∃ H, H = s.heap := ⟨_, rfl⟩
  rw [← hH]
  rw [← hH] at hP
  obtain ⟨locs, hlo⟩ : ∃ z : List Loc, z = [] := ⟨_, rfl⟩
  rw [← hlo]
  have hS : va_S A s.heap H locs := by rw [hH, hlo]; exact hS
  refine lv_aload_n hx hb dX5_rankTurnedAround_0 rfl (lv_at hl 0 rfl) ?_
  refine get_X5_16 hx hb hts hown hK hP 0 rfl rfl dX5_rankTurnedAround_1 ?_
  refine lv_aload_n hx hb dX5_rankTurnedAround_4 rfl (lv_at hl 0 rfl) ?_
  refine get_X5_10 hx hb hts hown hK hP 0 rfl rfl dX5_rankTurnedAround_5 ?_
  obtain ⟨r8, hr8, hF⟩ := opb hF
  refine kVV (As := [.ref a_row]) (rest := []) (ws' := (wd_X5_rankTurnedAround cI a_t a_row a_work a_rest a_bag a_smooth a_text a_saves a_bag_often a_row_signs a_work_signs c_gone c_bag_total c_bag_often c_row_length c_row_signs r8.1 r8.2)) ⟨hx, hb, hml, hown, hts⟩ (c_X1_become l D cI a_work a_row a_work_signs a_row_signs H.size c_work_length c_work_signs c_row_length c_row_signs  r8 hr8) (cwV 1 hts mw_X5_220 rfl rfl rfl hd_X1_become ⟨Nat.le_of_ble_eq_true rfl, Nat.le_of_ble_eq_true rfl⟩) hS hA hG hK hP hD [5, 6, 3, 4] rfl rfl rfl rfl rfl ⟨Nat.zero_le _, Nat.zero_le _⟩ 1 5 rfl rfl rfl rfl hl.1 rfl (Nat.le_of_ble_eq_true rfl) dX5_rankTurnedAround_8 (fun H locs hP hD hS => ?_)
  refine lv_aload_n hx hb dX5_rankTurnedAround_11 rfl (lv_at hl 0 rfl) ?_
  refine get_X5_16 hx hb hts hown hK hP 0 rfl rfl dX5_rankTurnedAround_12 ?_
  refine lv_iconst (v := 0) hx hb dX5_rankTurnedAround_15 (by decide) ?_
  refine lv_aload_n hx hb dX5_rankTurnedAround_16 rfl (lv_at hl 0 rfl) ?_
  refine get_X5_16 hx hb hts hown hK hP 0 rfl rfl dX5_rankTurnedAround_17 ?_
  obtain ⟨r20, hr20, hF⟩ := opb hF
  refine kVI (As := []) (rest := [.int (0 : Int32), .ref a_work]) (ws' := (wd_X5_rankTurnedAround cI a_t a_row a_work a_rest a_bag a_smooth a_text a_saves a_bag_often a_row_signs a_work_signs c_gone c_bag_total c_bag_often c_row_length c_row_signs r8.1 r8.2)) ⟨hx, hb, hml, hown, hts⟩ (c_X1_length l D cI a_work a_work_signs H.size r8.1  r20 hr20) (cwV 0 hts mw_X5_79 rfl rfl rfl hd_X1_length ⟨Nat.le_of_ble_eq_true rfl, Nat.le_of_ble_eq_true rfl⟩) hS hA hG hK hP hD [5] rfl rfl rfl rfl rfl ⟨Nat.zero_le _, Nat.zero_le _⟩ 1 5 rfl rfl rfl rfl hl.1 rfl (Nat.le_of_ble_eq_true rfl) dX5_rankTurnedAround_20 (fun H locs hP hD hS => ?_)
  refine lv_iconst (v := 1) hx hb dX5_rankTurnedAround_23 (by decide) ?_
  refine lv_isub hx hb dX5_rankTurnedAround_24 ?_
  obtain ⟨r25, hr25, hF⟩ := opb hF
  refine kVV (As := [.int (0 : Int32), .int (r20 - (1 : Int32))]) (rest := []) (ws' := (wd_X5_rankTurnedAround cI a_t a_row a_work a_rest a_bag a_smooth a_text a_saves a_bag_often a_row_signs a_work_signs c_gone c_bag_total c_bag_often c_row_length c_row_signs r8.1 r25)) ⟨hx, hb, hml, hown, hts⟩ (c_X1_reverse l D cI a_work a_work_signs H.size r8.1 r8.2 (0 : Int32) (r20 - (1 : Int32)) r25 hr25) (cwV 2 hts mw_X5_116 rfl rfl rfl hd_X1_reverse ⟨Nat.le_of_ble_eq_true rfl, Nat.le_of_ble_eq_true rfl⟩) hS hA hG hK hP hD [5, 6] rfl rfl rfl rfl rfl ⟨Nat.zero_le _, Nat.zero_le _⟩ 1 5 rfl rfl rfl rfl hl.1 rfl (Nat.le_of_ble_eq_true rfl) dX5_rankTurnedAround_25 (fun H locs hP hD hS => ?_)
  refine lv_aload_n hx hb dX5_rankTurnedAround_28 rfl (lv_at hl 0 rfl) ?_
  refine lv_aload_n hx hb dX5_rankTurnedAround_29 rfl (lv_at hl 0 rfl) ?_
  refine get_X5_16 hx hb hts hown hK hP 0 rfl rfl dX5_rankTurnedAround_30 ?_
  obtain ⟨r33, hr33, hF⟩ := opb hF
  refine kVI (As := [.ref a_work]) (rest := []) (ws' := (wd_X5_rankTurnedAround cI a_t a_row a_work a_rest a_bag a_smooth a_text a_saves a_bag_often a_row_signs a_work_signs c_gone r33.2.1 r33.2.2 c_row_length c_row_signs r8.1 r25)) ⟨hx, hb, hml, hown, hts⟩ (c_X5_rankOf l D cI a_t a_work a_row a_work a_rest a_bag a_smooth a_text a_saves a_bag_often a_work_signs H.size c_gone c_bag_total c_bag_often r8.1 r25  r33 hr33) (cwV 1 hts mw_X5_57 rfl rfl rfl hd_X5_rankOf ⟨Nat.le_of_ble_eq_true rfl, Nat.le_of_ble_eq_true rfl⟩) hS hA hG hK hP hD [0, 1, 2, 5, 6] rfl rfl rfl rfl rfl ⟨Nat.zero_le _, Nat.zero_le _⟩ 5 0 rfl rfl rfl rfl hl.1 rfl (Nat.le_of_ble_eq_true rfl) dX5_rankTurnedAround_33 (fun H locs hP hD hS => ?_)
  have ho := Option.some.inj hF
  exact hret H locs ls 36 r33.1 _ hP hS (by rw [← ho]) (by rw [← ho]) dX5_rankTurnedAround_36
abbrev wd_X5_unlikeSigns (cI : ClassId) (a_t a_row a_work a_rest a_bag a_smooth a_text a_saves a_bag_often a_row_signs : Nat) (c_gone : Int32) (c_bag_total : Int32) (c_bag_often : Nat → Int32) (c_row_length : Int32) (c_row_signs : Nat → Int32) : va_W := [(a_t, .inr (5, [.ref a_row, .ref a_work, .ref a_rest, .ref a_bag, .ref a_smooth, .ref a_text, .ref a_saves, .int c_gone])), (a_bag, .inr (0, [.ref a_bag_often, .int c_bag_total])), (a_bag_often, .inl (cI, 6, .inl c_bag_often)), (a_row, .inr (1, [.ref a_row_signs, .int c_row_length])), (a_row_signs, .inl (cI, 11, .inl c_row_signs))]
def rm_X5_unlikeSigns : Room := { frames := 2, cells := 0, slots := 0, locals := 44 }
set_option maxHeartbeats 4000000 in
set_option maxRecDepth 100000 in
theorem c_X5_unlikeSigns (l : Launch) (D : va_G) (cI : ClassId) (a_t a_row a_work a_rest a_bag a_smooth a_text a_saves a_bag_often a_row_signs : Nat) (sz : Nat) (c_gone : Int32) (c_bag_total : Int32) (c_bag_often : Nat → Int32) (c_row_length : Int32) (c_row_signs : Nat → Int32) (o : Int32 × Int32 × (Nat → Int32)) (hF : F_X5_unlikeSigns c_bag_total c_bag_often c_row_length c_row_signs = some o) : Met l yX5_unlikeSigns (Cond.code yX5_unlikeSigns cX5_unlikeSigns 1 (some .int) :: WL) rm_X5_unlikeSigns (preM D [(cI, .int)] (wd_X5_unlikeSigns cI a_t a_row a_work a_rest a_bag a_smooth a_text a_saves a_bag_often a_row_signs c_gone c_bag_total c_bag_often c_row_length c_row_signs) sz [.ref a_t]) (postI D o.1 (wd_X5_unlikeSigns cI a_t a_row a_work a_rest a_bag a_smooth a_text a_saves a_bag_often a_row_signs c_gone o.2.1 o.2.2 c_row_length c_row_signs) (wd_X5_unlikeSigns cI a_t a_row a_work a_rest a_bag a_smooth a_text a_saves a_bag_often a_row_signs c_gone c_bag_total c_bag_often c_row_length c_row_signs) sz) 0 0 (va_A (wd_X5_unlikeSigns cI a_t a_row a_work a_rest a_bag a_smooth a_text a_saves a_bag_often a_row_signs c_gone c_bag_total c_bag_often c_row_length c_row_signs) sz) := by
  refine mofI (by decide +kernel) (Nat.le_of_ble_eq_true rfl) ?_
  intro p e s m args below meth c Q A ls hx hb hml hown hts hK hP hD hS hA hG hl hret hsz0
  have hl : lv_has ls 1 [(0, .ref a_t)] := hl
  unfold F_X5_unlikeSigns at hF
  have hP : va_P D vwCl (wd_X5_unlikeSigns cI a_t a_row a_work a_rest a_bag a_smooth a_text a_saves a_bag_often a_row_signs c_gone c_bag_total c_bag_often c_row_length c_row_signs) s.heap := hP
  obtain ⟨H, hH⟩ : ∃ H, H = s.heap := ⟨_, rfl⟩
  rw [← hH]
  rw [← hH] at hP
  obtain ⟨locs, hlo⟩ : ∃ z : List Loc, z = [] := ⟨_, rfl⟩
  rw [← hlo]
  have hS : va_S A s.heap H locs := by rw [hH, hlo]; exact hS
  refine lv_aload_n hx hb dX5_unlikeSigns_0 rfl (lv_at hl 0 rfl) ?_
  refine get_X5_25 hx hb hts hown hK hP 0 rfl rfl dX5_unlikeSigns_1 ?_
  refine lv_aload_n hx hb dX5_unlikeSigns_4 rfl (lv_at hl 0 rfl) ?_
  refine get_X5_10 hx hb hts hown hK hP 0 rfl rfl dX5_unlikeSigns_5 ?_
  refine lv_iconst (v := 0) hx hb dX5_unlikeSigns_8 (by decide) ?_
  obtain ⟨r9, hr9, hF⟩ := opb hF
  refine kVV (As := [.ref a_row, .int (0 : Int32)]) (rest := []) (ws' := (wd_X5_unlikeSigns cI a_t a_row a_work a_rest a_bag a_smooth a_text a_saves a_bag_often a_row_signs c_gone r9.1 r9.2 c_row_length c_row_signs)) ⟨hx, hb, hml, hown, hts⟩ (c_X0_fill l D cI a_bag a_row a_bag_often a_row_signs H.size c_bag_total c_bag_often c_row_length c_row_signs (0 : Int32) r9 hr9) (cwV 2 hts mw_X5_171 rfl rfl rfl hd_X0_fill ⟨Nat.le_of_ble_eq_true rfl, Nat.le_of_ble_eq_true rfl⟩) hS hA hG hK hP hD [1, 2, 3, 4] rfl rfl rfl rfl rfl ⟨Nat.zero_le _, Nat.zero_le _⟩ 0 1 rfl rfl rfl rfl hl.1 rfl (Nat.le_of_ble_eq_true rfl) dX5_unlikeSigns_9 (fun H locs hP hD hS => ?_)
  refine lv_aload_n hx hb dX5_unlikeSigns_12 rfl (lv_at hl 0 rfl) ?_
  refine get_X5_25 hx hb hts hown hK hP 0 rfl rfl dX5_unlikeSigns_13 ?_
  refine lv_bipush (v := 6) hx hb dX5_unlikeSigns_16 (by decide) ?_
  obtain ⟨r18, hr18, hF⟩ := opb hF
  refine kVI (As := [.int (6 : Int32)]) (rest := []) (ws' := (wd_X5_unlikeSigns cI a_t a_row a_work a_rest a_bag a_smooth a_text a_saves a_bag_often a_row_signs c_gone r9.1 r9.2 c_row_length c_row_signs)) ⟨hx, hb, hml, hown, hts⟩ (c_X0_unlikeBelow l D cI a_bag a_bag_often H.size r9.1 r9.2 (6 : Int32) r18 hr18) (cwV 1 hts mw_X5_175 rfl rfl rfl hd_X0_unlikeBelow ⟨Nat.le_of_ble_eq_true rfl, Nat.le_of_ble_eq_true rfl⟩) hS hA hG hK hP hD [1, 2] rfl rfl rfl rfl rfl ⟨Nat.zero_le _, Nat.zero_le _⟩ 0 1 rfl rfl rfl rfl hl.1 rfl (Nat.le_of_ble_eq_true rfl) dX5_unlikeSigns_18 (fun H locs hP hD hS => ?_)
  have ho := Option.some.inj hF
  exact hret H locs ls 21 r18 _ hP hS (by rw [← ho]) (by rw [← ho]) dX5_unlikeSigns_21
abbrev wd_X5_count (cI : ClassId) (a_t a_row a_work a_rest a_bag a_smooth a_text a_saves a_bag_often a_row_signs a_saves_slots a_smooth_madeFor a_smooth_weight a_smooth_inCell a_smooth_all a_smooth_starting a_work_signs : Nat) (c_gone : Int32) (c_bag_total : Int32) (c_bag_often : Nat → Int32) (c_row_length : Int32) (c_row_signs : Nat → Int32) (c_saves_held : Int32) (c_smooth_all : Nat → Int32) (c_smooth_inCell : Nat → Int32) (c_smooth_madeFor : Nat → Int32) (c_smooth_starting : Nat → Int32) (c_smooth_weight : Nat → Int32) (c_work_length : Int32) (c_work_signs : Nat → Int32) : va_W := [(a_t, .inr (5, [.ref a_row, .ref a_work, .ref a_rest, .ref a_bag, .ref a_smooth, .ref a_text, .ref a_saves, .int c_gone])), (a_bag, .inr (0, [.ref a_bag_often, .int c_bag_total])), (a_bag_often, .inl (cI, 6, .inl c_bag_often)), (a_row, .inr (1, [.ref a_row_signs, .int c_row_length])), (a_row_signs, .inl (cI, 11, .inl c_row_signs)), (a_saves, .inr (2, [.ref a_saves_slots, .int c_saves_held])), (a_smooth, .inr (3, [.ref a_smooth_madeFor, .ref a_smooth_weight, .ref a_smooth_inCell, .ref a_smooth_all, .ref a_smooth_starting])), (a_smooth_all, .inl (cI, 486, .inl c_smooth_all)), (a_smooth_inCell, .inl (cI, 6, .inl c_smooth_inCell)), (a_smooth_madeFor, .inl (cI, 6, .inl c_smooth_madeFor)), (a_smooth_starting, .inl (cI, 2916, .inl c_smooth_starting)), (a_smooth_weight, .inl (cI, 6, .inl c_smooth_weight)), (a_work, .inr (1, [.ref a_work_signs, .int c_work_length])), (a_work_signs, .inl (cI, 11, .inl c_work_signs))]
def rm_X5_count : Room := { frames := 6, cells := 0, slots := 0, locals := 133 }
set_option maxHeartbeats 4000000 in
set_option maxRecDepth 100000 in
theorem c_X5_count (l : Launch) (D : va_G) (cI : ClassId) (a_t a_row a_work a_rest a_bag a_smooth a_text a_saves a_bag_often a_row_signs a_saves_slots a_smooth_madeFor a_smooth_weight a_smooth_inCell a_smooth_all a_smooth_starting a_work_signs : Nat) (sz : Nat) (c_gone : Int32) (c_bag_total : Int32) (c_bag_often : Nat → Int32) (c_row_length : Int32) (c_row_signs : Nat → Int32) (c_saves_held : Int32) (c_smooth_all : Nat → Int32) (c_smooth_inCell : Nat → Int32) (c_smooth_madeFor : Nat → Int32) (c_smooth_starting : Nat → Int32) (c_smooth_weight : Nat → Int32) (c_work_length : Int32) (c_work_signs : Nat → Int32) (x1 : Int32) (o : Int32 × Int32 × (Nat → Int32) × (Nat → Int32) × (Nat → Int32) × (Nat → Int32) × (Nat → Int32) × (Nat → Int32) × Int32 × (Nat → Int32)) (hF : F_X5_count c_gone c_bag_total c_bag_often c_row_length c_row_signs c_saves_held c_smooth_all c_smooth_inCell c_smooth_madeFor c_smooth_starting c_smooth_weight c_work_length c_work_signs x1 = some o) : Met l yX5_count (Cond.code yX5_count cX5_count 2 (some .int) :: WL) rm_X5_count (preM D [(cI, .int)] (wd_X5_count cI a_t a_row a_work a_rest a_bag a_smooth a_text a_saves a_bag_often a_row_signs a_saves_slots a_smooth_madeFor a_smooth_weight a_smooth_inCell a_smooth_all a_smooth_starting a_work_signs c_gone c_bag_total c_bag_often c_row_length c_row_signs c_saves_held c_smooth_all c_smooth_inCell c_smooth_madeFor c_smooth_starting c_smooth_weight c_work_length c_work_signs) sz [.ref a_t, .int x1]) (postI D o.1 (wd_X5_count cI a_t a_row a_work a_rest a_bag a_smooth a_text a_saves a_bag_often a_row_signs a_saves_slots a_smooth_madeFor a_smooth_weight a_smooth_inCell a_smooth_all a_smooth_starting a_work_signs c_gone o.2.1 o.2.2.1 c_row_length c_row_signs c_saves_held o.2.2.2.1 o.2.2.2.2.1 o.2.2.2.2.2.1 o.2.2.2.2.2.2.1 o.2.2.2.2.2.2.2.1 o.2.2.2.2.2.2.2.2.1 o.2.2.2.2.2.2.2.2.2) (wd_X5_count cI a_t a_row a_work a_rest a_bag a_smooth a_text a_saves a_bag_often a_row_signs a_saves_slots a_smooth_madeFor a_smooth_weight a_smooth_inCell a_smooth_all a_smooth_starting a_work_signs c_gone c_bag_total c_bag_often c_row_length c_row_signs c_saves_held c_smooth_all c_smooth_inCell c_smooth_madeFor c_smooth_starting c_smooth_weight c_work_length c_work_signs) sz) 0 0 (va_A (wd_X5_count cI a_t a_row a_work a_rest a_bag a_smooth a_text a_saves a_bag_often a_row_signs a_saves_slots a_smooth_madeFor a_smooth_weight a_smooth_inCell a_smooth_all a_smooth_starting a_work_signs c_gone c_bag_total c_bag_often c_row_length c_row_signs c_saves_held c_smooth_all c_smooth_inCell c_smooth_madeFor c_smooth_starting c_smooth_weight c_work_length c_work_signs) sz) := by
  refine mofI (by decide +kernel) (Nat.le_of_ble_eq_true rfl) ?_
  intro p e s m args below meth c Q A ls hx hb hml hown hts hK hP hD hS hA hG hl hret hsz0
  have hl : lv_has ls 2 [(0, .ref a_t), (1, .int x1)] := hl
  have K15 : ∀ (c_bag_total : Int32) (c_bag_often : Nat → Int32) (c_smooth_all : Nat → Int32) (c_smooth_inCell : Nat → Int32) (c_smooth_madeFor : Nat → Int32) (c_smooth_starting : Nat → Int32) (c_smooth_weight : Nat → Int32) (c_work_length : Int32) (c_work_signs : Nat → Int32) (v0 : Int32)  (H : Heap) (locs : List Loc) (ls : Array Slot), va_P D vwCl (wd_X5_count cI a_t a_row a_work a_rest a_bag a_smooth a_text a_saves a_bag_often a_row_signs a_saves_slots a_smooth_madeFor a_smooth_weight a_smooth_inCell a_smooth_all a_smooth_starting a_work_signs c_gone c_bag_total c_bag_often c_row_length c_row_signs c_saves_held c_smooth_all c_smooth_inCell c_smooth_madeFor c_smooth_starting c_smooth_weight c_work_length c_work_signs) H → va_D A (wd_X5_count cI a_t a_row a_work a_rest a_bag a_smooth a_text a_saves a_bag_often a_row_signs a_saves_slots a_smooth_madeFor a_smooth_weight a_smooth_inCell a_smooth_all a_smooth_starting a_work_signs c_gone c_bag_total c_bag_often c_row_length c_row_signs c_saves_held c_smooth_all c_smooth_inCell c_smooth_madeFor c_smooth_starting c_smooth_weight c_work_length c_work_signs) → va_S A s.heap H locs → lv_has ls 2 [(0, .ref a_t), (1, .int x1)] → F_X5_count_J15 c_gone c_row_length c_row_signs c_saves_held x1 c_bag_total c_bag_often c_smooth_all c_smooth_inCell c_smooth_madeFor c_smooth_starting c_smooth_weight c_work_length c_work_signs v0 = some o → W p l e rm_X5_count s m args below meth c H locs 0 0 Q (F0 m 15 ls [.int v0]) := by
    intro c_bag_total c_bag_often c_smooth_all c_smooth_inCell c_smooth_madeFor c_smooth_starting c_smooth_weight c_work_length c_work_signs v0 H locs ls hP hD hS hl hF
    unfold F_X5_count_J15 at hF
    obtain ⟨r15, hr15, hF⟩ := opb hF
    refine kSV (As := [.int v0]) (rest := []) (ws' := (wd_X5_count cI a_t a_row a_work a_rest a_bag a_smooth a_text a_saves a_bag_often a_row_signs a_saves_slots a_smooth_madeFor a_smooth_weight a_smooth_inCell a_smooth_all a_smooth_starting a_work_signs c_gone c_bag_total c_bag_often c_row_length c_row_signs c_saves_held c_smooth_all c_smooth_inCell c_smooth_madeFor c_smooth_starting c_smooth_weight c_work_length c_work_signs)) ⟨hx, hb, hml, hown, hts⟩ (c_X5_need l D cI  H.size  v0 r15 hr15) (va_cwS 1 hts mw_X5_112 rfl rfl rfl hd_X5_need ⟨Nat.le_of_ble_eq_true rfl, Nat.le_of_ble_eq_true rfl⟩) hS hA hG hK hP hD [] rfl rfl rfl rfl rfl ⟨Nat.zero_le _, Nat.zero_le _⟩ rfl hl.1 rfl (Nat.le_of_ble_eq_true rfl) dX5_count_15 (fun H locs hP hD hS => ?_)
    refine lv_iload_n hx hb dX5_count_18 rfl (lv_at hl 1 rfl) ?_
    by_cases k19_0 : x1 = 0
    · refine lv_tableIn (tgt := 84) (off := 65) hx hb dX5_count_19 (by rw [k19_0]; decide) (by rw [k19_0]; decide) (by rw [k19_0]; decide) (by decide) ?_
      replace hF := (if_pos k19_0).symm.trans hF
      refine lv_aload_n hx hb dX5_count_84 rfl (lv_at hl 0 rfl) ?_
      refine get_X5_10 hx hb hts hown hK hP 0 rfl rfl dX5_count_85 ?_
      obtain ⟨r88, hr88, hF⟩ := opb hF
      refine kVI (As := []) (rest := []) (ws' := (wd_X5_count cI a_t a_row a_work a_rest a_bag a_smooth a_text a_saves a_bag_often a_row_signs a_saves_slots a_smooth_madeFor a_smooth_weight a_smooth_inCell a_smooth_all a_smooth_starting a_work_signs c_gone c_bag_total c_bag_often c_row_length c_row_signs c_saves_held c_smooth_all c_smooth_inCell c_smooth_madeFor c_smooth_starting c_smooth_weight c_work_length c_work_signs)) ⟨hx, hb, hml, hown, hts⟩ (c_X1_length l D cI a_row a_row_signs H.size c_row_length  r88 hr88) (cwV 0 hts mw_X5_79 rfl rfl rfl hd_X1_length ⟨Nat.le_of_ble_eq_true rfl, Nat.le_of_ble_eq_true rfl⟩) hS hA hG hK hP hD [3] rfl rfl rfl rfl rfl ⟨Nat.zero_le _, Nat.zero_le _⟩ 1 3 rfl rfl rfl rfl hl.1 rfl (Nat.le_of_ble_eq_true rfl) dX5_count_88 (fun H locs hP hD hS => ?_)
      have ho := Option.some.inj hF
      exact hret H locs ls 91 r88 _ hP hS (by rw [← ho]) (by rw [← ho]) dX5_count_91
    replace hF := (if_neg k19_0).symm.trans hF
    by_cases k19_1 : x1 = 1
    · refine lv_tableIn (tgt := 92) (off := 73) hx hb dX5_count_19 (by rw [k19_1]; decide) (by rw [k19_1]; decide) (by rw [k19_1]; decide) (by decide) ?_
      replace hF := (if_pos k19_1).symm.trans hF
      refine lv_aload_n hx hb dX5_count_92 rfl (lv_at hl 0 rfl) ?_
      obtain ⟨r93, hr93, hF⟩ := opb hF
      refine kVI (As := []) (rest := []) (ws' := (wd_X5_count cI a_t a_row a_work a_rest a_bag a_smooth a_text a_saves a_bag_often a_row_signs a_saves_slots a_smooth_madeFor a_smooth_weight a_smooth_inCell a_smooth_all a_smooth_starting a_work_signs c_gone r93.2.1 r93.2.2 c_row_length c_row_signs c_saves_held c_smooth_all c_smooth_inCell c_smooth_madeFor c_smooth_starting c_smooth_weight c_work_length c_work_signs)) ⟨hx, hb, hml, hown, hts⟩ (c_X5_unlikeSigns l D cI a_t a_row a_work a_rest a_bag a_smooth a_text a_saves a_bag_often a_row_signs H.size c_gone c_bag_total c_bag_often c_row_length c_row_signs  r93 hr93) (cwV 0 hts mw_X5_191 rfl rfl rfl hd_X5_unlikeSigns ⟨Nat.le_of_ble_eq_true rfl, Nat.le_of_ble_eq_true rfl⟩) hS hA hG hK hP hD [0, 1, 2, 3, 4] rfl rfl rfl rfl rfl ⟨Nat.zero_le _, Nat.zero_le _⟩ 5 0 rfl rfl rfl rfl hl.1 rfl (Nat.le_of_ble_eq_true rfl) dX5_count_93 (fun H locs hP hD hS => ?_)
      have ho := Option.some.inj hF
      exact hret H locs ls 96 r93.1 _ hP hS (by rw [← ho]) (by rw [← ho]) dX5_count_96
    replace hF := (if_neg k19_1).symm.trans hF
    by_cases k19_2 : x1 = 2
    · refine lv_tableIn (tgt := 97) (off := 78) hx hb dX5_count_19 (by rw [k19_2]; decide) (by rw [k19_2]; decide) (by rw [k19_2]; decide) (by decide) ?_
      replace hF := (if_pos k19_2).symm.trans hF
      refine lv_aload_n hx hb dX5_count_97 rfl (lv_at hl 0 rfl) ?_
      obtain ⟨r98, hr98, hF⟩ := opb hF
      refine kVI (As := []) (rest := []) (ws' := (wd_X5_count cI a_t a_row a_work a_rest a_bag a_smooth a_text a_saves a_bag_often a_row_signs a_saves_slots a_smooth_madeFor a_smooth_weight a_smooth_inCell a_smooth_all a_smooth_starting a_work_signs c_gone r98.2.1 r98.2.2 c_row_length c_row_signs c_saves_held c_smooth_all c_smooth_inCell c_smooth_madeFor c_smooth_starting c_smooth_weight c_work_length c_work_signs)) ⟨hx, hb, hml, hown, hts⟩ (c_X5_all l D cI a_t a_row a_work a_rest a_bag a_smooth a_text a_saves a_bag_often a_row_signs H.size c_gone c_bag_total c_bag_often c_row_length c_row_signs  r98 hr98) (cwV 0 hts mw_X5_65 rfl rfl rfl hd_X5_all ⟨Nat.le_of_ble_eq_true rfl, Nat.le_of_ble_eq_true rfl⟩) hS hA hG hK hP hD [0, 1, 2, 3, 4] rfl rfl rfl rfl rfl ⟨Nat.zero_le _, Nat.zero_le _⟩ 5 0 rfl rfl rfl rfl hl.1 rfl (Nat.le_of_ble_eq_true rfl) dX5_count_98 (fun H locs hP hD hS => ?_)
      have ho := Option.some.inj hF
      exact hret H locs ls 101 r98.1 _ hP hS (by rw [← ho]) (by rw [← ho]) dX5_count_101
    replace hF := (if_neg k19_2).symm.trans hF
    by_cases k19_3 : x1 = 3
    · refine lv_tableIn (tgt := 102) (off := 83) hx hb dX5_count_19 (by rw [k19_3]; decide) (by rw [k19_3]; decide) (by rw [k19_3]; decide) (by decide) ?_
      replace hF := (if_pos k19_3).symm.trans hF
      refine lv_aload_n hx hb dX5_count_102 rfl (lv_at hl 0 rfl) ?_
      refine lv_aload_n hx hb dX5_count_103 rfl (lv_at hl 0 rfl) ?_
      refine get_X5_10 hx hb hts hown hK hP 0 rfl rfl dX5_count_104 ?_
      obtain ⟨r107, hr107, hF⟩ := opb hF
      refine kVI (As := [.ref a_row]) (rest := []) (ws' := (wd_X5_count cI a_t a_row a_work a_rest a_bag a_smooth a_text a_saves a_bag_often a_row_signs a_saves_slots a_smooth_madeFor a_smooth_weight a_smooth_inCell a_smooth_all a_smooth_starting a_work_signs c_gone r107.2.1 r107.2.2 c_row_length c_row_signs c_saves_held c_smooth_all c_smooth_inCell c_smooth_madeFor c_smooth_starting c_smooth_weight c_work_length c_work_signs)) ⟨hx, hb, hml, hown, hts⟩ (c_X5_rankOf l D cI a_t a_row a_row a_work a_rest a_bag a_smooth a_text a_saves a_bag_often a_row_signs H.size c_gone c_bag_total c_bag_often c_row_length c_row_signs  r107 hr107) (cwV 1 hts mw_X5_57 rfl rfl rfl hd_X5_rankOf ⟨Nat.le_of_ble_eq_true rfl, Nat.le_of_ble_eq_true rfl⟩) hS hA hG hK hP hD [0, 1, 2, 3, 4] rfl rfl rfl rfl rfl ⟨Nat.zero_le _, Nat.zero_le _⟩ 5 0 rfl rfl rfl rfl hl.1 rfl (Nat.le_of_ble_eq_true rfl) dX5_count_107 (fun H locs hP hD hS => ?_)
      have ho := Option.some.inj hF
      exact hret H locs ls 110 r107.1 _ hP hS (by rw [← ho]) (by rw [← ho]) dX5_count_110
    replace hF := (if_neg k19_3).symm.trans hF
    by_cases k19_4 : x1 = 4
    · refine lv_tableIn (tgt := 111) (off := 92) hx hb dX5_count_19 (by rw [k19_4]; decide) (by rw [k19_4]; decide) (by rw [k19_4]; decide) (by decide) ?_
      replace hF := (if_pos k19_4).symm.trans hF
      refine lv_aload_n hx hb dX5_count_111 rfl (lv_at hl 0 rfl) ?_
      obtain ⟨r112, hr112, hF⟩ := opb hF
      refine kVI (As := []) (rest := []) (ws' := (wd_X5_count cI a_t a_row a_work a_rest a_bag a_smooth a_text a_saves a_bag_often a_row_signs a_saves_slots a_smooth_madeFor a_smooth_weight a_smooth_inCell a_smooth_all a_smooth_starting a_work_signs c_gone r112.2.1 r112.2.2.1 c_row_length c_row_signs c_saves_held r112.2.2.2.1 r112.2.2.2.2.1 r112.2.2.2.2.2.1 r112.2.2.2.2.2.2.1 r112.2.2.2.2.2.2.2 c_work_length c_work_signs)) ⟨hx, hb, hml, hown, hts⟩ (c_X5_allSmooth l D cI a_t a_row a_work a_rest a_bag a_smooth a_text a_saves a_bag_often a_row_signs a_smooth_madeFor a_smooth_weight a_smooth_inCell a_smooth_all a_smooth_starting H.size c_gone c_bag_total c_bag_often c_row_length c_row_signs c_smooth_all c_smooth_inCell c_smooth_madeFor c_smooth_starting c_smooth_weight  r112 hr112) (cwV 0 hts mw_X5_86 rfl rfl rfl hd_X5_allSmooth ⟨Nat.le_of_ble_eq_true rfl, Nat.le_of_ble_eq_true rfl⟩) hS hA hG hK hP hD [0, 1, 2, 3, 4, 6, 7, 8, 9, 10, 11] rfl rfl rfl rfl rfl ⟨Nat.zero_le _, Nat.zero_le _⟩ 5 0 rfl rfl rfl rfl hl.1 rfl (Nat.le_of_ble_eq_true rfl) dX5_count_112 (fun H locs hP hD hS => ?_)
      have ho := Option.some.inj hF
      exact hret H locs ls 115 r112.1 _ hP hS (by rw [← ho]) (by rw [← ho]) dX5_count_115
    replace hF := (if_neg k19_4).symm.trans hF
    by_cases k19_5 : x1 = 5
    · refine lv_tableIn (tgt := 116) (off := 97) hx hb dX5_count_19 (by rw [k19_5]; decide) (by rw [k19_5]; decide) (by rw [k19_5]; decide) (by decide) ?_
      replace hF := (if_pos k19_5).symm.trans hF
      refine lv_aload_n hx hb dX5_count_116 rfl (lv_at hl 0 rfl) ?_
      obtain ⟨r117, hr117, hF⟩ := opb hF
      refine kVI (As := []) (rest := []) (ws' := (wd_X5_count cI a_t a_row a_work a_rest a_bag a_smooth a_text a_saves a_bag_often a_row_signs a_saves_slots a_smooth_madeFor a_smooth_weight a_smooth_inCell a_smooth_all a_smooth_starting a_work_signs c_gone r117.2.1 r117.2.2.1 c_row_length c_row_signs c_saves_held r117.2.2.2.1 r117.2.2.2.2.1 r117.2.2.2.2.2.1 r117.2.2.2.2.2.2.1 r117.2.2.2.2.2.2.2 c_work_length c_work_signs)) ⟨hx, hb, hml, hown, hts⟩ (c_X5_smoothRank l D cI a_t a_row a_work a_rest a_bag a_smooth a_text a_saves a_bag_often a_row_signs a_smooth_madeFor a_smooth_weight a_smooth_inCell a_smooth_all a_smooth_starting H.size c_gone c_bag_total c_bag_often c_row_length c_row_signs c_smooth_all c_smooth_inCell c_smooth_madeFor c_smooth_starting c_smooth_weight  r117 hr117) (cwV 0 hts mw_X5_76 rfl rfl rfl hd_X5_smoothRank ⟨Nat.le_of_ble_eq_true rfl, Nat.le_of_ble_eq_true rfl⟩) hS hA hG hK hP hD [0, 1, 2, 3, 4, 6, 7, 8, 9, 10, 11] rfl rfl rfl rfl rfl ⟨Nat.zero_le _, Nat.zero_le _⟩ 5 0 rfl rfl rfl rfl hl.1 rfl (Nat.le_of_ble_eq_true rfl) dX5_count_117 (fun H locs hP hD hS => ?_)
      have ho := Option.some.inj hF
      exact hret H locs ls 120 r117.1 _ hP hS (by rw [← ho]) (by rw [← ho]) dX5_count_120
    replace hF := (if_neg k19_5).symm.trans hF
    by_cases k19_6 : x1 = 6
    · refine lv_tableIn (tgt := 121) (off := 102) hx hb dX5_count_19 (by rw [k19_6]; decide) (by rw [k19_6]; decide) (by rw [k19_6]; decide) (by decide) ?_
      replace hF := (if_pos k19_6).symm.trans hF
      refine lv_aload_n hx hb dX5_count_121 rfl (lv_at hl 0 rfl) ?_
      refine get_X5_10 hx hb hts hown hK hP 0 rfl rfl dX5_count_122 ?_
      refine lv_aload_n hx hb dX5_count_125 rfl (lv_at hl 0 rfl) ?_
      refine get_X5_10 hx hb hts hown hK hP 0 rfl rfl dX5_count_126 ?_
      obtain ⟨r129, hr129, hF⟩ := opb hF
      refine kVI (As := []) (rest := [.ref a_row]) (ws' := (wd_X5_count cI a_t a_row a_work a_rest a_bag a_smooth a_text a_saves a_bag_often a_row_signs a_saves_slots a_smooth_madeFor a_smooth_weight a_smooth_inCell a_smooth_all a_smooth_starting a_work_signs c_gone c_bag_total c_bag_often c_row_length c_row_signs c_saves_held c_smooth_all c_smooth_inCell c_smooth_madeFor c_smooth_starting c_smooth_weight c_work_length c_work_signs)) ⟨hx, hb, hml, hown, hts⟩ (c_X1_length l D cI a_row a_row_signs H.size c_row_length  r129 hr129) (cwV 0 hts mw_X5_79 rfl rfl rfl hd_X1_length ⟨Nat.le_of_ble_eq_true rfl, Nat.le_of_ble_eq_true rfl⟩) hS hA hG hK hP hD [3] rfl rfl rfl rfl rfl ⟨Nat.zero_le _, Nat.zero_le _⟩ 1 3 rfl rfl rfl rfl hl.1 rfl (Nat.le_of_ble_eq_true rfl) dX5_count_129 (fun H locs hP hD hS => ?_)
      obtain ⟨r132, hr132, hF⟩ := opb hF
      refine kVI (As := [.int r129]) (rest := []) (ws' := (wd_X5_count cI a_t a_row a_work a_rest a_bag a_smooth a_text a_saves a_bag_often a_row_signs a_saves_slots a_smooth_madeFor a_smooth_weight a_smooth_inCell a_smooth_all a_smooth_starting a_work_signs c_gone c_bag_total c_bag_often c_row_length c_row_signs c_saves_held c_smooth_all c_smooth_inCell c_smooth_madeFor c_smooth_starting c_smooth_weight c_work_length c_work_signs)) ⟨hx, hb, hml, hown, hts⟩ (c_X1_isSmooth l D cI a_row a_row_signs H.size c_row_length c_row_signs r129 r132 hr132) (cwV 1 hts mw_X5_82 rfl rfl rfl hd_X1_isSmooth ⟨Nat.le_of_ble_eq_true rfl, Nat.le_of_ble_eq_true rfl⟩) hS hA hG hK hP hD [3, 4] rfl rfl rfl rfl rfl ⟨Nat.zero_le _, Nat.zero_le _⟩ 1 3 rfl rfl rfl rfl hl.1 rfl (Nat.le_of_ble_eq_true rfl) dX5_count_132 (fun H locs hP hD hS => ?_)
      refine lv_if_eq (tgt := 142) hx hb dX5_count_135 (by decide) (fun k135 => ?_) (fun k135 => ?_)
      · (try simp only [if_pos k135] at hF)
        refine lv_iconst (v := 0) hx hb dX5_count_142 (by decide) ?_
        have ho := Option.some.inj hF
        exact hret H locs ls 143 (0 : Int32) _ hP hS (by rw [← ho]) (by rw [← ho]) dX5_count_143
      · (try simp only [if_neg k135] at hF)
        refine lv_iconst (v := 1) hx hb dX5_count_138 (by decide) ?_
        refine lv_goto (tgt := 143) hx hb dX5_count_139 (by decide) ?_
        have ho := Option.some.inj hF
        exact hret H locs ls 143 (1 : Int32) _ hP hS (by rw [← ho]) (by rw [← ho]) dX5_count_143
    replace hF := (if_neg k19_6).symm.trans hF
    by_cases k19_7 : x1 = 7
    · refine lv_tableIn (tgt := 144) (off := 125) hx hb dX5_count_19 (by rw [k19_7]; decide) (by rw [k19_7]; decide) (by rw [k19_7]; decide) (by decide) ?_
      replace hF := (if_pos k19_7).symm.trans hF
      refine lv_aload_n hx hb dX5_count_144 rfl (lv_at hl 0 rfl) ?_
      refine get_X5_10 hx hb hts hown hK hP 0 rfl rfl dX5_count_145 ?_
      obtain ⟨r148, hr148, hF⟩ := opb hF
      refine kVI (As := []) (rest := []) (ws' := (wd_X5_count cI a_t a_row a_work a_rest a_bag a_smooth a_text a_saves a_bag_often a_row_signs a_saves_slots a_smooth_madeFor a_smooth_weight a_smooth_inCell a_smooth_all a_smooth_starting a_work_signs c_gone c_bag_total c_bag_often c_row_length c_row_signs c_saves_held c_smooth_all c_smooth_inCell c_smooth_madeFor c_smooth_starting c_smooth_weight c_work_length c_work_signs)) ⟨hx, hb, hml, hown, hts⟩ (c_X1_inversions l D cI a_row a_row_signs H.size c_row_length c_row_signs  r148 hr148) (cwV 0 hts mw_X5_194 rfl rfl rfl hd_X1_inversions ⟨Nat.le_of_ble_eq_true rfl, Nat.le_of_ble_eq_true rfl⟩) hS hA hG hK hP hD [3, 4] rfl rfl rfl rfl rfl ⟨Nat.zero_le _, Nat.zero_le _⟩ 1 3 rfl rfl rfl rfl hl.1 rfl (Nat.le_of_ble_eq_true rfl) dX5_count_148 (fun H locs hP hD hS => ?_)
      have ho := Option.some.inj hF
      exact hret H locs ls 151 r148 _ hP hS (by rw [← ho]) (by rw [← ho]) dX5_count_151
    replace hF := (if_neg k19_7).symm.trans hF
    by_cases k19_8 : x1 = 8
    · refine lv_tableIn (tgt := 152) (off := 133) hx hb dX5_count_19 (by rw [k19_8]; decide) (by rw [k19_8]; decide) (by rw [k19_8]; decide) (by decide) ?_
      replace hF := (if_pos k19_8).symm.trans hF
      refine lv_aload_n hx hb dX5_count_152 rfl (lv_at hl 0 rfl) ?_
      refine get_X5_10 hx hb hts hown hK hP 0 rfl rfl dX5_count_153 ?_
      obtain ⟨r156, hr156, hF⟩ := opb hF
      refine kVI (As := []) (rest := []) (ws' := (wd_X5_count cI a_t a_row a_work a_rest a_bag a_smooth a_text a_saves a_bag_often a_row_signs a_saves_slots a_smooth_madeFor a_smooth_weight a_smooth_inCell a_smooth_all a_smooth_starting a_work_signs c_gone c_bag_total c_bag_often c_row_length c_row_signs c_saves_held c_smooth_all c_smooth_inCell c_smooth_madeFor c_smooth_starting c_smooth_weight c_work_length c_work_signs)) ⟨hx, hb, hml, hown, hts⟩ (c_X1_descents l D cI a_row a_row_signs H.size c_row_length c_row_signs  r156 hr156) (cwV 0 hts mw_X5_197 rfl rfl rfl hd_X1_descents ⟨Nat.le_of_ble_eq_true rfl, Nat.le_of_ble_eq_true rfl⟩) hS hA hG hK hP hD [3, 4] rfl rfl rfl rfl rfl ⟨Nat.zero_le _, Nat.zero_le _⟩ 1 3 rfl rfl rfl rfl hl.1 rfl (Nat.le_of_ble_eq_true rfl) dX5_count_156 (fun H locs hP hD hS => ?_)
      have ho := Option.some.inj hF
      exact hret H locs ls 159 r156 _ hP hS (by rw [← ho]) (by rw [← ho]) dX5_count_159
    replace hF := (if_neg k19_8).symm.trans hF
    by_cases k19_9 : x1 = 9
    · refine lv_tableIn (tgt := 160) (off := 141) hx hb dX5_count_19 (by rw [k19_9]; decide) (by rw [k19_9]; decide) (by rw [k19_9]; decide) (by decide) ?_
      replace hF := (if_pos k19_9).symm.trans hF
      refine lv_aload_n hx hb dX5_count_160 rfl (lv_at hl 0 rfl) ?_
      refine get_X5_10 hx hb hts hown hK hP 0 rfl rfl dX5_count_161 ?_
      obtain ⟨r164, hr164, hF⟩ := opb hF
      refine kVI (As := []) (rest := []) (ws' := (wd_X5_count cI a_t a_row a_work a_rest a_bag a_smooth a_text a_saves a_bag_often a_row_signs a_saves_slots a_smooth_madeFor a_smooth_weight a_smooth_inCell a_smooth_all a_smooth_starting a_work_signs c_gone c_bag_total c_bag_often c_row_length c_row_signs c_saves_held c_smooth_all c_smooth_inCell c_smooth_madeFor c_smooth_starting c_smooth_weight c_work_length c_work_signs)) ⟨hx, hb, hml, hown, hts⟩ (c_X1_majorIndex l D cI a_row a_row_signs H.size c_row_length c_row_signs  r164 hr164) (cwV 0 hts mw_X5_200 rfl rfl rfl hd_X1_majorIndex ⟨Nat.le_of_ble_eq_true rfl, Nat.le_of_ble_eq_true rfl⟩) hS hA hG hK hP hD [3, 4] rfl rfl rfl rfl rfl ⟨Nat.zero_le _, Nat.zero_le _⟩ 1 3 rfl rfl rfl rfl hl.1 rfl (Nat.le_of_ble_eq_true rfl) dX5_count_164 (fun H locs hP hD hS => ?_)
      have ho := Option.some.inj hF
      exact hret H locs ls 167 r164 _ hP hS (by rw [← ho]) (by rw [← ho]) dX5_count_167
    replace hF := (if_neg k19_9).symm.trans hF
    by_cases k19_10 : x1 = 10
    · refine lv_tableIn (tgt := 168) (off := 149) hx hb dX5_count_19 (by rw [k19_10]; decide) (by rw [k19_10]; decide) (by rw [k19_10]; decide) (by decide) ?_
      replace hF := (if_pos k19_10).symm.trans hF
      refine lv_aload_n hx hb dX5_count_168 rfl (lv_at hl 0 rfl) ?_
      obtain ⟨r169, hr169, hF⟩ := opb hF
      refine kVI (As := []) (rest := []) (ws' := (wd_X5_count cI a_t a_row a_work a_rest a_bag a_smooth a_text a_saves a_bag_often a_row_signs a_saves_slots a_smooth_madeFor a_smooth_weight a_smooth_inCell a_smooth_all a_smooth_starting a_work_signs c_gone r169.2.1 r169.2.2.1 c_row_length c_row_signs c_saves_held c_smooth_all c_smooth_inCell c_smooth_madeFor c_smooth_starting c_smooth_weight r169.2.2.2.1 r169.2.2.2.2)) ⟨hx, hb, hml, hown, hts⟩ (c_X5_rankTurnedAround l D cI a_t a_row a_work a_rest a_bag a_smooth a_text a_saves a_bag_often a_row_signs a_work_signs H.size c_gone c_bag_total c_bag_often c_row_length c_row_signs c_work_length c_work_signs  r169 hr169) (cwV 0 hts mw_X5_203 rfl rfl rfl hd_X5_rankTurnedAround ⟨Nat.le_of_ble_eq_true rfl, Nat.le_of_ble_eq_true rfl⟩) hS hA hG hK hP hD [0, 1, 2, 3, 4, 12, 13] rfl rfl rfl rfl rfl ⟨Nat.zero_le _, Nat.zero_le _⟩ 5 0 rfl rfl rfl rfl hl.1 rfl (Nat.le_of_ble_eq_true rfl) dX5_count_169 (fun H locs hP hD hS => ?_)
      have ho := Option.some.inj hF
      exact hret H locs ls 172 r169.1 _ hP hS (by rw [← ho]) (by rw [← ho]) dX5_count_172
    replace hF := (if_neg k19_10).symm.trans hF
    by_cases k19_11 : x1 = 11
    · refine lv_tableIn (tgt := 173) (off := 154) hx hb dX5_count_19 (by rw [k19_11]; decide) (by rw [k19_11]; decide) (by rw [k19_11]; decide) (by decide) ?_
      replace hF := (if_pos k19_11).symm.trans hF
      refine lv_aload_n hx hb dX5_count_173 rfl (lv_at hl 0 rfl) ?_
      obtain ⟨r174, hr174, hF⟩ := opb hF
      refine kVI (As := []) (rest := []) (ws' := (wd_X5_count cI a_t a_row a_work a_rest a_bag a_smooth a_text a_saves a_bag_often a_row_signs a_saves_slots a_smooth_madeFor a_smooth_weight a_smooth_inCell a_smooth_all a_smooth_starting a_work_signs c_gone r174.2.1 r174.2.2 c_row_length c_row_signs c_saves_held c_smooth_all c_smooth_inCell c_smooth_madeFor c_smooth_starting c_smooth_weight c_work_length c_work_signs)) ⟨hx, hb, hml, hown, hts⟩ (c_X5_rankBySecondWay l D cI a_t a_row a_work a_rest a_bag a_smooth a_text a_saves a_bag_often a_row_signs H.size c_gone c_bag_total c_bag_often c_row_length c_row_signs  r174 hr174) (cwV 0 hts mw_X5_206 rfl rfl rfl hd_X5_rankBySecondWay ⟨Nat.le_of_ble_eq_true rfl, Nat.le_of_ble_eq_true rfl⟩) hS hA hG hK hP hD [0, 1, 2, 3, 4] rfl rfl rfl rfl rfl ⟨Nat.zero_le _, Nat.zero_le _⟩ 5 0 rfl rfl rfl rfl hl.1 rfl (Nat.le_of_ble_eq_true rfl) dX5_count_174 (fun H locs hP hD hS => ?_)
      have ho := Option.some.inj hF
      exact hret H locs ls 177 r174.1 _ hP hS (by rw [← ho]) (by rw [← ho]) dX5_count_177
    replace hF := (if_neg k19_11).symm.trans hF
    by_cases k19_12 : x1 = 12
    · refine lv_tableIn (tgt := 178) (off := 159) hx hb dX5_count_19 (by rw [k19_12]; decide) (by rw [k19_12]; decide) (by rw [k19_12]; decide) (by decide) ?_
      replace hF := (if_pos k19_12).symm.trans hF
      refine lv_aload_n hx hb dX5_count_178 rfl (lv_at hl 0 rfl) ?_
      refine get_X5_167 hx hb hts hown hK hP 0 rfl rfl dX5_count_179 ?_
      have ho := Option.some.inj hF
      exact hret H locs ls 182 c_gone _ hP hS (by rw [← ho]) (by rw [← ho]) dX5_count_182
    replace hF := (if_neg k19_12).symm.trans hF
    refine lv_tableOut (tgt := 183) hx hb dX5_count_19 (tblo 13 (fun i hi => by rcases (show i = 0 ∨ i = 1 ∨ i = 2 ∨ i = 3 ∨ i = 4 ∨ i = 5 ∨ i = 6 ∨ i = 7 ∨ i = 8 ∨ i = 9 ∨ i = 10 ∨ i = 11 ∨ i = 12 by omega) with rfl | rfl | rfl | rfl | rfl | rfl | rfl | rfl | rfl | rfl | rfl | rfl | rfl <;> assumption)) (by decide) ?_
    refine lv_aload_n hx hb dX5_count_183 rfl (lv_at hl 0 rfl) ?_
    refine get_X5_46 hx hb hts hown hK hP 0 rfl rfl dX5_count_184 ?_
    obtain ⟨r187, hr187, hF⟩ := opb hF
    refine kVI (As := []) (rest := []) (ws' := (wd_X5_count cI a_t a_row a_work a_rest a_bag a_smooth a_text a_saves a_bag_often a_row_signs a_saves_slots a_smooth_madeFor a_smooth_weight a_smooth_inCell a_smooth_all a_smooth_starting a_work_signs c_gone c_bag_total c_bag_often c_row_length c_row_signs c_saves_held c_smooth_all c_smooth_inCell c_smooth_madeFor c_smooth_starting c_smooth_weight c_work_length c_work_signs)) ⟨hx, hb, hml, hown, hts⟩ (c_X2_held l D cI a_saves a_saves_slots H.size c_saves_held  r187 hr187) (cwV 0 hts mw_X5_159 rfl rfl rfl hd_X2_held ⟨Nat.le_of_ble_eq_true rfl, Nat.le_of_ble_eq_true rfl⟩) hS hA hG hK hP hD [5] rfl rfl rfl rfl rfl ⟨Nat.zero_le _, Nat.zero_le _⟩ 2 5 rfl rfl rfl rfl hl.1 rfl (Nat.le_of_ble_eq_true rfl) dX5_count_187 (fun H locs hP hD hS => ?_)
    have ho := Option.some.inj hF
    exact hret H locs ls 190 r187 _ hP hS (by rw [← ho]) (by rw [← ho]) dX5_count_190
  unfold F_X5_count at hF
  have hP : va_P D vwCl (wd_X5_count cI a_t a_row a_work a_rest a_bag a_smooth a_text a_saves a_bag_often a_row_signs a_saves_slots a_smooth_madeFor a_smooth_weight a_smooth_inCell a_smooth_all a_smooth_starting a_work_signs c_gone c_bag_total c_bag_often c_row_length c_row_signs c_saves_held c_smooth_all c_smooth_inCell c_smooth_madeFor c_smooth_starting c_smooth_weight c_work_length c_work_signs) s.heap := hP
  obtain ⟨H, hH⟩ : ∃ H, H = s.heap := ⟨_, rfl⟩
  rw [← hH]
  rw [← hH] at hP
  obtain ⟨locs, hlo⟩ : ∃ z : List Loc, z = [] := ⟨_, rfl⟩
  rw [← hlo]
  have hS : va_S A s.heap H locs := by rw [hH, hlo]; exact hS
  refine lv_iload_n hx hb dX5_count_0 rfl (lv_at hl 1 rfl) ?_
  refine lv_if_lt (tgt := 14) hx hb dX5_count_1 (by decide) (fun k1 => ?_) (fun k1 => ?_)
  · (try simp only [if_pos k1] at hF)
    refine lv_iconst (v := 0) hx hb dX5_count_14 (by decide) ?_
    exact K15 c_bag_total c_bag_often c_smooth_all c_smooth_inCell c_smooth_madeFor c_smooth_starting c_smooth_weight c_work_length c_work_signs (0 : Int32) H locs ls hP hD hS (lv_sub hl [0, 1] rfl) hF
  · (try simp only [if_neg k1] at hF)
    refine lv_iload_n hx hb dX5_count_4 rfl (lv_at hl 1 rfl) ?_
    refine lv_bipush (v := 14) hx hb dX5_count_5 (by decide) ?_
    refine lv_icmp_ge (tgt := 14) hx hb dX5_count_7 (by decide) (fun k7 => ?_) (fun k7 => ?_)
    · (try simp only [if_pos k7] at hF)
      refine lv_iconst (v := 0) hx hb dX5_count_14 (by decide) ?_
      exact K15 c_bag_total c_bag_often c_smooth_all c_smooth_inCell c_smooth_madeFor c_smooth_starting c_smooth_weight c_work_length c_work_signs (0 : Int32) H locs ls hP hD hS (lv_sub hl [0, 1] rfl) hF
    · (try simp only [if_neg k7] at hF)
      refine lv_iconst (v := 1) hx hb dX5_count_10 (by decide) ?_
      refine lv_goto (tgt := 15) hx hb dX5_count_11 (by decide) ?_
      exact K15 c_bag_total c_bag_often c_smooth_all c_smooth_inCell c_smooth_madeFor c_smooth_starting c_smooth_weight c_work_length c_work_signs (1 : Int32) H locs ls hP hD hS (lv_sub hl [0, 1] rfl) hF
abbrev wd_X5_rankIfExchanged (cI : ClassId) (a_t a_row a_work a_rest a_bag a_smooth a_text a_saves a_bag_often a_row_signs a_work_signs : Nat) (c_gone : Int32) (c_bag_total : Int32) (c_bag_often : Nat → Int32) (c_row_length : Int32) (c_row_signs : Nat → Int32) (c_work_length : Int32) (c_work_signs : Nat → Int32) : va_W := [(a_t, .inr (5, [.ref a_row, .ref a_work, .ref a_rest, .ref a_bag, .ref a_smooth, .ref a_text, .ref a_saves, .int c_gone])), (a_bag, .inr (0, [.ref a_bag_often, .int c_bag_total])), (a_bag_often, .inl (cI, 6, .inl c_bag_often)), (a_row, .inr (1, [.ref a_row_signs, .int c_row_length])), (a_row_signs, .inl (cI, 11, .inl c_row_signs)), (a_work, .inr (1, [.ref a_work_signs, .int c_work_length])), (a_work_signs, .inl (cI, 11, .inl c_work_signs))]
def rm_X5_rankIfExchanged : Room := { frames := 4, cells := 0, slots := 0, locals := 91 }
set_option maxHeartbeats 4000000 in
set_option maxRecDepth 100000 in
theorem c_X5_rankIfExchanged (l : Launch) (D : va_G) (cI : ClassId) (a_t a_row a_work a_rest a_bag a_smooth a_text a_saves a_bag_often a_row_signs a_work_signs : Nat) (sz : Nat) (c_gone : Int32) (c_bag_total : Int32) (c_bag_often : Nat → Int32) (c_row_length : Int32) (c_row_signs : Nat → Int32) (c_work_length : Int32) (c_work_signs : Nat → Int32) (x1 : Int32) (x2 : Int32) (o : Int32 × Int32 × (Nat → Int32) × Int32 × (Nat → Int32)) (hF : F_X5_rankIfExchanged c_bag_total c_bag_often c_row_length c_row_signs c_work_length c_work_signs x1 x2 = some o) : Met l yX5_rankIfExchanged (Cond.code yX5_rankIfExchanged cX5_rankIfExchanged 3 (some .int) :: WL) rm_X5_rankIfExchanged (preM D [(cI, .int)] (wd_X5_rankIfExchanged cI a_t a_row a_work a_rest a_bag a_smooth a_text a_saves a_bag_often a_row_signs a_work_signs c_gone c_bag_total c_bag_often c_row_length c_row_signs c_work_length c_work_signs) sz [.ref a_t, .int x1, .int x2]) (postI D o.1 (wd_X5_rankIfExchanged cI a_t a_row a_work a_rest a_bag a_smooth a_text a_saves a_bag_often a_row_signs a_work_signs c_gone o.2.1 o.2.2.1 c_row_length c_row_signs o.2.2.2.1 o.2.2.2.2) (wd_X5_rankIfExchanged cI a_t a_row a_work a_rest a_bag a_smooth a_text a_saves a_bag_often a_row_signs a_work_signs c_gone c_bag_total c_bag_often c_row_length c_row_signs c_work_length c_work_signs) sz) 0 0 (va_A (wd_X5_rankIfExchanged cI a_t a_row a_work a_rest a_bag a_smooth a_text a_saves a_bag_often a_row_signs a_work_signs c_gone c_bag_total c_bag_often c_row_length c_row_signs c_work_length c_work_signs) sz) := by
  refine mofI (by decide +kernel) (Nat.le_of_ble_eq_true rfl) ?_
  intro p e s m args below meth c Q A ls hx hb hml hown hts hK hP hD hS hA hG hl hret hsz0
  have hl : lv_has ls 3 [(0, .ref a_t), (1, .int x1), (2, .int x2)] := hl
  unfold F_X5_rankIfExchanged at hF
  have hP : va_P D vwCl (wd_X5_rankIfExchanged cI a_t a_row a_work a_rest a_bag a_smooth a_text a_saves a_bag_often a_row_signs a_work_signs c_gone c_bag_total c_bag_often c_row_length c_row_signs c_work_length c_work_signs) s.heap := hP
  obtain ⟨H, hH⟩ : ∃ H, H = s.heap := ⟨_, rfl⟩
  rw [← hH]
  rw [← hH] at hP
  obtain ⟨locs, hlo⟩ : ∃ z : List Loc, z = [] := ⟨_, rfl⟩
  rw [← hlo]
  have hS : va_S A s.heap H locs := by rw [hH, hlo]; exact hS
  refine lv_aload_n hx hb dX5_rankIfExchanged_0 rfl (lv_at hl 0 rfl) ?_
  refine get_X5_16 hx hb hts hown hK hP 0 rfl rfl dX5_rankIfExchanged_1 ?_
  refine lv_aload_n hx hb dX5_rankIfExchanged_4 rfl (lv_at hl 0 rfl) ?_
  refine get_X5_10 hx hb hts hown hK hP 0 rfl rfl dX5_rankIfExchanged_5 ?_
  obtain ⟨r8, hr8, hF⟩ := opb hF
  refine kVV (As := [.ref a_row]) (rest := []) (ws' := (wd_X5_rankIfExchanged cI a_t a_row a_work a_rest a_bag a_smooth a_text a_saves a_bag_often a_row_signs a_work_signs c_gone c_bag_total c_bag_often c_row_length c_row_signs r8.1 r8.2)) ⟨hx, hb, hml, hown, hts⟩ (c_X1_become l D cI a_work a_row a_work_signs a_row_signs H.size c_work_length c_work_signs c_row_length c_row_signs  r8 hr8) (cwV 1 hts mw_X5_220 rfl rfl rfl hd_X1_become ⟨Nat.le_of_ble_eq_true rfl, Nat.le_of_ble_eq_true rfl⟩) hS hA hG hK hP hD [5, 6, 3, 4] rfl rfl rfl rfl rfl ⟨Nat.zero_le _, Nat.zero_le _⟩ 1 5 rfl rfl rfl rfl hl.1 rfl (Nat.le_of_ble_eq_true rfl) dX5_rankIfExchanged_8 (fun H locs hP hD hS => ?_)
  refine lv_aload_n hx hb dX5_rankIfExchanged_11 rfl (lv_at hl 0 rfl) ?_
  refine get_X5_16 hx hb hts hown hK hP 0 rfl rfl dX5_rankIfExchanged_12 ?_
  refine lv_iload_n hx hb dX5_rankIfExchanged_15 rfl (lv_at hl 1 rfl) ?_
  refine lv_iload_n hx hb dX5_rankIfExchanged_16 rfl (lv_at hl 2 rfl) ?_
  obtain ⟨r17, hr17, hF⟩ := opb hF
  refine kVV (As := [.int x1, .int x2]) (rest := []) (ws' := (wd_X5_rankIfExchanged cI a_t a_row a_work a_rest a_bag a_smooth a_text a_saves a_bag_often a_row_signs a_work_signs c_gone c_bag_total c_bag_often c_row_length c_row_signs r8.1 r17)) ⟨hx, hb, hml, hown, hts⟩ (c_X1_exchange l D cI a_work a_work_signs H.size r8.1 r8.2 x1 x2 r17 hr17) (cwV 2 hts mw_X5_108 rfl rfl rfl hd_X1_exchange ⟨Nat.le_of_ble_eq_true rfl, Nat.le_of_ble_eq_true rfl⟩) hS hA hG hK hP hD [5, 6] rfl rfl rfl rfl rfl ⟨Nat.zero_le _, Nat.zero_le _⟩ 1 5 rfl rfl rfl rfl hl.1 rfl (Nat.le_of_ble_eq_true rfl) dX5_rankIfExchanged_17 (fun H locs hP hD hS => ?_)
  refine lv_aload_n hx hb dX5_rankIfExchanged_20 rfl (lv_at hl 0 rfl) ?_
  refine lv_aload_n hx hb dX5_rankIfExchanged_21 rfl (lv_at hl 0 rfl) ?_
  refine get_X5_16 hx hb hts hown hK hP 0 rfl rfl dX5_rankIfExchanged_22 ?_
  obtain ⟨r25, hr25, hF⟩ := opb hF
  refine kVI (As := [.ref a_work]) (rest := []) (ws' := (wd_X5_rankIfExchanged cI a_t a_row a_work a_rest a_bag a_smooth a_text a_saves a_bag_often a_row_signs a_work_signs c_gone r25.2.1 r25.2.2 c_row_length c_row_signs r8.1 r17)) ⟨hx, hb, hml, hown, hts⟩ (c_X5_rankOf l D cI a_t a_work a_row a_work a_rest a_bag a_smooth a_text a_saves a_bag_often a_work_signs H.size c_gone c_bag_total c_bag_often r8.1 r17  r25 hr25) (cwV 1 hts mw_X5_57 rfl rfl rfl hd_X5_rankOf ⟨Nat.le_of_ble_eq_true rfl, Nat.le_of_ble_eq_true rfl⟩) hS hA hG hK hP hD [0, 1, 2, 5, 6] rfl rfl rfl rfl rfl ⟨Nat.zero_le _, Nat.zero_le _⟩ 5 0 rfl rfl rfl rfl hl.1 rfl (Nat.le_of_ble_eq_true rfl) dX5_rankIfExchanged_25 (fun H locs hP hD hS => ?_)
  have ho := Option.some.inj hF
  exact hret H locs ls 28 r25.1 _ hP hS (by rw [← ho]) (by rw [← ho]) dX5_rankIfExchanged_28
abbrev wd_X5_ifSwapped (cI : ClassId) (a_t a_row a_work a_rest a_bag a_smooth a_text a_saves a_bag_often a_row_signs a_work_signs : Nat) (c_gone : Int32) (c_bag_total : Int32) (c_bag_often : Nat → Int32) (c_row_length : Int32) (c_row_signs : Nat → Int32) (c_work_length : Int32) (c_work_signs : Nat → Int32) : va_W := [(a_t, .inr (5, [.ref a_row, .ref a_work, .ref a_rest, .ref a_bag, .ref a_smooth, .ref a_text, .ref a_saves, .int c_gone])), (a_bag, .inr (0, [.ref a_bag_often, .int c_bag_total])), (a_bag_often, .inl (cI, 6, .inl c_bag_often)), (a_row, .inr (1, [.ref a_row_signs, .int c_row_length])), (a_row_signs, .inl (cI, 11, .inl c_row_signs)), (a_work, .inr (1, [.ref a_work_signs, .int c_work_length])), (a_work_signs, .inl (cI, 11, .inl c_work_signs))]
def rm_X5_ifSwapped : Room := { frames := 5, cells := 0, slots := 0, locals := 113 }
set_option maxHeartbeats 4000000 in
set_option maxRecDepth 100000 in
theorem c_X5_ifSwapped (l : Launch) (D : va_G) (cI : ClassId) (a_t a_row a_work a_rest a_bag a_smooth a_text a_saves a_bag_often a_row_signs a_work_signs : Nat) (sz : Nat) (c_gone : Int32) (c_bag_total : Int32) (c_bag_often : Nat → Int32) (c_row_length : Int32) (c_row_signs : Nat → Int32) (c_work_length : Int32) (c_work_signs : Nat → Int32) (x1 : Int32) (x2 : Int32) (o : Int32 × Int32 × (Nat → Int32) × Int32 × (Nat → Int32)) (hF : F_X5_ifSwapped c_bag_total c_bag_often c_row_length c_row_signs c_work_length c_work_signs x1 x2 = some o) : Met l yX5_ifSwapped (Cond.code yX5_ifSwapped cX5_ifSwapped 3 (some .int) :: WL) rm_X5_ifSwapped (preM D [(cI, .int)] (wd_X5_ifSwapped cI a_t a_row a_work a_rest a_bag a_smooth a_text a_saves a_bag_often a_row_signs a_work_signs c_gone c_bag_total c_bag_often c_row_length c_row_signs c_work_length c_work_signs) sz [.ref a_t, .int x1, .int x2]) (postI D o.1 (wd_X5_ifSwapped cI a_t a_row a_work a_rest a_bag a_smooth a_text a_saves a_bag_often a_row_signs a_work_signs c_gone o.2.1 o.2.2.1 c_row_length c_row_signs o.2.2.2.1 o.2.2.2.2) (wd_X5_ifSwapped cI a_t a_row a_work a_rest a_bag a_smooth a_text a_saves a_bag_often a_row_signs a_work_signs c_gone c_bag_total c_bag_often c_row_length c_row_signs c_work_length c_work_signs) sz) 0 0 (va_A (wd_X5_ifSwapped cI a_t a_row a_work a_rest a_bag a_smooth a_text a_saves a_bag_often a_row_signs a_work_signs c_gone c_bag_total c_bag_often c_row_length c_row_signs c_work_length c_work_signs) sz) := by
  refine mofI (by decide +kernel) (Nat.le_of_ble_eq_true rfl) ?_
  intro p e s m args below meth c Q A ls hx hb hml hown hts hK hP hD hS hA hG hl hret hsz0
  have hl : lv_has ls 3 [(0, .ref a_t), (1, .int x1), (2, .int x2)] := hl
  unfold F_X5_ifSwapped at hF
  have hP : va_P D vwCl (wd_X5_ifSwapped cI a_t a_row a_work a_rest a_bag a_smooth a_text a_saves a_bag_often a_row_signs a_work_signs c_gone c_bag_total c_bag_often c_row_length c_row_signs c_work_length c_work_signs) s.heap := hP
  obtain ⟨H, hH⟩ : ∃ H, H = s.heap := ⟨_, rfl⟩
  rw [← hH]
  rw [← hH] at hP
  obtain ⟨locs, hlo⟩ : ∃ z : List Loc, z = [] := ⟨_, rfl⟩
  rw [← hlo]
  have hS : va_S A s.heap H locs := by rw [hH, hlo]; exact hS
  refine lv_aload_n hx hb dX5_ifSwapped_0 rfl (lv_at hl 0 rfl) ?_
  refine lv_iload_n hx hb dX5_ifSwapped_1 rfl (lv_at hl 1 rfl) ?_
  obtain ⟨r2, hr2, hF⟩ := opb hF
  refine kVV (As := [.int x1]) (rest := []) (ws' := (wd_X5_ifSwapped cI a_t a_row a_work a_rest a_bag a_smooth a_text a_saves a_bag_often a_row_signs a_work_signs c_gone c_bag_total c_bag_often c_row_length c_row_signs c_work_length c_work_signs)) ⟨hx, hb, hml, hown, hts⟩ (c_X5_needPlace l D cI a_t a_row a_work a_rest a_bag a_smooth a_text a_saves a_row_signs H.size c_gone c_row_length x1 r2 hr2) (cwV 1 hts mw_X5_102 rfl rfl rfl hd_X5_needPlace ⟨Nat.le_of_ble_eq_true rfl, Nat.le_of_ble_eq_true rfl⟩) hS hA hG hK hP hD [0, 3] rfl rfl rfl rfl rfl ⟨Nat.zero_le _, Nat.zero_le _⟩ 5 0 rfl rfl rfl rfl hl.1 rfl (Nat.le_of_ble_eq_true rfl) dX5_ifSwapped_2 (fun H locs hP hD hS => ?_)
  refine lv_aload_n hx hb dX5_ifSwapped_5 rfl (lv_at hl 0 rfl) ?_
  refine lv_iload_n hx hb dX5_ifSwapped_6 rfl (lv_at hl 2 rfl) ?_
  obtain ⟨r7, hr7, hF⟩ := opb hF
  refine kVV (As := [.int x2]) (rest := []) (ws' := (wd_X5_ifSwapped cI a_t a_row a_work a_rest a_bag a_smooth a_text a_saves a_bag_often a_row_signs a_work_signs c_gone c_bag_total c_bag_often c_row_length c_row_signs c_work_length c_work_signs)) ⟨hx, hb, hml, hown, hts⟩ (c_X5_needPlace l D cI a_t a_row a_work a_rest a_bag a_smooth a_text a_saves a_row_signs H.size c_gone c_row_length x2 r7 hr7) (cwV 1 hts mw_X5_102 rfl rfl rfl hd_X5_needPlace ⟨Nat.le_of_ble_eq_true rfl, Nat.le_of_ble_eq_true rfl⟩) hS hA hG hK hP hD [0, 3] rfl rfl rfl rfl rfl ⟨Nat.zero_le _, Nat.zero_le _⟩ 5 0 rfl rfl rfl rfl hl.1 rfl (Nat.le_of_ble_eq_true rfl) dX5_ifSwapped_7 (fun H locs hP hD hS => ?_)
  refine lv_aload_n hx hb dX5_ifSwapped_10 rfl (lv_at hl 0 rfl) ?_
  refine lv_iload_n hx hb dX5_ifSwapped_11 rfl (lv_at hl 1 rfl) ?_
  refine lv_iload_n hx hb dX5_ifSwapped_12 rfl (lv_at hl 2 rfl) ?_
  obtain ⟨r13, hr13, hF⟩ := opb hF
  refine kVI (As := [.int x1, .int x2]) (rest := []) (ws' := (wd_X5_ifSwapped cI a_t a_row a_work a_rest a_bag a_smooth a_text a_saves a_bag_often a_row_signs a_work_signs c_gone r13.2.1 r13.2.2.1 c_row_length c_row_signs r13.2.2.2.1 r13.2.2.2.2)) ⟨hx, hb, hml, hown, hts⟩ (c_X5_rankIfExchanged l D cI a_t a_row a_work a_rest a_bag a_smooth a_text a_saves a_bag_often a_row_signs a_work_signs H.size c_gone c_bag_total c_bag_often c_row_length c_row_signs c_work_length c_work_signs x1 x2 r13 hr13) (cwV 2 hts mw_X5_209 rfl rfl rfl hd_X5_rankIfExchanged ⟨Nat.le_of_ble_eq_true rfl, Nat.le_of_ble_eq_true rfl⟩) hS hA hG hK hP hD [0, 1, 2, 3, 4, 5, 6] rfl rfl rfl rfl rfl ⟨Nat.zero_le _, Nat.zero_le _⟩ 5 0 rfl rfl rfl rfl hl.1 rfl (Nat.le_of_ble_eq_true rfl) dX5_ifSwapped_13 (fun H locs hP hD hS => ?_)
  have ho := Option.some.inj hF
  exact hret H locs ls 16 r13.1 _ hP hS (by rw [← ho]) (by rw [← ho]) dX5_ifSwapped_16
abbrev wd_X5_signOf (cI : ClassId) (a_t a_row a_work a_rest a_bag a_smooth a_text a_saves a_bag_often a_row_signs a_work_signs : Nat) (c_gone : Int32) (c_bag_total : Int32) (c_bag_often : Nat → Int32) (c_row_length : Int32) (c_row_signs : Nat → Int32) (c_work_length : Int32) (c_work_signs : Nat → Int32) : va_W := [(a_t, .inr (5, [.ref a_row, .ref a_work, .ref a_rest, .ref a_bag, .ref a_smooth, .ref a_text, .ref a_saves, .int c_gone])), (a_bag, .inr (0, [.ref a_bag_often, .int c_bag_total])), (a_bag_often, .inl (cI, 6, .inl c_bag_often)), (a_row, .inr (1, [.ref a_row_signs, .int c_row_length])), (a_row_signs, .inl (cI, 11, .inl c_row_signs)), (a_work, .inr (1, [.ref a_work_signs, .int c_work_length])), (a_work_signs, .inl (cI, 11, .inl c_work_signs))]
def rm_X5_signOf : Room := { frames := 5, cells := 0, slots := 0, locals := 106 }
set_option maxHeartbeats 4000000 in
set_option maxRecDepth 100000 in
theorem c_X5_signOf (l : Launch) (D : va_G) (cI : ClassId) (a_t a_row a_work a_rest a_bag a_smooth a_text a_saves a_bag_often a_row_signs a_work_signs : Nat) (sz : Nat) (c_gone : Int32) (c_bag_total : Int32) (c_bag_often : Nat → Int32) (c_row_length : Int32) (c_row_signs : Nat → Int32) (c_work_length : Int32) (c_work_signs : Nat → Int32) (x1 : Int32) (x2 : Int32) (o : Int32 × Int32 × (Nat → Int32) × Int32 × (Nat → Int32)) (hF : F_X5_signOf c_bag_total c_bag_often c_row_length c_row_signs c_work_length c_work_signs x1 x2 = some o) : Met l yX5_signOf (Cond.code yX5_signOf cX5_signOf 3 (some .int) :: WL) rm_X5_signOf (preM D [(cI, .int)] (wd_X5_signOf cI a_t a_row a_work a_rest a_bag a_smooth a_text a_saves a_bag_often a_row_signs a_work_signs c_gone c_bag_total c_bag_often c_row_length c_row_signs c_work_length c_work_signs) sz [.ref a_t, .int x1, .int x2]) (postI D o.1 (wd_X5_signOf cI a_t a_row a_work a_rest a_bag a_smooth a_text a_saves a_bag_often a_row_signs a_work_signs c_gone o.2.1 o.2.2.1 c_row_length c_row_signs o.2.2.2.1 o.2.2.2.2) (wd_X5_signOf cI a_t a_row a_work a_rest a_bag a_smooth a_text a_saves a_bag_often a_row_signs a_work_signs c_gone c_bag_total c_bag_often c_row_length c_row_signs c_work_length c_work_signs) sz) 0 0 (va_A (wd_X5_signOf cI a_t a_row a_work a_rest a_bag a_smooth a_text a_saves a_bag_often a_row_signs a_work_signs c_gone c_bag_total c_bag_often c_row_length c_row_signs c_work_length c_work_signs) sz) := by
  refine mofI (by decide +kernel) (Nat.le_of_ble_eq_true rfl) ?_
  intro p e s m args below meth c Q A ls hx hb hml hown hts hK hP hD hS hA hG hl hret hsz0
  have hl : lv_has ls 3 [(0, .ref a_t), (1, .int x1), (2, .int x2)] := hl
  unfold F_X5_signOf at hF
  have hP : va_P D vwCl (wd_X5_signOf cI a_t a_row a_work a_rest a_bag a_smooth a_text a_saves a_bag_often a_row_signs a_work_signs c_gone c_bag_total c_bag_often c_row_length c_row_signs c_work_length c_work_signs) s.heap := hP
  obtain ⟨H, hH⟩ : ∃ H, H = s.heap := ⟨_, rfl⟩
  rw [← hH]
  rw [← hH] at hP
  obtain ⟨locs, hlo⟩ : ∃ z : List Loc, z = [] := ⟨_, rfl⟩
  rw [← hlo]
  have hS : va_S A s.heap H locs := by rw [hH, hlo]; exact hS
  refine lv_aload_n hx hb dX5_signOf_0 rfl (lv_at hl 0 rfl) ?_
  refine lv_iload_n hx hb dX5_signOf_1 rfl (lv_at hl 2 rfl) ?_
  obtain ⟨r2, hr2, hF⟩ := opb hF
  refine kVV (As := [.int x2]) (rest := []) (ws' := (wd_X5_signOf cI a_t a_row a_work a_rest a_bag a_smooth a_text a_saves a_bag_often a_row_signs a_work_signs c_gone c_bag_total c_bag_often c_row_length c_row_signs c_work_length c_work_signs)) ⟨hx, hb, hml, hown, hts⟩ (c_X5_needPlace l D cI a_t a_row a_work a_rest a_bag a_smooth a_text a_saves a_row_signs H.size c_gone c_row_length x2 r2 hr2) (cwV 1 hts mw_X5_102 rfl rfl rfl hd_X5_needPlace ⟨Nat.le_of_ble_eq_true rfl, Nat.le_of_ble_eq_true rfl⟩) hS hA hG hK hP hD [0, 3] rfl rfl rfl rfl rfl ⟨Nat.zero_le _, Nat.zero_le _⟩ 5 0 rfl rfl rfl rfl hl.1 rfl (Nat.le_of_ble_eq_true rfl) dX5_signOf_2 (fun H locs hP hD hS => ?_)
  refine lv_aload_n hx hb dX5_signOf_5 rfl (lv_at hl 0 rfl) ?_
  refine lv_iload_n hx hb dX5_signOf_6 rfl (lv_at hl 1 rfl) ?_
  obtain ⟨r7, hr7, hF⟩ := opb hF
  refine kVV (As := [.int x1]) (rest := []) (ws' := (wd_X5_signOf cI a_t a_row a_work a_rest a_bag a_smooth a_text a_saves a_bag_often a_row_signs a_work_signs c_gone r7.1 r7.2 c_row_length c_row_signs c_work_length c_work_signs)) ⟨hx, hb, hml, hown, hts⟩ (c_X5_needRank l D cI a_t a_row a_work a_rest a_bag a_smooth a_text a_saves a_bag_often a_row_signs H.size c_gone c_bag_total c_bag_often c_row_length c_row_signs x1 r7 hr7) (cwV 1 hts mw_X5_54 rfl rfl rfl hd_X5_needRank ⟨Nat.le_of_ble_eq_true rfl, Nat.le_of_ble_eq_true rfl⟩) hS hA hG hK hP hD [0, 1, 2, 3, 4] rfl rfl rfl rfl rfl ⟨Nat.zero_le _, Nat.zero_le _⟩ 5 0 rfl rfl rfl rfl hl.1 rfl (Nat.le_of_ble_eq_true rfl) dX5_signOf_7 (fun H locs hP hD hS => ?_)
  refine lv_aload_n hx hb dX5_signOf_10 rfl (lv_at hl 0 rfl) ?_
  refine lv_iload_n hx hb dX5_signOf_11 rfl (lv_at hl 1 rfl) ?_
  obtain ⟨r12, hr12, hF⟩ := opb hF
  refine kVV (As := [.int x1]) (rest := []) (ws' := (wd_X5_signOf cI a_t a_row a_work a_rest a_bag a_smooth a_text a_saves a_bag_often a_row_signs a_work_signs c_gone r12.1 r12.2.1 c_row_length c_row_signs r12.2.2.1 r12.2.2.2)) ⟨hx, hb, hml, hown, hts⟩ (c_X5_layOut l D cI a_t a_row a_work a_rest a_bag a_smooth a_text a_saves a_bag_often a_row_signs a_work_signs H.size c_gone r7.1 r7.2 c_row_length c_row_signs c_work_length c_work_signs x1 r12 hr12) (cwV 1 hts mw_X5_213 rfl rfl rfl hd_X5_layOut ⟨Nat.le_of_ble_eq_true rfl, Nat.le_of_ble_eq_true rfl⟩) hS hA hG hK hP hD [0, 1, 2, 3, 4, 5, 6] rfl rfl rfl rfl rfl ⟨Nat.zero_le _, Nat.zero_le _⟩ 5 0 rfl rfl rfl rfl hl.1 rfl (Nat.le_of_ble_eq_true rfl) dX5_signOf_12 (fun H locs hP hD hS => ?_)
  refine lv_aload_n hx hb dX5_signOf_15 rfl (lv_at hl 0 rfl) ?_
  refine get_X5_16 hx hb hts hown hK hP 0 rfl rfl dX5_signOf_16 ?_
  refine lv_iload_n hx hb dX5_signOf_19 rfl (lv_at hl 2 rfl) ?_
  obtain ⟨r20, hr20, hF⟩ := opb hF
  refine kVI (As := [.int x2]) (rest := []) (ws' := (wd_X5_signOf cI a_t a_row a_work a_rest a_bag a_smooth a_text a_saves a_bag_often a_row_signs a_work_signs c_gone r12.1 r12.2.1 c_row_length c_row_signs r12.2.2.1 r12.2.2.2)) ⟨hx, hb, hml, hown, hts⟩ (c_X1_at l D cI a_work a_work_signs H.size r12.2.2.1 r12.2.2.2 x2 r20 hr20) (cwV 1 hts mw_X5_137 rfl rfl rfl hd_X1_at ⟨Nat.le_of_ble_eq_true rfl, Nat.le_of_ble_eq_true rfl⟩) hS hA hG hK hP hD [5, 6] rfl rfl rfl rfl rfl ⟨Nat.zero_le _, Nat.zero_le _⟩ 1 5 rfl rfl rfl rfl hl.1 rfl (Nat.le_of_ble_eq_true rfl) dX5_signOf_20 (fun H locs hP hD hS => ?_)
  have ho := Option.some.inj hF
  exact hret H locs ls 23 r20 _ hP hS (by rw [← ho]) (by rw [← ho]) dX5_signOf_23
abbrev wd_X5_havingBehind (cI : ClassId) (a_t a_row a_work a_rest a_bag a_smooth a_text a_saves a_bag_often a_work_signs : Nat) (c_gone : Int32) (c_bag_total : Int32) (c_bag_often : Nat → Int32) (c_work_length : Int32) (c_work_signs : Nat → Int32) : va_W := [(a_t, .inr (5, [.ref a_row, .ref a_work, .ref a_rest, .ref a_bag, .ref a_smooth, .ref a_text, .ref a_saves, .int c_gone])), (a_bag, .inr (0, [.ref a_bag_often, .int c_bag_total])), (a_bag_often, .inl (cI, 6, .inl c_bag_often)), (a_work, .inr (1, [.ref a_work_signs, .int c_work_length])), (a_work_signs, .inl (cI, 11, .inl c_work_signs))]
def rm_X5_havingBehind : Room := { frames := 3, cells := 0, slots := 0, locals := 65 }
set_option maxHeartbeats 4000000 in
set_option maxRecDepth 100000 in
theorem c_X5_havingBehind (l : Launch) (D : va_G) (cI : ClassId) (a_t a_row a_work a_rest a_bag a_smooth a_text a_saves a_bag_often a_work_signs : Nat) (sz : Nat) (c_gone : Int32) (c_bag_total : Int32) (c_bag_often : Nat → Int32) (c_work_length : Int32) (c_work_signs : Nat → Int32) (x1 : Int32) (x2 : Int32) (x3 : Int32) (x4 : Int32) (o : Int32 × Int32 × (Nat → Int32)) (hF : F_X5_havingBehind c_bag_total c_bag_often c_work_length c_work_signs x1 x2 x3 x4 = some o) : Met l yX5_havingBehind (Cond.code yX5_havingBehind cX5_havingBehind 7 (some .int) :: WL) rm_X5_havingBehind (preM D [(cI, .int)] (wd_X5_havingBehind cI a_t a_row a_work a_rest a_bag a_smooth a_text a_saves a_bag_often a_work_signs c_gone c_bag_total c_bag_often c_work_length c_work_signs) sz [.ref a_t, .int x1, .int x2, .int x3, .int x4]) (postI D o.1 (wd_X5_havingBehind cI a_t a_row a_work a_rest a_bag a_smooth a_text a_saves a_bag_often a_work_signs c_gone o.2.1 o.2.2 c_work_length c_work_signs) (wd_X5_havingBehind cI a_t a_row a_work a_rest a_bag a_smooth a_text a_saves a_bag_often a_work_signs c_gone c_bag_total c_bag_often c_work_length c_work_signs) sz) 0 0 (va_A (wd_X5_havingBehind cI a_t a_row a_work a_rest a_bag a_smooth a_text a_saves a_bag_often a_work_signs c_gone c_bag_total c_bag_often c_work_length c_work_signs) sz) := by
  refine mofI (by decide +kernel) (Nat.le_of_ble_eq_true rfl) ?_
  intro p e s m args below meth c Q A ls hx hb hml hown hts hK hP hD hS hA hG hl hret hsz0
  have hl : lv_has ls 7 [(0, .ref a_t), (1, .int x1), (2, .int x2), (3, .int x3), (4, .int x4)] := hl
  have K74 : ∀ (c_bag_total : Int32) (c_bag_often : Nat → Int32) (x5 : Int32) (v0 : Int32)  (H : Heap) (locs : List Loc) (ls : Array Slot), va_P D vwCl (wd_X5_havingBehind cI a_t a_row a_work a_rest a_bag a_smooth a_text a_saves a_bag_often a_work_signs c_gone c_bag_total c_bag_often c_work_length c_work_signs) H → va_D A (wd_X5_havingBehind cI a_t a_row a_work a_rest a_bag a_smooth a_text a_saves a_bag_often a_work_signs c_gone c_bag_total c_bag_often c_work_length c_work_signs) → va_S A s.heap H locs → lv_has ls 7 [(4, .int x4), (5, .int x5)] → F_X5_havingBehind_J74 c_work_length c_work_signs x1 x2 x3 x4 c_bag_total c_bag_often x5 v0 = some o → W p l e rm_X5_havingBehind s m args below meth c H locs 0 0 Q (F0 m 74 ls [.int v0]) := by
    intro c_bag_total c_bag_often x5 v0 H locs ls hP hD hS hl hF
    unfold F_X5_havingBehind_J74 at hF
    refine lv_istore (lv' := [(6, .int v0), (4, .int x4), (5, .int x5)]) hx hb dX5_havingBehind_74 hl (by decide) rfl (fun ls hl => ?_)
    refine lv_iload hx hb dX5_havingBehind_76 (lv_at hl 0 rfl) ?_
    refine lv_iload hx hb dX5_havingBehind_78 (lv_at hl 1 rfl) ?_
    refine lv_icmp_ne (tgt := 88) hx hb dX5_havingBehind_80 (by decide) (fun k80 => ?_) (fun k80 => ?_)
    · (try simp only [if_neg k80] at hF)
      refine lv_iconst (v := 0) hx hb dX5_havingBehind_88 (by decide) ?_
      have ho := Option.some.inj hF
      exact hret H locs ls 89 (0 : Int32) _ hP hS (by rw [← ho]) (by rw [← ho]) dX5_havingBehind_89
    · (try simp only [if_pos k80] at hF)
      refine lv_iload hx hb dX5_havingBehind_83 (lv_at hl 2 rfl) ?_
      refine lv_goto (tgt := 89) hx hb dX5_havingBehind_85 (by decide) ?_
      have ho := Option.some.inj hF
      exact hret H locs ls 89 x5 _ hP hS (by rw [← ho]) (by rw [← ho]) dX5_havingBehind_89
  unfold F_X5_havingBehind at hF
  have hP : va_P D vwCl (wd_X5_havingBehind cI a_t a_row a_work a_rest a_bag a_smooth a_text a_saves a_bag_often a_work_signs c_gone c_bag_total c_bag_often c_work_length c_work_signs) s.heap := hP
  obtain ⟨H, hH⟩ : ∃ H, H = s.heap := ⟨_, rfl⟩
  rw [← hH]
  rw [← hH] at hP
  obtain ⟨locs, hlo⟩ : ∃ z : List Loc, z = [] := ⟨_, rfl⟩
  rw [← hlo]
  have hS : va_S A s.heap H locs := by rw [hH, hlo]; exact hS
  refine lv_aload_n hx hb dX5_havingBehind_0 rfl (lv_at hl 0 rfl) ?_
  refine get_X5_25 hx hb hts hown hK hP 0 rfl rfl dX5_havingBehind_1 ?_
  refine lv_aload_n hx hb dX5_havingBehind_4 rfl (lv_at hl 0 rfl) ?_
  refine get_X5_16 hx hb hts hown hK hP 0 rfl rfl dX5_havingBehind_5 ?_
  refine lv_iload_n hx hb dX5_havingBehind_8 rfl (lv_at hl 1 rfl) ?_
  obtain ⟨r9, hr9, hF⟩ := opb hF
  refine kVV (As := [.ref a_work, .int x1]) (rest := []) (ws' := (wd_X5_havingBehind cI a_t a_row a_work a_rest a_bag a_smooth a_text a_saves a_bag_often a_work_signs c_gone r9.1 r9.2 c_work_length c_work_signs)) ⟨hx, hb, hml, hown, hts⟩ (c_X0_fill l D cI a_bag a_work a_bag_often a_work_signs H.size c_bag_total c_bag_often c_work_length c_work_signs x1 r9 hr9) (cwV 2 hts mw_X5_171 rfl rfl rfl hd_X0_fill ⟨Nat.le_of_ble_eq_true rfl, Nat.le_of_ble_eq_true rfl⟩) hS hA hG hK hP hD [1, 2, 3, 4] rfl rfl rfl rfl rfl ⟨Nat.zero_le _, Nat.zero_le _⟩ 0 1 rfl rfl rfl rfl hl.1 rfl (Nat.le_of_ble_eq_true rfl) dX5_havingBehind_9 (fun H locs hP hD hS => ?_)
  refine lv_aload_n hx hb dX5_havingBehind_12 rfl (lv_at hl 0 rfl) ?_
  refine get_X5_25 hx hb hts hown hK hP 0 rfl rfl dX5_havingBehind_13 ?_
  refine lv_iload_n hx hb dX5_havingBehind_16 rfl (lv_at hl 2 rfl) ?_
  obtain ⟨r17, hr17, hF⟩ := opb hF
  refine kVI (As := [.int x2]) (rest := []) (ws' := (wd_X5_havingBehind cI a_t a_row a_work a_rest a_bag a_smooth a_text a_saves a_bag_often a_work_signs c_gone r17.2.1 r17.2.2 c_work_length c_work_signs)) ⟨hx, hb, hml, hown, hts⟩ (c_X0_waysBehind l D cI a_bag a_bag_often H.size r9.1 r9.2 x2 r17 hr17) (cwV 1 hts mw_X5_304 rfl rfl rfl hd_X0_waysBehind ⟨Nat.le_of_ble_eq_true rfl, Nat.le_of_ble_eq_true rfl⟩) hS hA hG hK hP hD [1, 2] rfl rfl rfl rfl rfl ⟨Nat.zero_le _, Nat.zero_le _⟩ 0 1 rfl rfl rfl rfl hl.1 rfl (Nat.le_of_ble_eq_true rfl) dX5_havingBehind_17 (fun H locs hP hD hS => ?_)
  refine lv_istore (lv' := [(5, .int r17.1), (0, .ref a_t), (1, .int x1), (2, .int x2), (3, .int x3), (4, .int x4)]) hx hb dX5_havingBehind_20 hl (by decide) rfl (fun ls hl => ?_)
  refine lv_iload_n hx hb dX5_havingBehind_22 rfl (lv_at hl 4 rfl) ?_
  refine lv_iload_n hx hb dX5_havingBehind_23 rfl (lv_at hl 2 rfl) ?_
  refine lv_icmp_le (tgt := 57) hx hb dX5_havingBehind_24 (by decide) (fun k24 => ?_) (fun k24 => ?_)
  · replace hF := (if_pos k24).symm.trans hF
    refine lv_iload_n hx hb dX5_havingBehind_57 rfl (lv_at hl 4 rfl) ?_
    refine lv_iload_n hx hb dX5_havingBehind_58 rfl (lv_at hl 2 rfl) ?_
    refine lv_icmp_ge (tgt := 73) hx hb dX5_havingBehind_59 (by decide) (fun k59 => ?_) (fun k59 => ?_)
    · replace hF := (if_pos k59).symm.trans hF
      refine lv_iload_n hx hb dX5_havingBehind_73 rfl (lv_at hl 3 rfl) ?_
      exact K74 r17.2.1 r17.2.2 r17.1 x2 H locs ls hP hD hS (lv_sub hl [5, 0] rfl) hF
    · replace hF := (if_neg k59).symm.trans hF
      refine lv_aload_n hx hb dX5_havingBehind_62 rfl (lv_at hl 1 rfl) ?_
      refine get_X5_16 hx hb hts hown hK hP 0 rfl rfl dX5_havingBehind_63 ?_
      refine lv_iload_n hx hb dX5_havingBehind_66 rfl (lv_at hl 4 rfl) ?_
      obtain ⟨r67, hr67, hF⟩ := opb hF
      refine kVI (As := [.int x3]) (rest := []) (ws' := (wd_X5_havingBehind cI a_t a_row a_work a_rest a_bag a_smooth a_text a_saves a_bag_often a_work_signs c_gone r17.2.1 r17.2.2 c_work_length c_work_signs)) ⟨hx, hb, hml, hown, hts⟩ (c_X1_at l D cI a_work a_work_signs H.size c_work_length c_work_signs x3 r67 hr67) (cwV 1 hts mw_X5_137 rfl rfl rfl hd_X1_at ⟨Nat.le_of_ble_eq_true rfl, Nat.le_of_ble_eq_true rfl⟩) hS hA hG hK hP hD [3, 4] rfl rfl rfl rfl rfl ⟨Nat.zero_le _, Nat.zero_le _⟩ 1 3 rfl rfl rfl rfl hl.1 rfl (Nat.le_of_ble_eq_true rfl) dX5_havingBehind_67 (fun H locs hP hD hS => ?_)
      refine lv_goto (tgt := 74) hx hb dX5_havingBehind_70 (by decide) ?_
      exact K74 r17.2.1 r17.2.2 r17.1 r67 H locs ls hP hD hS (lv_sub hl [5, 0] rfl) hF
  · replace hF := (if_neg k24).symm.trans hF
    refine lv_aload_n hx hb dX5_havingBehind_27 rfl (lv_at hl 1 rfl) ?_
    refine get_X5_25 hx hb hts hown hK hP 0 rfl rfl dX5_havingBehind_28 ?_
    refine lv_iload_n hx hb dX5_havingBehind_31 rfl (lv_at hl 3 rfl) ?_
    obtain ⟨r32, hr32, hF⟩ := opb hF
    refine kVV (As := [.int x2]) (rest := []) (ws' := (wd_X5_havingBehind cI a_t a_row a_work a_rest a_bag a_smooth a_text a_saves a_bag_often a_work_signs c_gone r32.1 r32.2 c_work_length c_work_signs)) ⟨hx, hb, hml, hown, hts⟩ (c_X0_drop l D cI a_bag a_bag_often H.size r17.2.1 r17.2.2 x2 r32 hr32) (cwV 1 hts mw_X5_301 rfl rfl rfl hd_X0_drop ⟨Nat.le_of_ble_eq_true rfl, Nat.le_of_ble_eq_true rfl⟩) hS hA hG hK hP hD [1, 2] rfl rfl rfl rfl rfl ⟨Nat.zero_le _, Nat.zero_le _⟩ 0 1 rfl rfl rfl rfl hl.1 rfl (Nat.le_of_ble_eq_true rfl) dX5_havingBehind_32 (fun H locs hP hD hS => ?_)
    refine lv_iload hx hb dX5_havingBehind_35 (lv_at hl 0 rfl) ?_
    refine lv_aload_n hx hb dX5_havingBehind_37 rfl (lv_at hl 1 rfl) ?_
    refine get_X5_25 hx hb hts hown hK hP 0 rfl rfl dX5_havingBehind_38 ?_
    refine lv_iload hx hb dX5_havingBehind_41 (lv_at hl 5 rfl) ?_
    obtain ⟨r43, hr43, hF⟩ := opb hF
    refine kVI (As := [.int x4]) (rest := [.int r17.1]) (ws' := (wd_X5_havingBehind cI a_t a_row a_work a_rest a_bag a_smooth a_text a_saves a_bag_often a_work_signs c_gone r32.1 r32.2 c_work_length c_work_signs)) ⟨hx, hb, hml, hown, hts⟩ (c_X0_of l D cI a_bag a_bag_often H.size r32.1 r32.2 x4 r43 hr43) (cwV 1 hts mw_X5_178 rfl rfl rfl hd_X0_of ⟨Nat.le_of_ble_eq_true rfl, Nat.le_of_ble_eq_true rfl⟩) hS hA hG hK hP hD [1, 2] rfl rfl rfl rfl rfl ⟨Nat.zero_le _, Nat.zero_le _⟩ 0 1 rfl rfl rfl rfl hl.1 rfl (Nat.le_of_ble_eq_true rfl) dX5_havingBehind_43 (fun H locs hP hD hS => ?_)
    refine lv_aload_n hx hb dX5_havingBehind_46 rfl (lv_at hl 1 rfl) ?_
    refine get_X5_25 hx hb hts hown hK hP 0 rfl rfl dX5_havingBehind_47 ?_
    obtain ⟨r50, hr50, hF⟩ := opb hF
    refine kVI (As := []) (rest := [.int r43, .int r17.1]) (ws' := (wd_X5_havingBehind cI a_t a_row a_work a_rest a_bag a_smooth a_text a_saves a_bag_often a_work_signs c_gone r32.1 r32.2 c_work_length c_work_signs)) ⟨hx, hb, hml, hown, hts⟩ (c_X0_total l D cI a_bag a_bag_often H.size r32.1  r50 hr50) (cwV 0 hts mw_X5_295 rfl rfl rfl hd_X0_total ⟨Nat.le_of_ble_eq_true rfl, Nat.le_of_ble_eq_true rfl⟩) hS hA hG hK hP hD [1] rfl rfl rfl rfl rfl ⟨Nat.zero_le _, Nat.zero_le _⟩ 0 1 rfl rfl rfl rfl hl.1 rfl (Nat.le_of_ble_eq_true rfl) dX5_havingBehind_50 (fun H locs hP hD hS => ?_)
    obtain ⟨r53, hr53, hF⟩ := opb hF
    refine kSI (As := [.int r17.1, .int r43, .int r50]) (rest := []) (ws' := (wd_X5_havingBehind cI a_t a_row a_work a_rest a_bag a_smooth a_text a_saves a_bag_often a_work_signs c_gone r32.1 r32.2 c_work_length c_work_signs)) ⟨hx, hb, hml, hown, hts⟩ (c_X5_part l D cI  H.size  r17.1 r43 r50 r53 hr53) (va_cwS 3 hts mw_X5_298 rfl rfl rfl hd_X5_part ⟨Nat.le_of_ble_eq_true rfl, Nat.le_of_ble_eq_true rfl⟩) hS hA hG hK hP hD [] rfl rfl rfl rfl rfl ⟨Nat.zero_le _, Nat.zero_le _⟩ rfl hl.1 rfl (Nat.le_of_ble_eq_true rfl) dX5_havingBehind_53 (fun H locs hP hD hS => ?_)
    have ho := Option.some.inj hF
    exact hret H locs ls 56 r53 _ hP hS (by rw [← ho]) (by rw [← ho]) dX5_havingBehind_56
abbrev wd_X5_havingBelow (cI : ClassId) (a_t a_row a_work a_rest a_bag a_smooth a_text a_saves a_bag_often a_row_signs a_work_signs : Nat) (c_gone : Int32) (c_bag_total : Int32) (c_bag_often : Nat → Int32) (c_row_length : Int32) (c_row_signs : Nat → Int32) (c_work_length : Int32) (c_work_signs : Nat → Int32) : va_W := [(a_t, .inr (5, [.ref a_row, .ref a_work, .ref a_rest, .ref a_bag, .ref a_smooth, .ref a_text, .ref a_saves, .int c_gone])), (a_bag, .inr (0, [.ref a_bag_often, .int c_bag_total])), (a_bag_often, .inl (cI, 6, .inl c_bag_often)), (a_row, .inr (1, [.ref a_row_signs, .int c_row_length])), (a_row_signs, .inl (cI, 11, .inl c_row_signs)), (a_work, .inr (1, [.ref a_work_signs, .int c_work_length])), (a_work_signs, .inl (cI, 11, .inl c_work_signs))]
def rm_X5_havingBelow : Room := { frames := 4, cells := 0, slots := 0, locals := 91 }
set_option maxHeartbeats 4000000 in
set_option maxRecDepth 100000 in
theorem c_X5_havingBelow (l : Launch) (D : va_G) (cI : ClassId) (a_t a_row a_work a_rest a_bag a_smooth a_text a_saves a_bag_often a_row_signs a_work_signs : Nat) (sz : Nat) (c_gone : Int32) (c_bag_total : Int32) (c_bag_often : Nat → Int32) (c_row_length : Int32) (c_row_signs : Nat → Int32) (c_work_length : Int32) (c_work_signs : Nat → Int32) (x1 : Int32) (x2 : Int32) (x3 : Int32) (o : Int32 × Int32 × (Nat → Int32) × Int32 × (Nat → Int32)) (hF : F_X5_havingBelow c_bag_total c_bag_often c_row_length c_row_signs c_work_length c_work_signs x1 x2 x3 = some o) : Met l yX5_havingBelow (Cond.code yX5_havingBelow cX5_havingBelow 8 (some .int) :: WL) rm_X5_havingBelow (preM D [(cI, .int)] (wd_X5_havingBelow cI a_t a_row a_work a_rest a_bag a_smooth a_text a_saves a_bag_often a_row_signs a_work_signs c_gone c_bag_total c_bag_often c_row_length c_row_signs c_work_length c_work_signs) sz [.ref a_t, .int x1, .int x2, .int x3]) (postI D o.1 (wd_X5_havingBelow cI a_t a_row a_work a_rest a_bag a_smooth a_text a_saves a_bag_often a_row_signs a_work_signs c_gone o.2.1 o.2.2.1 c_row_length c_row_signs o.2.2.2.1 o.2.2.2.2) (wd_X5_havingBelow cI a_t a_row a_work a_rest a_bag a_smooth a_text a_saves a_bag_often a_row_signs a_work_signs c_gone c_bag_total c_bag_often c_row_length c_row_signs c_work_length c_work_signs) sz) 0 0 (va_A (wd_X5_havingBelow cI a_t a_row a_work a_rest a_bag a_smooth a_text a_saves a_bag_often a_row_signs a_work_signs c_gone c_bag_total c_bag_often c_row_length c_row_signs c_work_length c_work_signs) sz) := by
  refine mofI (by decide +kernel) (Nat.le_of_ble_eq_true rfl) ?_
  intro p e s m args below meth c Q A ls hx hb hml hown hts hK hP hD hS hA hG hl hret hsz0
  have hl : lv_has ls 8 [(0, .ref a_t), (1, .int x1), (2, .int x2), (3, .int x3)] := hl
  have K59 : ∀ (n59 : Nat) (c_bag_total : Int32) (c_bag_often : Nat → Int32) (c_work_length : Int32) (c_work_signs : Nat → Int32) (x5 : Int32) (x6 : Int32) (H : Heap) (locs : List Loc) (ls : Array Slot), va_P D vwCl (wd_X5_havingBelow cI a_t a_row a_work a_rest a_bag a_smooth a_text a_saves a_bag_often a_row_signs a_work_signs c_gone c_bag_total c_bag_often c_row_length c_row_signs c_work_length c_work_signs) H → va_D A (wd_X5_havingBelow cI a_t a_row a_work a_rest a_bag a_smooth a_text a_saves a_bag_often a_row_signs a_work_signs c_gone c_bag_total c_bag_often c_row_length c_row_signs c_work_length c_work_signs) → va_S A s.heap H locs → lv_has ls 8 [(0, .ref a_t), (2, .int x2), (3, .int x3), (5, .int x5), (6, .int x6)] → F_X5_havingBelow_L59 c_row_length c_row_signs x1 x2 x3 n59 c_bag_total c_bag_often c_work_length c_work_signs x5 x6 = some o → W p l e rm_X5_havingBelow s m args below meth c H locs 0 0 Q (F0 m 59 ls []) := by
    intro n59
    induction n59 with
    | zero => intro c_bag_total c_bag_often c_work_length c_work_signs x5 x6 H locs ls hP hD hS hl hF; exact nos hF
    | succ n59 ih59 =>
      have K74 : ∀ (n74 : Nat) (c_bag_total : Int32) (c_bag_often : Nat → Int32) (c_work_length : Int32) (c_work_signs : Nat → Int32) (x5 : Int32) (x6 : Int32) (x7 : Int32) (H : Heap) (locs : List Loc) (ls : Array Slot), va_P D vwCl (wd_X5_havingBelow cI a_t a_row a_work a_rest a_bag a_smooth a_text a_saves a_bag_often a_row_signs a_work_signs c_gone c_bag_total c_bag_often c_row_length c_row_signs c_work_length c_work_signs) H → va_D A (wd_X5_havingBelow cI a_t a_row a_work a_rest a_bag a_smooth a_text a_saves a_bag_often a_row_signs a_work_signs c_gone c_bag_total c_bag_often c_row_length c_row_signs c_work_length c_work_signs) → va_S A s.heap H locs → lv_has ls 8 [(0, .ref a_t), (2, .int x2), (3, .int x3), (5, .int x5), (6, .int x6), (7, .int x7)] → F_X5_havingBelow_L74 (F_X5_havingBelow_L59 c_row_length c_row_signs x1 x2 x3 n59) c_row_length c_row_signs x1 x2 x3 n74 c_bag_total c_bag_often c_work_length c_work_signs x5 x6 x7 = some o → W p l e rm_X5_havingBelow s m args below meth c H locs 0 0 Q (F0 m 74 ls []) := by
        intro n74
        induction n74 with
        | zero => intro c_bag_total c_bag_often c_work_length c_work_signs x5 x6 x7 H locs ls hP hD hS hl hF; exact nos hF
        | succ n74 ih74 =>
          intro c_bag_total c_bag_often c_work_length c_work_signs x5 x6 x7 H locs ls hP hD hS hl hF
          rw [F_X5_havingBelow_L74] at hF
          refine lv_iload hx hb dX5_havingBelow_74 (lv_at hl 5 rfl) ?_
          refine lv_aload_n hx hb dX5_havingBelow_76 rfl (lv_at hl 0 rfl) ?_
          refine get_X5_16 hx hb hts hown hK hP 0 rfl rfl dX5_havingBelow_77 ?_
          refine lv_iload hx hb dX5_havingBelow_80 (lv_at hl 4 rfl) ?_
          obtain ⟨r82, hr82, hF⟩ := opb hF
          refine kVI (As := [.int x6]) (rest := [.int x7]) (ws' := (wd_X5_havingBelow cI a_t a_row a_work a_rest a_bag a_smooth a_text a_saves a_bag_often a_row_signs a_work_signs c_gone c_bag_total c_bag_often c_row_length c_row_signs c_work_length c_work_signs)) ⟨hx, hb, hml, hown, hts⟩ (c_X1_at l D cI a_work a_work_signs H.size c_work_length c_work_signs x6 r82 hr82) (cwV 1 hts mw_X5_137 rfl rfl rfl hd_X1_at ⟨Nat.le_of_ble_eq_true rfl, Nat.le_of_ble_eq_true rfl⟩) hS hA hG hK hP hD [5, 6] rfl rfl rfl rfl rfl ⟨Nat.zero_le _, Nat.zero_le _⟩ 1 5 rfl rfl rfl rfl hl.1 rfl (Nat.le_of_ble_eq_true rfl) dX5_havingBelow_82 (fun H locs hP hD hS => ?_)
          refine lv_icmp_ge (tgt := 109) hx hb dX5_havingBelow_85 (by decide) (fun k85 => ?_) (fun k85 => ?_)
          · replace hF := (if_pos k85).symm.trans hF
            refine lv_iinc (v := x6 + 1) (lv' := [(6, .int (x6 + 1)), (0, .ref a_t), (2, .int x2), (3, .int x3), (5, .int x5), (7, .int x7)]) hx hb dX5_havingBelow_109 hl (k := 4) rfl rfl (by decide) rfl (fun ls hl => ?_)
            refine lv_goto (tgt := 59) hx hb dX5_havingBelow_112 (by decide) ?_
            exact ih59 c_bag_total c_bag_often c_work_length c_work_signs x5 (x6 + 1) H locs ls hP hD hS (lv_sub hl [1, 2, 3, 4, 0] rfl) hF
          · replace hF := (if_neg k85).symm.trans hF
            refine lv_iload hx hb dX5_havingBelow_88 (lv_at hl 3 rfl) ?_
            refine lv_aload_n hx hb dX5_havingBelow_90 rfl (lv_at hl 0 rfl) ?_
            refine lv_iload hx hb dX5_havingBelow_91 (lv_at hl 4 rfl) ?_
            refine lv_iload hx hb dX5_havingBelow_93 (lv_at hl 5 rfl) ?_
            refine lv_iload_n hx hb dX5_havingBelow_95 rfl (lv_at hl 1 rfl) ?_
            refine lv_iload_n hx hb dX5_havingBelow_96 rfl (lv_at hl 2 rfl) ?_
            obtain ⟨r97, hr97, hF⟩ := opb hF
            refine kVI (As := [.int x6, .int x7, .int x2, .int x3]) (rest := [.int x5]) (ws' := (wd_X5_havingBelow cI a_t a_row a_work a_rest a_bag a_smooth a_text a_saves a_bag_often a_row_signs a_work_signs c_gone r97.2.1 r97.2.2 c_row_length c_row_signs c_work_length c_work_signs)) ⟨hx, hb, hml, hown, hts⟩ (c_X5_havingBehind l D cI a_t a_row a_work a_rest a_bag a_smooth a_text a_saves a_bag_often a_work_signs H.size c_gone c_bag_total c_bag_often c_work_length c_work_signs x6 x7 x2 x3 r97 hr97) (cwV 4 hts mw_X5_308 rfl rfl rfl hd_X5_havingBehind ⟨Nat.le_of_ble_eq_true rfl, Nat.le_of_ble_eq_true rfl⟩) hS hA hG hK hP hD [0, 1, 2, 5, 6] rfl rfl rfl rfl rfl ⟨Nat.zero_le _, Nat.zero_le _⟩ 5 0 rfl rfl rfl rfl hl.1 rfl (Nat.le_of_ble_eq_true rfl) dX5_havingBelow_97 (fun H locs hP hD hS => ?_)
            refine lv_iadd hx hb dX5_havingBelow_100 ?_
            refine lv_istore (lv' := [(5, .int (x5 + r97.1)), (0, .ref a_t), (2, .int x2), (3, .int x3), (6, .int x6), (7, .int x7)]) hx hb dX5_havingBelow_101 hl (by decide) rfl (fun ls hl => ?_)
            refine lv_iinc (v := x7 + 1) (lv' := [(7, .int (x7 + 1)), (5, .int (x5 + r97.1)), (0, .ref a_t), (2, .int x2), (3, .int x3), (6, .int x6)]) hx hb dX5_havingBelow_103 hl (k := 5) rfl rfl (by decide) rfl (fun ls hl => ?_)
            refine lv_goto (tgt := 74) hx hb dX5_havingBelow_106 (by decide) ?_
            exact ih74 r97.2.1 r97.2.2 c_work_length c_work_signs (x5 + r97.1) x6 (x7 + 1) H locs ls hP hD hS (lv_sub hl [2, 3, 4, 1, 5, 0] rfl) hF
      intro c_bag_total c_bag_often c_work_length c_work_signs x5 x6 H locs ls hP hD hS hl hF
      rw [F_X5_havingBelow_L59] at hF
      refine lv_iload hx hb dX5_havingBelow_59 (lv_at hl 4 rfl) ?_
      refine lv_aload_n hx hb dX5_havingBelow_61 rfl (lv_at hl 0 rfl) ?_
      refine get_X5_16 hx hb hts hown hK hP 0 rfl rfl dX5_havingBelow_62 ?_
      obtain ⟨r65, hr65, hF⟩ := opb hF
      refine kVI (As := []) (rest := [.int x6]) (ws' := (wd_X5_havingBelow cI a_t a_row a_work a_rest a_bag a_smooth a_text a_saves a_bag_often a_row_signs a_work_signs c_gone c_bag_total c_bag_often c_row_length c_row_signs c_work_length c_work_signs)) ⟨hx, hb, hml, hown, hts⟩ (c_X1_length l D cI a_work a_work_signs H.size c_work_length  r65 hr65) (cwV 0 hts mw_X5_79 rfl rfl rfl hd_X1_length ⟨Nat.le_of_ble_eq_true rfl, Nat.le_of_ble_eq_true rfl⟩) hS hA hG hK hP hD [5] rfl rfl rfl rfl rfl ⟨Nat.zero_le _, Nat.zero_le _⟩ 1 5 rfl rfl rfl rfl hl.1 rfl (Nat.le_of_ble_eq_true rfl) dX5_havingBelow_65 (fun H locs hP hD hS => ?_)
      refine lv_icmp_ge (tgt := 115) hx hb dX5_havingBelow_68 (by decide) (fun k68 => ?_) (fun k68 => ?_)
      · replace hF := (if_pos k68).symm.trans hF
        refine lv_iload hx hb dX5_havingBelow_115 (lv_at hl 3 rfl) ?_
        have ho := Option.some.inj hF
        exact hret H locs ls 117 x5 _ hP hS (by rw [← ho]) (by rw [← ho]) dX5_havingBelow_117
      · replace hF := (if_neg k68).symm.trans hF
        refine lv_iconst (v := 0) hx hb dX5_havingBelow_71 (by decide) ?_
        refine lv_istore (lv' := [(7, .int (0 : Int32)), (0, .ref a_t), (2, .int x2), (3, .int x3), (5, .int x5), (6, .int x6)]) hx hb dX5_havingBelow_72 hl (by decide) rfl (fun ls hl => ?_)
        exact K74 FU c_bag_total c_bag_often c_work_length c_work_signs x5 x6 (0 : Int32) H locs ls hP hD hS (lv_sub hl [1, 2, 3, 4, 5, 0] rfl) hF
  unfold F_X5_havingBelow at hF
  have hP : va_P D vwCl (wd_X5_havingBelow cI a_t a_row a_work a_rest a_bag a_smooth a_text a_saves a_bag_often a_row_signs a_work_signs c_gone c_bag_total c_bag_often c_row_length c_row_signs c_work_length c_work_signs) s.heap := hP
  obtain ⟨H, hH⟩ : ∃ H, H = s.heap := ⟨_, rfl⟩
  rw [← hH]
  rw [← hH] at hP
  obtain ⟨locs, hlo⟩ : ∃ z : List Loc, z = [] := ⟨_, rfl⟩
  rw [← hlo]
  have hS : va_S A s.heap H locs := by rw [hH, hlo]; exact hS
  refine lv_aload_n hx hb dX5_havingBelow_0 rfl (lv_at hl 0 rfl) ?_
  refine get_X5_25 hx hb hts hown hK hP 0 rfl rfl dX5_havingBelow_1 ?_
  refine lv_aload_n hx hb dX5_havingBelow_4 rfl (lv_at hl 0 rfl) ?_
  refine get_X5_10 hx hb hts hown hK hP 0 rfl rfl dX5_havingBelow_5 ?_
  refine lv_iconst (v := 0) hx hb dX5_havingBelow_8 (by decide) ?_
  obtain ⟨r9, hr9, hF⟩ := opb hF
  refine kVV (As := [.ref a_row, .int (0 : Int32)]) (rest := []) (ws' := (wd_X5_havingBelow cI a_t a_row a_work a_rest a_bag a_smooth a_text a_saves a_bag_often a_row_signs a_work_signs c_gone r9.1 r9.2 c_row_length c_row_signs c_work_length c_work_signs)) ⟨hx, hb, hml, hown, hts⟩ (c_X0_fill l D cI a_bag a_row a_bag_often a_row_signs H.size c_bag_total c_bag_often c_row_length c_row_signs (0 : Int32) r9 hr9) (cwV 2 hts mw_X5_171 rfl rfl rfl hd_X0_fill ⟨Nat.le_of_ble_eq_true rfl, Nat.le_of_ble_eq_true rfl⟩) hS hA hG hK hP hD [1, 2, 3, 4] rfl rfl rfl rfl rfl ⟨Nat.zero_le _, Nat.zero_le _⟩ 0 1 rfl rfl rfl rfl hl.1 rfl (Nat.le_of_ble_eq_true rfl) dX5_havingBelow_9 (fun H locs hP hD hS => ?_)
  refine lv_aload_n hx hb dX5_havingBelow_12 rfl (lv_at hl 0 rfl) ?_
  refine get_X5_25 hx hb hts hown hK hP 0 rfl rfl dX5_havingBelow_13 ?_
  obtain ⟨r16, hr16, hF⟩ := opb hF
  refine kVI (As := []) (rest := []) (ws' := (wd_X5_havingBelow cI a_t a_row a_work a_rest a_bag a_smooth a_text a_saves a_bag_often a_row_signs a_work_signs c_gone r9.1 r9.2 c_row_length c_row_signs c_work_length c_work_signs)) ⟨hx, hb, hml, hown, hts⟩ (c_X0_ways l D cI a_bag a_bag_often H.size r9.1 r9.2  r16 hr16) (cwV 0 hts mw_X5_289 rfl rfl rfl hd_X0_ways ⟨Nat.le_of_ble_eq_true rfl, Nat.le_of_ble_eq_true rfl⟩) hS hA hG hK hP hD [1, 2] rfl rfl rfl rfl rfl ⟨Nat.zero_le _, Nat.zero_le _⟩ 0 1 rfl rfl rfl rfl hl.1 rfl (Nat.le_of_ble_eq_true rfl) dX5_havingBelow_16 (fun H locs hP hD hS => ?_)
  refine lv_istore (lv' := [(4, .int r16), (0, .ref a_t), (1, .int x1), (2, .int x2), (3, .int x3)]) hx hb dX5_havingBelow_19 hl (by decide) rfl (fun ls hl => ?_)
  refine lv_iload_n hx hb dX5_havingBelow_21 rfl (lv_at hl 2 rfl) ?_
  refine lv_iload hx hb dX5_havingBelow_22 (lv_at hl 0 rfl) ?_
  refine lv_icmp_lt (tgt := 48) hx hb dX5_havingBelow_24 (by decide) (fun k24 => ?_) (fun k24 => ?_)
  · replace hF := (if_pos k24).symm.trans hF
    refine lv_aload_n hx hb dX5_havingBelow_48 rfl (lv_at hl 1 rfl) ?_
    refine lv_iload_n hx hb dX5_havingBelow_49 rfl (lv_at hl 2 rfl) ?_
    obtain ⟨r50, hr50, hF⟩ := opb hF
    refine kVV (As := [.int x1]) (rest := []) (ws' := (wd_X5_havingBelow cI a_t a_row a_work a_rest a_bag a_smooth a_text a_saves a_bag_often a_row_signs a_work_signs c_gone r50.1 r50.2.1 c_row_length c_row_signs r50.2.2.1 r50.2.2.2)) ⟨hx, hb, hml, hown, hts⟩ (c_X5_layOut l D cI a_t a_row a_work a_rest a_bag a_smooth a_text a_saves a_bag_often a_row_signs a_work_signs H.size c_gone r9.1 r9.2 c_row_length c_row_signs c_work_length c_work_signs x1 r50 hr50) (cwV 1 hts mw_X5_213 rfl rfl rfl hd_X5_layOut ⟨Nat.le_of_ble_eq_true rfl, Nat.le_of_ble_eq_true rfl⟩) hS hA hG hK hP hD [0, 1, 2, 3, 4, 5, 6] rfl rfl rfl rfl rfl ⟨Nat.zero_le _, Nat.zero_le _⟩ 5 0 rfl rfl rfl rfl hl.1 rfl (Nat.le_of_ble_eq_true rfl) dX5_havingBelow_50 (fun H locs hP hD hS => ?_)
    refine lv_iconst (v := 0) hx hb dX5_havingBelow_53 (by decide) ?_
    refine lv_istore (lv' := [(5, .int (0 : Int32)), (4, .int r16), (0, .ref a_t), (1, .int x1), (2, .int x2), (3, .int x3)]) hx hb dX5_havingBelow_54 hl (by decide) rfl (fun ls hl => ?_)
    refine lv_iconst (v := 0) hx hb dX5_havingBelow_56 (by decide) ?_
    refine lv_istore (lv' := [(6, .int (0 : Int32)), (5, .int (0 : Int32)), (4, .int r16), (0, .ref a_t), (1, .int x1), (2, .int x2), (3, .int x3)]) hx hb dX5_havingBelow_57 hl (by decide) rfl (fun ls hl => ?_)
    exact K59 FU r50.1 r50.2.1 r50.2.2.1 r50.2.2.2 (0 : Int32) (0 : Int32) H locs ls hP hD hS (lv_sub hl [3, 5, 6, 1, 0] rfl) hF
  · replace hF := (if_neg k24).symm.trans hF
    refine lv_iload hx hb dX5_havingBelow_27 (lv_at hl 0 rfl) ?_
    refine lv_aload_n hx hb dX5_havingBelow_29 rfl (lv_at hl 1 rfl) ?_
    refine get_X5_25 hx hb hts hown hK hP 0 rfl rfl dX5_havingBelow_30 ?_
    refine lv_iload_n hx hb dX5_havingBelow_33 rfl (lv_at hl 4 rfl) ?_
    obtain ⟨r34, hr34, hF⟩ := opb hF
    refine kVI (As := [.int x3]) (rest := [.int r16]) (ws' := (wd_X5_havingBelow cI a_t a_row a_work a_rest a_bag a_smooth a_text a_saves a_bag_often a_row_signs a_work_signs c_gone r9.1 r9.2 c_row_length c_row_signs c_work_length c_work_signs)) ⟨hx, hb, hml, hown, hts⟩ (c_X0_of l D cI a_bag a_bag_often H.size r9.1 r9.2 x3 r34 hr34) (cwV 1 hts mw_X5_178 rfl rfl rfl hd_X0_of ⟨Nat.le_of_ble_eq_true rfl, Nat.le_of_ble_eq_true rfl⟩) hS hA hG hK hP hD [1, 2] rfl rfl rfl rfl rfl ⟨Nat.zero_le _, Nat.zero_le _⟩ 0 1 rfl rfl rfl rfl hl.1 rfl (Nat.le_of_ble_eq_true rfl) dX5_havingBelow_34 (fun H locs hP hD hS => ?_)
    refine lv_aload_n hx hb dX5_havingBelow_37 rfl (lv_at hl 1 rfl) ?_
    refine get_X5_25 hx hb hts hown hK hP 0 rfl rfl dX5_havingBelow_38 ?_
    obtain ⟨r41, hr41, hF⟩ := opb hF
    refine kVI (As := []) (rest := [.int r34, .int r16]) (ws' := (wd_X5_havingBelow cI a_t a_row a_work a_rest a_bag a_smooth a_text a_saves a_bag_often a_row_signs a_work_signs c_gone r9.1 r9.2 c_row_length c_row_signs c_work_length c_work_signs)) ⟨hx, hb, hml, hown, hts⟩ (c_X0_total l D cI a_bag a_bag_often H.size r9.1  r41 hr41) (cwV 0 hts mw_X5_295 rfl rfl rfl hd_X0_total ⟨Nat.le_of_ble_eq_true rfl, Nat.le_of_ble_eq_true rfl⟩) hS hA hG hK hP hD [1] rfl rfl rfl rfl rfl ⟨Nat.zero_le _, Nat.zero_le _⟩ 0 1 rfl rfl rfl rfl hl.1 rfl (Nat.le_of_ble_eq_true rfl) dX5_havingBelow_41 (fun H locs hP hD hS => ?_)
    obtain ⟨r44, hr44, hF⟩ := opb hF
    refine kSI (As := [.int r16, .int r34, .int r41]) (rest := []) (ws' := (wd_X5_havingBelow cI a_t a_row a_work a_rest a_bag a_smooth a_text a_saves a_bag_often a_row_signs a_work_signs c_gone r9.1 r9.2 c_row_length c_row_signs c_work_length c_work_signs)) ⟨hx, hb, hml, hown, hts⟩ (c_X5_part l D cI  H.size  r16 r34 r41 r44 hr44) (va_cwS 3 hts mw_X5_298 rfl rfl rfl hd_X5_part ⟨Nat.le_of_ble_eq_true rfl, Nat.le_of_ble_eq_true rfl⟩) hS hA hG hK hP hD [] rfl rfl rfl rfl rfl ⟨Nat.zero_le _, Nat.zero_le _⟩ rfl hl.1 rfl (Nat.le_of_ble_eq_true rfl) dX5_havingBelow_44 (fun H locs hP hD hS => ?_)
    have ho := Option.some.inj hF
    exact hret H locs ls 47 r44 _ hP hS (by rw [← ho]) (by rw [← ho]) dX5_havingBelow_47
abbrev wd_X5_having (cI : ClassId) (a_t a_row a_work a_rest a_bag a_smooth a_text a_saves a_bag_often a_row_signs a_work_signs : Nat) (c_gone : Int32) (c_bag_total : Int32) (c_bag_often : Nat → Int32) (c_row_length : Int32) (c_row_signs : Nat → Int32) (c_work_length : Int32) (c_work_signs : Nat → Int32) : va_W := [(a_t, .inr (5, [.ref a_row, .ref a_work, .ref a_rest, .ref a_bag, .ref a_smooth, .ref a_text, .ref a_saves, .int c_gone])), (a_bag, .inr (0, [.ref a_bag_often, .int c_bag_total])), (a_bag_often, .inl (cI, 6, .inl c_bag_often)), (a_row, .inr (1, [.ref a_row_signs, .int c_row_length])), (a_row_signs, .inl (cI, 11, .inl c_row_signs)), (a_work, .inr (1, [.ref a_work_signs, .int c_work_length])), (a_work_signs, .inl (cI, 11, .inl c_work_signs))]
def rm_X5_having : Room := { frames := 5, cells := 0, slots := 0, locals := 118 }
set_option maxHeartbeats 4000000 in
set_option maxRecDepth 100000 in
theorem c_X5_having (l : Launch) (D : va_G) (cI : ClassId) (a_t a_row a_work a_rest a_bag a_smooth a_text a_saves a_bag_often a_row_signs a_work_signs : Nat) (sz : Nat) (c_gone : Int32) (c_bag_total : Int32) (c_bag_often : Nat → Int32) (c_row_length : Int32) (c_row_signs : Nat → Int32) (c_work_length : Int32) (c_work_signs : Nat → Int32) (x1 : Int32) (x2 : Int32) (x3 : Int32) (x4 : Int32) (o : Int32 × Int32 × (Nat → Int32) × Int32 × (Nat → Int32)) (hF : F_X5_having c_bag_total c_bag_often c_row_length c_row_signs c_work_length c_work_signs x1 x2 x3 x4 = some o) : Met l yX5_having (Cond.code yX5_having cX5_having 5 (some .int) :: WL) rm_X5_having (preM D [(cI, .int)] (wd_X5_having cI a_t a_row a_work a_rest a_bag a_smooth a_text a_saves a_bag_often a_row_signs a_work_signs c_gone c_bag_total c_bag_often c_row_length c_row_signs c_work_length c_work_signs) sz [.ref a_t, .int x1, .int x2, .int x3, .int x4]) (postI D o.1 (wd_X5_having cI a_t a_row a_work a_rest a_bag a_smooth a_text a_saves a_bag_often a_row_signs a_work_signs c_gone o.2.1 o.2.2.1 c_row_length c_row_signs o.2.2.2.1 o.2.2.2.2) (wd_X5_having cI a_t a_row a_work a_rest a_bag a_smooth a_text a_saves a_bag_often a_row_signs a_work_signs c_gone c_bag_total c_bag_often c_row_length c_row_signs c_work_length c_work_signs) sz) 0 0 (va_A (wd_X5_having cI a_t a_row a_work a_rest a_bag a_smooth a_text a_saves a_bag_often a_row_signs a_work_signs c_gone c_bag_total c_bag_often c_row_length c_row_signs c_work_length c_work_signs) sz) := by
  refine mofI (by decide +kernel) (Nat.le_of_ble_eq_true rfl) ?_
  intro p e s m args below meth c Q A ls hx hb hml hown hts hK hP hD hS hA hG hl hret hsz0
  have hl : lv_has ls 5 [(0, .ref a_t), (1, .int x1), (2, .int x2), (3, .int x3), (4, .int x4)] := hl
  have K27 : ∀ (c_bag_total : Int32) (c_bag_often : Nat → Int32) (c_work_length : Int32) (c_work_signs : Nat → Int32) (v0 : Int32)  (H : Heap) (locs : List Loc) (ls : Array Slot), va_P D vwCl (wd_X5_having cI a_t a_row a_work a_rest a_bag a_smooth a_text a_saves a_bag_often a_row_signs a_work_signs c_gone c_bag_total c_bag_often c_row_length c_row_signs c_work_length c_work_signs) H → va_D A (wd_X5_having cI a_t a_row a_work a_rest a_bag a_smooth a_text a_saves a_bag_often a_row_signs a_work_signs c_gone c_bag_total c_bag_often c_row_length c_row_signs c_work_length c_work_signs) → va_S A s.heap H locs → lv_has ls 5 [(0, .ref a_t), (1, .int x1), (2, .int x2), (3, .int x3), (4, .int x4)] → F_X5_having_J27 c_row_length c_row_signs x1 x2 x3 x4 c_bag_total c_bag_often c_work_length c_work_signs v0 = some o → W p l e rm_X5_having s m args below meth c H locs 0 0 Q (F0 m 27 ls [.int v0]) := by
    intro c_bag_total c_bag_often c_work_length c_work_signs v0 H locs ls hP hD hS hl hF
    unfold F_X5_having_J27 at hF
    obtain ⟨r27, hr27, hF⟩ := opb hF
    refine kSV (As := [.int v0]) (rest := []) (ws' := (wd_X5_having cI a_t a_row a_work a_rest a_bag a_smooth a_text a_saves a_bag_often a_row_signs a_work_signs c_gone c_bag_total c_bag_often c_row_length c_row_signs c_work_length c_work_signs)) ⟨hx, hb, hml, hown, hts⟩ (c_X5_need l D cI  H.size  v0 r27 hr27) (va_cwS 1 hts mw_X5_112 rfl rfl rfl hd_X5_need ⟨Nat.le_of_ble_eq_true rfl, Nat.le_of_ble_eq_true rfl⟩) hS hA hG hK hP hD [] rfl rfl rfl rfl rfl ⟨Nat.zero_le _, Nat.zero_le _⟩ rfl hl.1 rfl (Nat.le_of_ble_eq_true rfl) dX5_having_27 (fun H locs hP hD hS => ?_)
    refine lv_iload hx hb dX5_having_30 (lv_at hl 4 rfl) ?_
    obtain ⟨r32, hr32, hF⟩ := opb hF
    refine kSV (As := [.int x4]) (rest := []) (ws' := (wd_X5_having cI a_t a_row a_work a_rest a_bag a_smooth a_text a_saves a_bag_often a_row_signs a_work_signs c_gone c_bag_total c_bag_often c_row_length c_row_signs c_work_length c_work_signs)) ⟨hx, hb, hml, hown, hts⟩ (c_X5_needSign l D cI  H.size  x4 r32 hr32) (va_cwS 1 hts mw_X5_127 rfl rfl rfl hd_X5_needSign ⟨Nat.le_of_ble_eq_true rfl, Nat.le_of_ble_eq_true rfl⟩) hS hA hG hK hP hD [] rfl rfl rfl rfl rfl ⟨Nat.zero_le _, Nat.zero_le _⟩ rfl hl.1 rfl (Nat.le_of_ble_eq_true rfl) dX5_having_32 (fun H locs hP hD hS => ?_)
    refine lv_aload_n hx hb dX5_having_35 rfl (lv_at hl 0 rfl) ?_
    refine lv_iload_n hx hb dX5_having_36 rfl (lv_at hl 2 rfl) ?_
    refine lv_iload_n hx hb dX5_having_37 rfl (lv_at hl 3 rfl) ?_
    refine lv_iload hx hb dX5_having_38 (lv_at hl 4 rfl) ?_
    obtain ⟨r40, hr40, hF⟩ := opb hF
    refine kVI (As := [.int x2, .int x3, .int x4]) (rest := []) (ws' := (wd_X5_having cI a_t a_row a_work a_rest a_bag a_smooth a_text a_saves a_bag_often a_row_signs a_work_signs c_gone r40.2.1 r40.2.2.1 c_row_length c_row_signs r40.2.2.2.1 r40.2.2.2.2)) ⟨hx, hb, hml, hown, hts⟩ (c_X5_havingBelow l D cI a_t a_row a_work a_rest a_bag a_smooth a_text a_saves a_bag_often a_row_signs a_work_signs H.size c_gone c_bag_total c_bag_often c_row_length c_row_signs c_work_length c_work_signs x2 x3 x4 r40 hr40) (cwV 3 hts mw_X5_216 rfl rfl rfl hd_X5_havingBelow ⟨Nat.le_of_ble_eq_true rfl, Nat.le_of_ble_eq_true rfl⟩) hS hA hG hK hP hD [0, 1, 2, 3, 4, 5, 6] rfl rfl rfl rfl rfl ⟨Nat.zero_le _, Nat.zero_le _⟩ 5 0 rfl rfl rfl rfl hl.1 rfl (Nat.le_of_ble_eq_true rfl) dX5_having_40 (fun H locs hP hD hS => ?_)
    refine lv_aload_n hx hb dX5_having_43 rfl (lv_at hl 0 rfl) ?_
    refine lv_iload_n hx hb dX5_having_44 rfl (lv_at hl 1 rfl) ?_
    refine lv_iload_n hx hb dX5_having_45 rfl (lv_at hl 3 rfl) ?_
    refine lv_iload hx hb dX5_having_46 (lv_at hl 4 rfl) ?_
    obtain ⟨r48, hr48, hF⟩ := opb hF
    refine kVI (As := [.int x1, .int x3, .int x4]) (rest := [.int r40.1]) (ws' := (wd_X5_having cI a_t a_row a_work a_rest a_bag a_smooth a_text a_saves a_bag_often a_row_signs a_work_signs c_gone r48.2.1 r48.2.2.1 c_row_length c_row_signs r48.2.2.2.1 r48.2.2.2.2)) ⟨hx, hb, hml, hown, hts⟩ (c_X5_havingBelow l D cI a_t a_row a_work a_rest a_bag a_smooth a_text a_saves a_bag_often a_row_signs a_work_signs H.size c_gone r40.2.1 r40.2.2.1 c_row_length c_row_signs r40.2.2.2.1 r40.2.2.2.2 x1 x3 x4 r48 hr48) (cwV 3 hts mw_X5_216 rfl rfl rfl hd_X5_havingBelow ⟨Nat.le_of_ble_eq_true rfl, Nat.le_of_ble_eq_true rfl⟩) hS hA hG hK hP hD [0, 1, 2, 3, 4, 5, 6] rfl rfl rfl rfl rfl ⟨Nat.zero_le _, Nat.zero_le _⟩ 5 0 rfl rfl rfl rfl hl.1 rfl (Nat.le_of_ble_eq_true rfl) dX5_having_48 (fun H locs hP hD hS => ?_)
    refine lv_isub hx hb dX5_having_51 ?_
    have ho := Option.some.inj hF
    exact hret H locs ls 52 (r40.1 - r48.1) _ hP hS (by rw [← ho]) (by rw [← ho]) dX5_having_52
  unfold F_X5_having at hF
  have hP : va_P D vwCl (wd_X5_having cI a_t a_row a_work a_rest a_bag a_smooth a_text a_saves a_bag_often a_row_signs a_work_signs c_gone c_bag_total c_bag_often c_row_length c_row_signs c_work_length c_work_signs) s.heap := hP
  obtain ⟨H, hH⟩ : ∃ H, H = s.heap := ⟨_, rfl⟩
  rw [← hH]
  rw [← hH] at hP
  obtain ⟨locs, hlo⟩ : ∃ z : List Loc, z = [] := ⟨_, rfl⟩
  rw [← hlo]
  have hS : va_S A s.heap H locs := by rw [hH, hlo]; exact hS
  refine lv_aload_n hx hb dX5_having_0 rfl (lv_at hl 0 rfl) ?_
  refine lv_iload_n hx hb dX5_having_1 rfl (lv_at hl 3 rfl) ?_
  obtain ⟨r2, hr2, hF⟩ := opb hF
  refine kVV (As := [.int x3]) (rest := []) (ws' := (wd_X5_having cI a_t a_row a_work a_rest a_bag a_smooth a_text a_saves a_bag_often a_row_signs a_work_signs c_gone c_bag_total c_bag_often c_row_length c_row_signs c_work_length c_work_signs)) ⟨hx, hb, hml, hown, hts⟩ (c_X5_needPlace l D cI a_t a_row a_work a_rest a_bag a_smooth a_text a_saves a_row_signs H.size c_gone c_row_length x3 r2 hr2) (cwV 1 hts mw_X5_102 rfl rfl rfl hd_X5_needPlace ⟨Nat.le_of_ble_eq_true rfl, Nat.le_of_ble_eq_true rfl⟩) hS hA hG hK hP hD [0, 3] rfl rfl rfl rfl rfl ⟨Nat.zero_le _, Nat.zero_le _⟩ 5 0 rfl rfl rfl rfl hl.1 rfl (Nat.le_of_ble_eq_true rfl) dX5_having_2 (fun H locs hP hD hS => ?_)
  refine lv_iload_n hx hb dX5_having_5 rfl (lv_at hl 1 rfl) ?_
  refine lv_if_lt (tgt := 26) hx hb dX5_having_6 (by decide) (fun k6 => ?_) (fun k6 => ?_)
  · replace hF := (if_pos k6).symm.trans hF
    refine lv_iconst (v := 0) hx hb dX5_having_26 (by decide) ?_
    exact K27 c_bag_total c_bag_often c_work_length c_work_signs (0 : Int32) H locs ls hP hD hS (lv_sub hl [0, 1, 2, 3, 4] rfl) hF
  · replace hF := (if_neg k6).symm.trans hF
    refine lv_iload_n hx hb dX5_having_9 rfl (lv_at hl 1 rfl) ?_
    refine lv_iload_n hx hb dX5_having_10 rfl (lv_at hl 2 rfl) ?_
    refine lv_icmp_gt (tgt := 26) hx hb dX5_having_11 (by decide) (fun k11 => ?_) (fun k11 => ?_)
    · replace hF := (if_pos k11).symm.trans hF
      refine lv_iconst (v := 0) hx hb dX5_having_26 (by decide) ?_
      exact K27 c_bag_total c_bag_often c_work_length c_work_signs (0 : Int32) H locs ls hP hD hS (lv_sub hl [0, 1, 2, 3, 4] rfl) hF
    · replace hF := (if_neg k11).symm.trans hF
      refine lv_iload_n hx hb dX5_having_14 rfl (lv_at hl 2 rfl) ?_
      refine lv_aload_n hx hb dX5_having_15 rfl (lv_at hl 0 rfl) ?_
      obtain ⟨r16, hr16, hF⟩ := opb hF
      refine kVI (As := []) (rest := [.int x2]) (ws' := (wd_X5_having cI a_t a_row a_work a_rest a_bag a_smooth a_text a_saves a_bag_often a_row_signs a_work_signs c_gone r16.2.1 r16.2.2 c_row_length c_row_signs c_work_length c_work_signs)) ⟨hx, hb, hml, hown, hts⟩ (c_X5_all l D cI a_t a_row a_work a_rest a_bag a_smooth a_text a_saves a_bag_often a_row_signs H.size c_gone c_bag_total c_bag_often c_row_length c_row_signs  r16 hr16) (cwV 0 hts mw_X5_65 rfl rfl rfl hd_X5_all ⟨Nat.le_of_ble_eq_true rfl, Nat.le_of_ble_eq_true rfl⟩) hS hA hG hK hP hD [0, 1, 2, 3, 4] rfl rfl rfl rfl rfl ⟨Nat.zero_le _, Nat.zero_le _⟩ 5 0 rfl rfl rfl rfl hl.1 rfl (Nat.le_of_ble_eq_true rfl) dX5_having_16 (fun H locs hP hD hS => ?_)
      refine lv_icmp_gt (tgt := 26) hx hb dX5_having_19 (by decide) (fun k19 => ?_) (fun k19 => ?_)
      · (try simp only [if_pos k19] at hF)
        refine lv_iconst (v := 0) hx hb dX5_having_26 (by decide) ?_
        exact K27 r16.2.1 r16.2.2 c_work_length c_work_signs (0 : Int32) H locs ls hP hD hS (lv_sub hl [0, 1, 2, 3, 4] rfl) hF
      · (try simp only [if_neg k19] at hF)
        refine lv_iconst (v := 1) hx hb dX5_having_22 (by decide) ?_
        refine lv_goto (tgt := 27) hx hb dX5_having_23 (by decide) ?_
        exact K27 r16.2.1 r16.2.2 c_work_length c_work_signs (1 : Int32) H locs ls hP hD hS (lv_sub hl [0, 1, 2, 3, 4] rfl) hF
abbrev wd_X5_stepsTo (cI : ClassId) (a_t a_row a_work a_rest a_bag a_smooth a_text a_saves a_bag_often a_rest_signs a_row_signs a_work_signs : Nat) (c_gone : Int32) (c_bag_total : Int32) (c_bag_often : Nat → Int32) (c_rest_length : Int32) (c_rest_signs : Nat → Int32) (c_row_length : Int32) (c_row_signs : Nat → Int32) (c_work_length : Int32) (c_work_signs : Nat → Int32) : va_W := [(a_t, .inr (5, [.ref a_row, .ref a_work, .ref a_rest, .ref a_bag, .ref a_smooth, .ref a_text, .ref a_saves, .int c_gone])), (a_bag, .inr (0, [.ref a_bag_often, .int c_bag_total])), (a_bag_often, .inl (cI, 6, .inl c_bag_often)), (a_rest, .inr (1, [.ref a_rest_signs, .int c_rest_length])), (a_rest_signs, .inl (cI, 11, .inl c_rest_signs)), (a_row, .inr (1, [.ref a_row_signs, .int c_row_length])), (a_row_signs, .inl (cI, 11, .inl c_row_signs)), (a_work, .inr (1, [.ref a_work_signs, .int c_work_length])), (a_work_signs, .inl (cI, 11, .inl c_work_signs))]
def rm_X5_stepsTo : Room := { frames := 5, cells := 0, slots := 0, locals := 106 }
set_option maxHeartbeats 4000000 in
set_option maxRecDepth 100000 in
theorem c_X5_stepsTo (l : Launch) (D : va_G) (cI : ClassId) (a_t a_row a_work a_rest a_bag a_smooth a_text a_saves a_bag_often a_rest_signs a_row_signs a_work_signs : Nat) (sz : Nat) (c_gone : Int32) (c_bag_total : Int32) (c_bag_often : Nat → Int32) (c_rest_length : Int32) (c_rest_signs : Nat → Int32) (c_row_length : Int32) (c_row_signs : Nat → Int32) (c_work_length : Int32) (c_work_signs : Nat → Int32) (x1 : Int32) (o : Int32 × Int32 × (Nat → Int32) × Int32 × (Nat → Int32) × Int32 × (Nat → Int32)) (hF : F_X5_stepsTo c_bag_total c_bag_often c_rest_length c_rest_signs c_row_length c_row_signs c_work_length c_work_signs x1 = some o) : Met l yX5_stepsTo (Cond.code yX5_stepsTo cX5_stepsTo 5 (some .int) :: WL) rm_X5_stepsTo (preM D [(cI, .int)] (wd_X5_stepsTo cI a_t a_row a_work a_rest a_bag a_smooth a_text a_saves a_bag_often a_rest_signs a_row_signs a_work_signs c_gone c_bag_total c_bag_often c_rest_length c_rest_signs c_row_length c_row_signs c_work_length c_work_signs) sz [.ref a_t, .int x1]) (postI D o.1 (wd_X5_stepsTo cI a_t a_row a_work a_rest a_bag a_smooth a_text a_saves a_bag_often a_rest_signs a_row_signs a_work_signs c_gone o.2.1 o.2.2.1 o.2.2.2.1 o.2.2.2.2.1 c_row_length c_row_signs o.2.2.2.2.2.1 o.2.2.2.2.2.2) (wd_X5_stepsTo cI a_t a_row a_work a_rest a_bag a_smooth a_text a_saves a_bag_often a_rest_signs a_row_signs a_work_signs c_gone c_bag_total c_bag_often c_rest_length c_rest_signs c_row_length c_row_signs c_work_length c_work_signs) sz) 0 0 (va_A (wd_X5_stepsTo cI a_t a_row a_work a_rest a_bag a_smooth a_text a_saves a_bag_often a_rest_signs a_row_signs a_work_signs c_gone c_bag_total c_bag_often c_rest_length c_rest_signs c_row_length c_row_signs c_work_length c_work_signs) sz) := by
  refine mofI (by decide +kernel) (Nat.le_of_ble_eq_true rfl) ?_
  intro p e s m args below meth c Q A ls hx hb hml hown hts hK hP hD hS hA hG hl hret hsz0
  have hl : lv_has ls 5 [(0, .ref a_t), (1, .int x1)] := hl
  have K25 : ∀ (n25 : Nat) (c_bag_total : Int32) (c_bag_often : Nat → Int32) (c_rest_length : Int32) (c_rest_signs : Nat → Int32) (c_work_length : Int32) (c_work_signs : Nat → Int32) (x2 : Int32) (x3 : Int32) (H : Heap) (locs : List Loc) (ls : Array Slot), va_P D vwCl (wd_X5_stepsTo cI a_t a_row a_work a_rest a_bag a_smooth a_text a_saves a_bag_often a_rest_signs a_row_signs a_work_signs c_gone c_bag_total c_bag_often c_rest_length c_rest_signs c_row_length c_row_signs c_work_length c_work_signs) H → va_D A (wd_X5_stepsTo cI a_t a_row a_work a_rest a_bag a_smooth a_text a_saves a_bag_often a_rest_signs a_row_signs a_work_signs c_gone c_bag_total c_bag_often c_rest_length c_rest_signs c_row_length c_row_signs c_work_length c_work_signs) → va_S A s.heap H locs → lv_has ls 5 [(0, .ref a_t), (2, .int x2), (3, .int x3)] → F_X5_stepsTo_L25 c_row_length c_row_signs x1 n25 c_bag_total c_bag_often c_rest_length c_rest_signs c_work_length c_work_signs x2 x3 = some o → W p l e rm_X5_stepsTo s m args below meth c H locs 0 0 Q (F0 m 25 ls []) := by
    intro n25
    induction n25 with
    | zero => intro c_bag_total c_bag_often c_rest_length c_rest_signs c_work_length c_work_signs x2 x3 H locs ls hP hD hS hl hF; exact nos hF
    | succ n25 ih25 =>
      intro c_bag_total c_bag_often c_rest_length c_rest_signs c_work_length c_work_signs x2 x3 H locs ls hP hD hS hl hF
      rw [F_X5_stepsTo_L25] at hF
      refine lv_iload_n hx hb dX5_stepsTo_25 rfl (lv_at hl 2 rfl) ?_
      refine lv_aload_n hx hb dX5_stepsTo_26 rfl (lv_at hl 0 rfl) ?_
      refine get_X5_16 hx hb hts hown hK hP 0 rfl rfl dX5_stepsTo_27 ?_
      obtain ⟨r30, hr30, hF⟩ := opb hF
      refine kVI (As := []) (rest := [.int x3]) (ws' := (wd_X5_stepsTo cI a_t a_row a_work a_rest a_bag a_smooth a_text a_saves a_bag_often a_rest_signs a_row_signs a_work_signs c_gone c_bag_total c_bag_often c_rest_length c_rest_signs c_row_length c_row_signs c_work_length c_work_signs)) ⟨hx, hb, hml, hown, hts⟩ (c_X1_length l D cI a_work a_work_signs H.size c_work_length  r30 hr30) (cwV 0 hts mw_X5_79 rfl rfl rfl hd_X1_length ⟨Nat.le_of_ble_eq_true rfl, Nat.le_of_ble_eq_true rfl⟩) hS hA hG hK hP hD [7] rfl rfl rfl rfl rfl ⟨Nat.zero_le _, Nat.zero_le _⟩ 1 7 rfl rfl rfl rfl hl.1 rfl (Nat.le_of_ble_eq_true rfl) dX5_stepsTo_30 (fun H locs hP hD hS => ?_)
      refine lv_icmp_ge (tgt := 77) hx hb dX5_stepsTo_33 (by decide) (fun k33 => ?_) (fun k33 => ?_)
      · replace hF := (if_pos k33).symm.trans hF
        refine lv_iload_n hx hb dX5_stepsTo_77 rfl (lv_at hl 1 rfl) ?_
        have ho := Option.some.inj hF
        exact hret H locs ls 78 x2 _ hP hS (by rw [← ho]) (by rw [← ho]) dX5_stepsTo_78
      · replace hF := (if_neg k33).symm.trans hF
        refine lv_aload_n hx hb dX5_stepsTo_36 rfl (lv_at hl 0 rfl) ?_
        refine get_X5_19 hx hb hts hown hK hP 0 rfl rfl dX5_stepsTo_37 ?_
        refine lv_aload_n hx hb dX5_stepsTo_40 rfl (lv_at hl 0 rfl) ?_
        refine get_X5_16 hx hb hts hown hK hP 0 rfl rfl dX5_stepsTo_41 ?_
        refine lv_iload_n hx hb dX5_stepsTo_44 rfl (lv_at hl 2 rfl) ?_
        obtain ⟨r45, hr45, hF⟩ := opb hF
        refine kVI (As := [.int x3]) (rest := [.ref a_rest]) (ws' := (wd_X5_stepsTo cI a_t a_row a_work a_rest a_bag a_smooth a_text a_saves a_bag_often a_rest_signs a_row_signs a_work_signs c_gone c_bag_total c_bag_often c_rest_length c_rest_signs c_row_length c_row_signs c_work_length c_work_signs)) ⟨hx, hb, hml, hown, hts⟩ (c_X1_at l D cI a_work a_work_signs H.size c_work_length c_work_signs x3 r45 hr45) (cwV 1 hts mw_X5_137 rfl rfl rfl hd_X1_at ⟨Nat.le_of_ble_eq_true rfl, Nat.le_of_ble_eq_true rfl⟩) hS hA hG hK hP hD [7, 8] rfl rfl rfl rfl rfl ⟨Nat.zero_le _, Nat.zero_le _⟩ 1 7 rfl rfl rfl rfl hl.1 rfl (Nat.le_of_ble_eq_true rfl) dX5_stepsTo_45 (fun H locs hP hD hS => ?_)
        refine lv_iload_n hx hb dX5_stepsTo_48 rfl (lv_at hl 2 rfl) ?_
        obtain ⟨r49, hr49, hF⟩ := opb hF
        refine kVI (As := [.int r45, .int x3]) (rest := []) (ws' := (wd_X5_stepsTo cI a_t a_row a_work a_rest a_bag a_smooth a_text a_saves a_bag_often a_rest_signs a_row_signs a_work_signs c_gone c_bag_total c_bag_often c_rest_length c_rest_signs c_row_length c_row_signs c_work_length c_work_signs)) ⟨hx, hb, hml, hown, hts⟩ (c_X1_find l D cI a_rest a_rest_signs H.size c_rest_length c_rest_signs r45 x3 r49 hr49) (cwV 2 hts mw_X5_223 rfl rfl rfl hd_X1_find ⟨Nat.le_of_ble_eq_true rfl, Nat.le_of_ble_eq_true rfl⟩) hS hA hG hK hP hD [3, 4] rfl rfl rfl rfl rfl ⟨Nat.zero_le _, Nat.zero_le _⟩ 1 3 rfl rfl rfl rfl hl.1 rfl (Nat.le_of_ble_eq_true rfl) dX5_stepsTo_49 (fun H locs hP hD hS => ?_)
        refine lv_istore (lv' := [(4, .int r49), (0, .ref a_t), (2, .int x2), (3, .int x3)]) hx hb dX5_stepsTo_52 hl (by decide) rfl (fun ls hl => ?_)
        refine lv_aload_n hx hb dX5_stepsTo_54 rfl (lv_at hl 1 rfl) ?_
        refine get_X5_19 hx hb hts hown hK hP 0 rfl rfl dX5_stepsTo_55 ?_
        refine lv_iload hx hb dX5_stepsTo_58 (lv_at hl 0 rfl) ?_
        refine lv_iload_n hx hb dX5_stepsTo_60 rfl (lv_at hl 3 rfl) ?_
        obtain ⟨r61, hr61, hF⟩ := opb hF
        refine kVV (As := [.int r49, .int x3]) (rest := []) (ws' := (wd_X5_stepsTo cI a_t a_row a_work a_rest a_bag a_smooth a_text a_saves a_bag_often a_rest_signs a_row_signs a_work_signs c_gone c_bag_total c_bag_often c_rest_length r61 c_row_length c_row_signs c_work_length c_work_signs)) ⟨hx, hb, hml, hown, hts⟩ (c_X1_bringAhead l D cI a_rest a_rest_signs H.size c_rest_length c_rest_signs r49 x3 r61 hr61) (cwV 2 hts mw_X5_226 rfl rfl rfl hd_X1_bringAhead ⟨Nat.le_of_ble_eq_true rfl, Nat.le_of_ble_eq_true rfl⟩) hS hA hG hK hP hD [3, 4] rfl rfl rfl rfl rfl ⟨Nat.zero_le _, Nat.zero_le _⟩ 1 3 rfl rfl rfl rfl hl.1 rfl (Nat.le_of_ble_eq_true rfl) dX5_stepsTo_61 (fun H locs hP hD hS => ?_)
        refine lv_iload_n hx hb dX5_stepsTo_64 rfl (lv_at hl 2 rfl) ?_
        refine lv_iload hx hb dX5_stepsTo_65 (lv_at hl 0 rfl) ?_
        refine lv_iload_n hx hb dX5_stepsTo_67 rfl (lv_at hl 3 rfl) ?_
        refine lv_isub hx hb dX5_stepsTo_68 ?_
        refine lv_iadd hx hb dX5_stepsTo_69 ?_
        refine lv_istore_n (lv' := [(2, .int (x2 + (r49 - x3))), (4, .int r49), (0, .ref a_t), (3, .int x3)]) hx hb dX5_stepsTo_70 rfl hl (by decide) rfl (fun ls hl => ?_)
        refine lv_iinc (v := x3 + 1) (lv' := [(3, .int (x3 + 1)), (2, .int (x2 + (r49 - x3))), (4, .int r49), (0, .ref a_t)]) hx hb dX5_stepsTo_71 hl (k := 3) rfl rfl (by decide) rfl (fun ls hl => ?_)
        refine lv_goto (tgt := 25) hx hb dX5_stepsTo_74 (by decide) ?_
        exact ih25 c_bag_total c_bag_often c_rest_length r61 c_work_length c_work_signs (x2 + (r49 - x3)) (x3 + 1) H locs ls hP hD hS (lv_sub hl [3, 1, 0] rfl) hF
  unfold F_X5_stepsTo at hF
  have hP : va_P D vwCl (wd_X5_stepsTo cI a_t a_row a_work a_rest a_bag a_smooth a_text a_saves a_bag_often a_rest_signs a_row_signs a_work_signs c_gone c_bag_total c_bag_often c_rest_length c_rest_signs c_row_length c_row_signs c_work_length c_work_signs) s.heap := hP
  obtain ⟨H, hH⟩ : ∃ H, H = s.heap := ⟨_, rfl⟩
  rw [← hH]
  rw [← hH] at hP
  obtain ⟨locs, hlo⟩ : ∃ z : List Loc, z = [] := ⟨_, rfl⟩
  rw [← hlo]
  have hS : va_S A s.heap H locs := by rw [hH, hlo]; exact hS
  refine lv_aload_n hx hb dX5_stepsTo_0 rfl (lv_at hl 0 rfl) ?_
  refine lv_iload_n hx hb dX5_stepsTo_1 rfl (lv_at hl 1 rfl) ?_
  obtain ⟨r2, hr2, hF⟩ := opb hF
  refine kVV (As := [.int x1]) (rest := []) (ws' := (wd_X5_stepsTo cI a_t a_row a_work a_rest a_bag a_smooth a_text a_saves a_bag_often a_rest_signs a_row_signs a_work_signs c_gone r2.1 r2.2 c_rest_length c_rest_signs c_row_length c_row_signs c_work_length c_work_signs)) ⟨hx, hb, hml, hown, hts⟩ (c_X5_needRank l D cI a_t a_row a_work a_rest a_bag a_smooth a_text a_saves a_bag_often a_row_signs H.size c_gone c_bag_total c_bag_often c_row_length c_row_signs x1 r2 hr2) (cwV 1 hts mw_X5_54 rfl rfl rfl hd_X5_needRank ⟨Nat.le_of_ble_eq_true rfl, Nat.le_of_ble_eq_true rfl⟩) hS hA hG hK hP hD [0, 1, 2, 5, 6] rfl rfl rfl rfl rfl ⟨Nat.zero_le _, Nat.zero_le _⟩ 5 0 rfl rfl rfl rfl hl.1 rfl (Nat.le_of_ble_eq_true rfl) dX5_stepsTo_2 (fun H locs hP hD hS => ?_)
  refine lv_aload_n hx hb dX5_stepsTo_5 rfl (lv_at hl 0 rfl) ?_
  refine lv_iload_n hx hb dX5_stepsTo_6 rfl (lv_at hl 1 rfl) ?_
  obtain ⟨r7, hr7, hF⟩ := opb hF
  refine kVV (As := [.int x1]) (rest := []) (ws' := (wd_X5_stepsTo cI a_t a_row a_work a_rest a_bag a_smooth a_text a_saves a_bag_often a_rest_signs a_row_signs a_work_signs c_gone r7.1 r7.2.1 c_rest_length c_rest_signs c_row_length c_row_signs r7.2.2.1 r7.2.2.2)) ⟨hx, hb, hml, hown, hts⟩ (c_X5_layOut l D cI a_t a_row a_work a_rest a_bag a_smooth a_text a_saves a_bag_often a_row_signs a_work_signs H.size c_gone r2.1 r2.2 c_row_length c_row_signs c_work_length c_work_signs x1 r7 hr7) (cwV 1 hts mw_X5_213 rfl rfl rfl hd_X5_layOut ⟨Nat.le_of_ble_eq_true rfl, Nat.le_of_ble_eq_true rfl⟩) hS hA hG hK hP hD [0, 1, 2, 5, 6, 7, 8] rfl rfl rfl rfl rfl ⟨Nat.zero_le _, Nat.zero_le _⟩ 5 0 rfl rfl rfl rfl hl.1 rfl (Nat.le_of_ble_eq_true rfl) dX5_stepsTo_7 (fun H locs hP hD hS => ?_)
  refine lv_aload_n hx hb dX5_stepsTo_10 rfl (lv_at hl 0 rfl) ?_
  refine get_X5_19 hx hb hts hown hK hP 0 rfl rfl dX5_stepsTo_11 ?_
  refine lv_aload_n hx hb dX5_stepsTo_14 rfl (lv_at hl 0 rfl) ?_
  refine get_X5_10 hx hb hts hown hK hP 0 rfl rfl dX5_stepsTo_15 ?_
  obtain ⟨r18, hr18, hF⟩ := opb hF
  refine kVV (As := [.ref a_row]) (rest := []) (ws' := (wd_X5_stepsTo cI a_t a_row a_work a_rest a_bag a_smooth a_text a_saves a_bag_often a_rest_signs a_row_signs a_work_signs c_gone r7.1 r7.2.1 r18.1 r18.2 c_row_length c_row_signs r7.2.2.1 r7.2.2.2)) ⟨hx, hb, hml, hown, hts⟩ (c_X1_become l D cI a_rest a_row a_rest_signs a_row_signs H.size c_rest_length c_rest_signs c_row_length c_row_signs  r18 hr18) (cwV 1 hts mw_X5_220 rfl rfl rfl hd_X1_become ⟨Nat.le_of_ble_eq_true rfl, Nat.le_of_ble_eq_true rfl⟩) hS hA hG hK hP hD [3, 4, 5, 6] rfl rfl rfl rfl rfl ⟨Nat.zero_le _, Nat.zero_le _⟩ 1 3 rfl rfl rfl rfl hl.1 rfl (Nat.le_of_ble_eq_true rfl) dX5_stepsTo_18 (fun H locs hP hD hS => ?_)
  refine lv_iconst (v := 0) hx hb dX5_stepsTo_21 (by decide) ?_
  refine lv_istore_n (lv' := [(2, .int (0 : Int32)), (0, .ref a_t), (1, .int x1)]) hx hb dX5_stepsTo_22 rfl hl (by decide) rfl (fun ls hl => ?_)
  refine lv_iconst (v := 0) hx hb dX5_stepsTo_23 (by decide) ?_
  refine lv_istore_n (lv' := [(3, .int (0 : Int32)), (2, .int (0 : Int32)), (0, .ref a_t), (1, .int x1)]) hx hb dX5_stepsTo_24 rfl hl (by decide) rfl (fun ls hl => ?_)
  exact K25 FU r7.1 r7.2.1 r18.1 r18.2 r7.2.2.1 r7.2.2.2 (0 : Int32) (0 : Int32) H locs ls hP hD hS (lv_sub hl [2, 1, 0] rfl) hF
abbrev wd_X5_bestSwap (cI : ClassId) (a_t a_row a_work a_rest a_bag a_smooth a_text a_saves a_bag_often a_row_signs a_work_signs : Nat) (c_gone : Int32) (c_bag_total : Int32) (c_bag_often : Nat → Int32) (c_row_length : Int32) (c_row_signs : Nat → Int32) (c_work_length : Int32) (c_work_signs : Nat → Int32) : va_W := [(a_t, .inr (5, [.ref a_row, .ref a_work, .ref a_rest, .ref a_bag, .ref a_smooth, .ref a_text, .ref a_saves, .int c_gone])), (a_bag, .inr (0, [.ref a_bag_often, .int c_bag_total])), (a_bag_often, .inl (cI, 6, .inl c_bag_often)), (a_row, .inr (1, [.ref a_row_signs, .int c_row_length])), (a_row_signs, .inl (cI, 11, .inl c_row_signs)), (a_work, .inr (1, [.ref a_work_signs, .int c_work_length])), (a_work_signs, .inl (cI, 11, .inl c_work_signs))]
def rm_X5_bestSwap : Room := { frames := 5, cells := 0, slots := 0, locals := 113 }
set_option maxHeartbeats 4000000 in
set_option maxRecDepth 100000 in
theorem c_X5_bestSwap (l : Launch) (D : va_G) (cI : ClassId) (a_t a_row a_work a_rest a_bag a_smooth a_text a_saves a_bag_often a_row_signs a_work_signs : Nat) (sz : Nat) (c_gone : Int32) (c_bag_total : Int32) (c_bag_often : Nat → Int32) (c_row_length : Int32) (c_row_signs : Nat → Int32) (c_work_length : Int32) (c_work_signs : Nat → Int32) (x1 : Int32) (o : Int32 × Int32 × (Nat → Int32) × Int32 × (Nat → Int32)) (hF : F_X5_bestSwap c_bag_total c_bag_often c_row_length c_row_signs c_work_length c_work_signs x1 = some o) : Met l yX5_bestSwap (Cond.code yX5_bestSwap cX5_bestSwap 8 (some .int) :: WL) rm_X5_bestSwap (preM D [(cI, .int)] (wd_X5_bestSwap cI a_t a_row a_work a_rest a_bag a_smooth a_text a_saves a_bag_often a_row_signs a_work_signs c_gone c_bag_total c_bag_often c_row_length c_row_signs c_work_length c_work_signs) sz [.ref a_t, .int x1]) (postI D o.1 (wd_X5_bestSwap cI a_t a_row a_work a_rest a_bag a_smooth a_text a_saves a_bag_often a_row_signs a_work_signs c_gone o.2.1 o.2.2.1 c_row_length c_row_signs o.2.2.2.1 o.2.2.2.2) (wd_X5_bestSwap cI a_t a_row a_work a_rest a_bag a_smooth a_text a_saves a_bag_often a_row_signs a_work_signs c_gone c_bag_total c_bag_often c_row_length c_row_signs c_work_length c_work_signs) sz) 0 0 (va_A (wd_X5_bestSwap cI a_t a_row a_work a_rest a_bag a_smooth a_text a_saves a_bag_often a_row_signs a_work_signs c_gone c_bag_total c_bag_often c_row_length c_row_signs c_work_length c_work_signs) sz) := by
  refine mofI (by decide +kernel) (Nat.le_of_ble_eq_true rfl) ?_
  intro p e s m args below meth c Q A ls hx hb hml hown hts hK hP hD hS hA hG hl hret hsz0
  have hl : lv_has ls 8 [(0, .ref a_t), (1, .int x1)] := hl
  have K27 : ∀ (n27 : Nat) (c_bag_total : Int32) (c_bag_often : Nat → Int32) (c_work_length : Int32) (c_work_signs : Nat → Int32) (x2 : Int32) (x3 : Int32) (x4 : Int32) (x5 : Int32) (H : Heap) (locs : List Loc) (ls : Array Slot), va_P D vwCl (wd_X5_bestSwap cI a_t a_row a_work a_rest a_bag a_smooth a_text a_saves a_bag_often a_row_signs a_work_signs c_gone c_bag_total c_bag_often c_row_length c_row_signs c_work_length c_work_signs) H → va_D A (wd_X5_bestSwap cI a_t a_row a_work a_rest a_bag a_smooth a_text a_saves a_bag_often a_row_signs a_work_signs c_gone c_bag_total c_bag_often c_row_length c_row_signs c_work_length c_work_signs) → va_S A s.heap H locs → lv_has ls 8 [(0, .ref a_t), (1, .int x1), (2, .int x2), (3, .int x3), (4, .int x4), (5, .int x5)] → F_X5_bestSwap_L27 c_row_length c_row_signs x1 n27 c_bag_total c_bag_often c_work_length c_work_signs x2 x3 x4 x5 = some o → W p l e rm_X5_bestSwap s m args below meth c H locs 0 0 Q (F0 m 27 ls []) := by
    intro n27
    induction n27 with
    | zero => intro c_bag_total c_bag_often c_work_length c_work_signs x2 x3 x4 x5 H locs ls hP hD hS hl hF; exact nos hF
    | succ n27 ih27 =>
      have K45 : ∀ (n45 : Nat) (c_bag_total : Int32) (c_bag_often : Nat → Int32) (c_work_length : Int32) (c_work_signs : Nat → Int32) (x2 : Int32) (x3 : Int32) (x4 : Int32) (x5 : Int32) (x6 : Int32) (H : Heap) (locs : List Loc) (ls : Array Slot), va_P D vwCl (wd_X5_bestSwap cI a_t a_row a_work a_rest a_bag a_smooth a_text a_saves a_bag_often a_row_signs a_work_signs c_gone c_bag_total c_bag_often c_row_length c_row_signs c_work_length c_work_signs) H → va_D A (wd_X5_bestSwap cI a_t a_row a_work a_rest a_bag a_smooth a_text a_saves a_bag_often a_row_signs a_work_signs c_gone c_bag_total c_bag_often c_row_length c_row_signs c_work_length c_work_signs) → va_S A s.heap H locs → lv_has ls 8 [(0, .ref a_t), (1, .int x1), (2, .int x2), (3, .int x3), (4, .int x4), (5, .int x5), (6, .int x6)] → F_X5_bestSwap_L45 (F_X5_bestSwap_L27 c_row_length c_row_signs x1 n27) c_row_length c_row_signs x1 n45 c_bag_total c_bag_often c_work_length c_work_signs x2 x3 x4 x5 x6 = some o → W p l e rm_X5_bestSwap s m args below meth c H locs 0 0 Q (F0 m 45 ls []) := by
        intro n45
        induction n45 with
        | zero => intro c_bag_total c_bag_often c_work_length c_work_signs x2 x3 x4 x5 x6 H locs ls hP hD hS hl hF; exact nos hF
        | succ n45 ih45 =>
          intro c_bag_total c_bag_often c_work_length c_work_signs x2 x3 x4 x5 x6 H locs ls hP hD hS hl hF
          rw [F_X5_bestSwap_L45] at hF
          refine lv_iload hx hb dX5_bestSwap_45 (lv_at hl 6 rfl) ?_
          refine lv_aload_n hx hb dX5_bestSwap_47 rfl (lv_at hl 0 rfl) ?_
          refine get_X5_10 hx hb hts hown hK hP 0 rfl rfl dX5_bestSwap_48 ?_
          obtain ⟨r51, hr51, hF⟩ := opb hF
          refine kVI (As := []) (rest := [.int x6]) (ws' := (wd_X5_bestSwap cI a_t a_row a_work a_rest a_bag a_smooth a_text a_saves a_bag_often a_row_signs a_work_signs c_gone c_bag_total c_bag_often c_row_length c_row_signs c_work_length c_work_signs)) ⟨hx, hb, hml, hown, hts⟩ (c_X1_length l D cI a_row a_row_signs H.size c_row_length  r51 hr51) (cwV 0 hts mw_X5_79 rfl rfl rfl hd_X1_length ⟨Nat.le_of_ble_eq_true rfl, Nat.le_of_ble_eq_true rfl⟩) hS hA hG hK hP hD [3] rfl rfl rfl rfl rfl ⟨Nat.zero_le _, Nat.zero_le _⟩ 1 3 rfl rfl rfl rfl hl.1 rfl (Nat.le_of_ble_eq_true rfl) dX5_bestSwap_51 (fun H locs hP hD hS => ?_)
          refine lv_icmp_ge (tgt := 89) hx hb dX5_bestSwap_54 (by decide) (fun k54 => ?_) (fun k54 => ?_)
          · replace hF := (if_pos k54).symm.trans hF
            refine lv_iinc (v := x5 + 1) (lv' := [(5, .int (x5 + 1)), (0, .ref a_t), (1, .int x1), (2, .int x2), (3, .int x3), (4, .int x4), (6, .int x6)]) hx hb dX5_bestSwap_89 hl (k := 5) rfl rfl (by decide) rfl (fun ls hl => ?_)
            refine lv_goto (tgt := 27) hx hb dX5_bestSwap_92 (by decide) ?_
            exact ih27 c_bag_total c_bag_often c_work_length c_work_signs x2 x3 x4 (x5 + 1) H locs ls hP hD hS (lv_sub hl [1, 2, 3, 4, 5, 0] rfl) hF
          · replace hF := (if_neg k54).symm.trans hF
            refine lv_aload_n hx hb dX5_bestSwap_57 rfl (lv_at hl 0 rfl) ?_
            refine lv_iload hx hb dX5_bestSwap_58 (lv_at hl 5 rfl) ?_
            refine lv_iload hx hb dX5_bestSwap_60 (lv_at hl 6 rfl) ?_
            obtain ⟨r62, hr62, hF⟩ := opb hF
            refine kVI (As := [.int x5, .int x6]) (rest := []) (ws' := (wd_X5_bestSwap cI a_t a_row a_work a_rest a_bag a_smooth a_text a_saves a_bag_often a_row_signs a_work_signs c_gone r62.2.1 r62.2.2.1 c_row_length c_row_signs r62.2.2.2.1 r62.2.2.2.2)) ⟨hx, hb, hml, hown, hts⟩ (c_X5_rankIfExchanged l D cI a_t a_row a_work a_rest a_bag a_smooth a_text a_saves a_bag_often a_row_signs a_work_signs H.size c_gone c_bag_total c_bag_often c_row_length c_row_signs c_work_length c_work_signs x5 x6 r62 hr62) (cwV 2 hts mw_X5_209 rfl rfl rfl hd_X5_rankIfExchanged ⟨Nat.le_of_ble_eq_true rfl, Nat.le_of_ble_eq_true rfl⟩) hS hA hG hK hP hD [0, 1, 2, 3, 4, 5, 6] rfl rfl rfl rfl rfl ⟨Nat.zero_le _, Nat.zero_le _⟩ 5 0 rfl rfl rfl rfl hl.1 rfl (Nat.le_of_ble_eq_true rfl) dX5_bestSwap_62 (fun H locs hP hD hS => ?_)
            refine lv_istore (lv' := [(7, .int r62.1), (0, .ref a_t), (1, .int x1), (2, .int x2), (3, .int x3), (4, .int x4), (5, .int x5), (6, .int x6)]) hx hb dX5_bestSwap_65 hl (by decide) rfl (fun ls hl => ?_)
            refine lv_iload hx hb dX5_bestSwap_67 (lv_at hl 0 rfl) ?_
            refine lv_iload_n hx hb dX5_bestSwap_69 rfl (lv_at hl 3 rfl) ?_
            refine lv_icmp_le (tgt := 83) hx hb dX5_bestSwap_70 (by decide) (fun k70 => ?_) (fun k70 => ?_)
            · (try simp only [if_pos k70] at hF)
              refine lv_iinc (v := x6 + 1) (lv' := [(6, .int (x6 + 1)), (7, .int r62.1), (0, .ref a_t), (1, .int x1), (2, .int x2), (3, .int x3), (4, .int x4), (5, .int x5)]) hx hb dX5_bestSwap_83 hl (k := 7) rfl rfl (by decide) rfl (fun ls hl => ?_)
              refine lv_goto (tgt := 45) hx hb dX5_bestSwap_86 (by decide) ?_
              exact ih45 r62.2.1 r62.2.2.1 r62.2.2.2.1 r62.2.2.2.2 x2 x3 x4 x5 (x6 + 1) H locs ls hP hD hS (lv_sub hl [2, 3, 4, 5, 6, 7, 0] rfl) hF
            · (try simp only [if_neg k70] at hF)
              refine lv_iload hx hb dX5_bestSwap_73 (lv_at hl 0 rfl) ?_
              refine lv_istore_n (lv' := [(2, .int r62.1), (7, .int r62.1), (0, .ref a_t), (1, .int x1), (3, .int x3), (4, .int x4), (5, .int x5), (6, .int x6)]) hx hb dX5_bestSwap_75 rfl hl (by decide) rfl (fun ls hl => ?_)
              refine lv_iload hx hb dX5_bestSwap_76 (lv_at hl 6 rfl) ?_
              refine lv_istore_n (lv' := [(3, .int x5), (2, .int r62.1), (7, .int r62.1), (0, .ref a_t), (1, .int x1), (4, .int x4), (5, .int x5), (6, .int x6)]) hx hb dX5_bestSwap_78 rfl hl (by decide) rfl (fun ls hl => ?_)
              refine lv_iload hx hb dX5_bestSwap_79 (lv_at hl 7 rfl) ?_
              refine lv_istore (lv' := [(4, .int x6), (3, .int x5), (2, .int r62.1), (7, .int r62.1), (0, .ref a_t), (1, .int x1), (5, .int x5), (6, .int x6)]) hx hb dX5_bestSwap_81 hl (by decide) rfl (fun ls hl => ?_)
              refine lv_iinc (v := x6 + 1) (lv' := [(6, .int (x6 + 1)), (4, .int x6), (3, .int x5), (2, .int r62.1), (7, .int r62.1), (0, .ref a_t), (1, .int x1), (5, .int x5)]) hx hb dX5_bestSwap_83 hl (k := 7) rfl rfl (by decide) rfl (fun ls hl => ?_)
              refine lv_goto (tgt := 45) hx hb dX5_bestSwap_86 (by decide) ?_
              exact ih45 r62.2.1 r62.2.2.1 r62.2.2.2.1 r62.2.2.2.2 r62.1 x5 x6 x5 (x6 + 1) H locs ls hP hD hS (lv_sub hl [5, 6, 3, 2, 1, 7, 0] rfl) hF
      intro c_bag_total c_bag_often c_work_length c_work_signs x2 x3 x4 x5 H locs ls hP hD hS hl hF
      rw [F_X5_bestSwap_L27] at hF
      refine lv_iload hx hb dX5_bestSwap_27 (lv_at hl 5 rfl) ?_
      refine lv_aload_n hx hb dX5_bestSwap_29 rfl (lv_at hl 0 rfl) ?_
      refine get_X5_10 hx hb hts hown hK hP 0 rfl rfl dX5_bestSwap_30 ?_
      obtain ⟨r33, hr33, hF⟩ := opb hF
      refine kVI (As := []) (rest := [.int x5]) (ws' := (wd_X5_bestSwap cI a_t a_row a_work a_rest a_bag a_smooth a_text a_saves a_bag_often a_row_signs a_work_signs c_gone c_bag_total c_bag_often c_row_length c_row_signs c_work_length c_work_signs)) ⟨hx, hb, hml, hown, hts⟩ (c_X1_length l D cI a_row a_row_signs H.size c_row_length  r33 hr33) (cwV 0 hts mw_X5_79 rfl rfl rfl hd_X1_length ⟨Nat.le_of_ble_eq_true rfl, Nat.le_of_ble_eq_true rfl⟩) hS hA hG hK hP hD [3] rfl rfl rfl rfl rfl ⟨Nat.zero_le _, Nat.zero_le _⟩ 1 3 rfl rfl rfl rfl hl.1 rfl (Nat.le_of_ble_eq_true rfl) dX5_bestSwap_33 (fun H locs hP hD hS => ?_)
      refine lv_icmp_ge (tgt := 95) hx hb dX5_bestSwap_36 (by decide) (fun k36 => ?_) (fun k36 => ?_)
      · replace hF := (if_pos k36).symm.trans hF
        refine lv_iload_n hx hb dX5_bestSwap_95 rfl (lv_at hl 1 rfl) ?_
        refine lv_if_ne (tgt := 103) hx hb dX5_bestSwap_96 (by decide) (fun k96 => ?_) (fun k96 => ?_)
        · (try simp only [if_neg k96] at hF)
          refine lv_iload_n hx hb dX5_bestSwap_103 rfl (lv_at hl 1 rfl) ?_
          refine lv_iconst (v := 1) hx hb dX5_bestSwap_104 (by decide) ?_
          refine lv_icmp_ne (tgt := 112) hx hb dX5_bestSwap_105 (by decide) (fun k105 => ?_) (fun k105 => ?_)
          · (try simp only [if_neg k105] at hF)
            refine lv_iload hx hb dX5_bestSwap_112 (lv_at hl 4 rfl) ?_
            have ho := Option.some.inj hF
            exact hret H locs ls 114 x4 _ hP hS (by rw [← ho]) (by rw [← ho]) dX5_bestSwap_114
          · (try simp only [if_pos k105] at hF)
            refine lv_iload_n hx hb dX5_bestSwap_108 rfl (lv_at hl 3 rfl) ?_
            refine lv_goto (tgt := 114) hx hb dX5_bestSwap_109 (by decide) ?_
            have ho := Option.some.inj hF
            exact hret H locs ls 114 x3 _ hP hS (by rw [← ho]) (by rw [← ho]) dX5_bestSwap_114
        · (try simp only [if_pos k96] at hF)
          refine lv_iload_n hx hb dX5_bestSwap_99 rfl (lv_at hl 2 rfl) ?_
          refine lv_goto (tgt := 114) hx hb dX5_bestSwap_100 (by decide) ?_
          have ho := Option.some.inj hF
          exact hret H locs ls 114 x2 _ hP hS (by rw [← ho]) (by rw [← ho]) dX5_bestSwap_114
      · replace hF := (if_neg k36).symm.trans hF
        refine lv_iload hx hb dX5_bestSwap_39 (lv_at hl 5 rfl) ?_
        refine lv_iconst (v := 1) hx hb dX5_bestSwap_41 (by decide) ?_
        refine lv_iadd hx hb dX5_bestSwap_42 ?_
        refine lv_istore (lv' := [(6, .int (x5 + (1 : Int32))), (0, .ref a_t), (1, .int x1), (2, .int x2), (3, .int x3), (4, .int x4), (5, .int x5)]) hx hb dX5_bestSwap_43 hl (by decide) rfl (fun ls hl => ?_)
        exact K45 FU c_bag_total c_bag_often c_work_length c_work_signs x2 x3 x4 x5 (x5 + (1 : Int32)) H locs ls hP hD hS (lv_sub hl [1, 2, 3, 4, 5, 6, 0] rfl) hF
  have K14 : ∀ (c_bag_total : Int32) (c_bag_often : Nat → Int32) (c_work_length : Int32) (c_work_signs : Nat → Int32) (v0 : Int32)  (H : Heap) (locs : List Loc) (ls : Array Slot), va_P D vwCl (wd_X5_bestSwap cI a_t a_row a_work a_rest a_bag a_smooth a_text a_saves a_bag_often a_row_signs a_work_signs c_gone c_bag_total c_bag_often c_row_length c_row_signs c_work_length c_work_signs) H → va_D A (wd_X5_bestSwap cI a_t a_row a_work a_rest a_bag a_smooth a_text a_saves a_bag_often a_row_signs a_work_signs c_gone c_bag_total c_bag_often c_row_length c_row_signs c_work_length c_work_signs) → va_S A s.heap H locs → lv_has ls 8 [(0, .ref a_t), (1, .int x1)] → F_X5_bestSwap_J14 c_row_length c_row_signs x1 c_bag_total c_bag_often c_work_length c_work_signs v0 = some o → W p l e rm_X5_bestSwap s m args below meth c H locs 0 0 Q (F0 m 14 ls [.int v0]) := by
    intro c_bag_total c_bag_often c_work_length c_work_signs v0 H locs ls hP hD hS hl hF
    unfold F_X5_bestSwap_J14 at hF
    obtain ⟨r14, hr14, hF⟩ := opb hF
    refine kSV (As := [.int v0]) (rest := []) (ws' := (wd_X5_bestSwap cI a_t a_row a_work a_rest a_bag a_smooth a_text a_saves a_bag_often a_row_signs a_work_signs c_gone c_bag_total c_bag_often c_row_length c_row_signs c_work_length c_work_signs)) ⟨hx, hb, hml, hown, hts⟩ (c_X5_need l D cI  H.size  v0 r14 hr14) (va_cwS 1 hts mw_X5_112 rfl rfl rfl hd_X5_need ⟨Nat.le_of_ble_eq_true rfl, Nat.le_of_ble_eq_true rfl⟩) hS hA hG hK hP hD [] rfl rfl rfl rfl rfl ⟨Nat.zero_le _, Nat.zero_le _⟩ rfl hl.1 rfl (Nat.le_of_ble_eq_true rfl) dX5_bestSwap_14 (fun H locs hP hD hS => ?_)
    refine lv_iconst (v := (-1)) hx hb dX5_bestSwap_17 (by decide) ?_
    refine lv_istore_n (lv' := [(2, .int ((-1) : Int32)), (0, .ref a_t), (1, .int x1)]) hx hb dX5_bestSwap_18 rfl hl (by decide) rfl (fun ls hl => ?_)
    refine lv_iconst (v := (-1)) hx hb dX5_bestSwap_19 (by decide) ?_
    refine lv_istore_n (lv' := [(3, .int ((-1) : Int32)), (2, .int ((-1) : Int32)), (0, .ref a_t), (1, .int x1)]) hx hb dX5_bestSwap_20 rfl hl (by decide) rfl (fun ls hl => ?_)
    refine lv_iconst (v := (-1)) hx hb dX5_bestSwap_21 (by decide) ?_
    refine lv_istore (lv' := [(4, .int ((-1) : Int32)), (3, .int ((-1) : Int32)), (2, .int ((-1) : Int32)), (0, .ref a_t), (1, .int x1)]) hx hb dX5_bestSwap_22 hl (by decide) rfl (fun ls hl => ?_)
    refine lv_iconst (v := 0) hx hb dX5_bestSwap_24 (by decide) ?_
    refine lv_istore (lv' := [(5, .int (0 : Int32)), (4, .int ((-1) : Int32)), (3, .int ((-1) : Int32)), (2, .int ((-1) : Int32)), (0, .ref a_t), (1, .int x1)]) hx hb dX5_bestSwap_25 hl (by decide) rfl (fun ls hl => ?_)
    exact K27 FU c_bag_total c_bag_often c_work_length c_work_signs ((-1) : Int32) ((-1) : Int32) ((-1) : Int32) (0 : Int32) H locs ls hP hD hS (lv_sub hl [4, 5, 3, 2, 1, 0] rfl) hF
  unfold F_X5_bestSwap at hF
  have hP : va_P D vwCl (wd_X5_bestSwap cI a_t a_row a_work a_rest a_bag a_smooth a_text a_saves a_bag_often a_row_signs a_work_signs c_gone c_bag_total c_bag_often c_row_length c_row_signs c_work_length c_work_signs) s.heap := hP
  obtain ⟨H, hH⟩ : ∃ H, H = s.heap := ⟨_, rfl⟩
  rw [← hH]
  rw [← hH] at hP
  obtain ⟨locs, hlo⟩ : ∃ z : List Loc, z = [] := ⟨_, rfl⟩
  rw [← hlo]
  have hS : va_S A s.heap H locs := by rw [hH, hlo]; exact hS
  refine lv_iload_n hx hb dX5_bestSwap_0 rfl (lv_at hl 1 rfl) ?_
  refine lv_if_lt (tgt := 13) hx hb dX5_bestSwap_1 (by decide) (fun k1 => ?_) (fun k1 => ?_)
  · (try simp only [if_pos k1] at hF)
    refine lv_iconst (v := 0) hx hb dX5_bestSwap_13 (by decide) ?_
    exact K14 c_bag_total c_bag_often c_work_length c_work_signs (0 : Int32) H locs ls hP hD hS (lv_sub hl [0, 1] rfl) hF
  · (try simp only [if_neg k1] at hF)
    refine lv_iload_n hx hb dX5_bestSwap_4 rfl (lv_at hl 1 rfl) ?_
    refine lv_iconst (v := 3) hx hb dX5_bestSwap_5 (by decide) ?_
    refine lv_icmp_ge (tgt := 13) hx hb dX5_bestSwap_6 (by decide) (fun k6 => ?_) (fun k6 => ?_)
    · (try simp only [if_pos k6] at hF)
      refine lv_iconst (v := 0) hx hb dX5_bestSwap_13 (by decide) ?_
      exact K14 c_bag_total c_bag_often c_work_length c_work_signs (0 : Int32) H locs ls hP hD hS (lv_sub hl [0, 1] rfl) hF
    · (try simp only [if_neg k6] at hF)
      refine lv_iconst (v := 1) hx hb dX5_bestSwap_9 (by decide) ?_
      refine lv_goto (tgt := 14) hx hb dX5_bestSwap_10 (by decide) ?_
      exact K14 c_bag_total c_bag_often c_work_length c_work_signs (1 : Int32) H locs ls hP hD hS (lv_sub hl [0, 1] rfl) hF
abbrev wd_X5_share (cI : ClassId) (a_t a_row a_work a_rest a_bag a_smooth a_text a_saves a_bag_often a_row_signs : Nat) (c_gone : Int32) (c_bag_total : Int32) (c_bag_often : Nat → Int32) (c_row_length : Int32) (c_row_signs : Nat → Int32) : va_W := [(a_t, .inr (5, [.ref a_row, .ref a_work, .ref a_rest, .ref a_bag, .ref a_smooth, .ref a_text, .ref a_saves, .int c_gone])), (a_bag, .inr (0, [.ref a_bag_often, .int c_bag_total])), (a_bag_often, .inl (cI, 6, .inl c_bag_often)), (a_row, .inr (1, [.ref a_row_signs, .int c_row_length])), (a_row_signs, .inl (cI, 11, .inl c_row_signs))]
def rm_X5_share : Room := { frames := 4, cells := 0, slots := 0, locals := 91 }
set_option maxHeartbeats 4000000 in
set_option maxRecDepth 100000 in
theorem c_X5_share (l : Launch) (D : va_G) (cI : ClassId) (a_t a_row a_work a_rest a_bag a_smooth a_text a_saves a_bag_often a_row_signs : Nat) (sz : Nat) (c_gone : Int32) (c_bag_total : Int32) (c_bag_often : Nat → Int32) (c_row_length : Int32) (c_row_signs : Nat → Int32) (o : UInt64 × Int32 × (Nat → Int32)) (hF : F_X5_share c_bag_total c_bag_often c_row_length c_row_signs = some o) : Met l yX5_share (Cond.code yX5_share cX5_share 2 (some .double) :: WL) rm_X5_share (preM D [(cI, .int)] (wd_X5_share cI a_t a_row a_work a_rest a_bag a_smooth a_text a_saves a_bag_often a_row_signs c_gone c_bag_total c_bag_often c_row_length c_row_signs) sz [.ref a_t]) (postD D o.1 (wd_X5_share cI a_t a_row a_work a_rest a_bag a_smooth a_text a_saves a_bag_often a_row_signs c_gone o.2.1 o.2.2 c_row_length c_row_signs) (wd_X5_share cI a_t a_row a_work a_rest a_bag a_smooth a_text a_saves a_bag_often a_row_signs c_gone c_bag_total c_bag_often c_row_length c_row_signs) sz) 0 0 (va_A (wd_X5_share cI a_t a_row a_work a_rest a_bag a_smooth a_text a_saves a_bag_often a_row_signs c_gone c_bag_total c_bag_often c_row_length c_row_signs) sz) := by
  refine mofD (by decide +kernel) (Nat.le_of_ble_eq_true rfl) ?_
  intro p e s m args below meth c Q A ls hx hb hml hown hts hK hP hD hS hA hG hl hret hsz0
  have hl : lv_has ls 2 [(0, .ref a_t)] := hl
  unfold F_X5_share at hF
  have hP : va_P D vwCl (wd_X5_share cI a_t a_row a_work a_rest a_bag a_smooth a_text a_saves a_bag_often a_row_signs c_gone c_bag_total c_bag_often c_row_length c_row_signs) s.heap := hP
  obtain ⟨H, hH⟩ : ∃ H, H = s.heap := ⟨_, rfl⟩
  rw [← hH]
  rw [← hH] at hP
  obtain ⟨locs, hlo⟩ : ∃ z : List Loc, z = [] := ⟨_, rfl⟩
  rw [← hlo]
  have hS : va_S A s.heap H locs := by rw [hH, hlo]; exact hS
  refine lv_aload_n hx hb dX5_share_0 rfl (lv_at hl 0 rfl) ?_
  obtain ⟨r1, hr1, hF⟩ := opb hF
  refine kVI (As := []) (rest := []) (ws' := (wd_X5_share cI a_t a_row a_work a_rest a_bag a_smooth a_text a_saves a_bag_often a_row_signs c_gone r1.2.1 r1.2.2 c_row_length c_row_signs)) ⟨hx, hb, hml, hown, hts⟩ (c_X5_all l D cI a_t a_row a_work a_rest a_bag a_smooth a_text a_saves a_bag_often a_row_signs H.size c_gone c_bag_total c_bag_often c_row_length c_row_signs  r1 hr1) (cwV 0 hts mw_X5_65 rfl rfl rfl hd_X5_all ⟨Nat.le_of_ble_eq_true rfl, Nat.le_of_ble_eq_true rfl⟩) hS hA hG hK hP hD [0, 1, 2, 3, 4] rfl rfl rfl rfl rfl ⟨Nat.zero_le _, Nat.zero_le _⟩ 5 0 rfl rfl rfl rfl hl.1 rfl (Nat.le_of_ble_eq_true rfl) dX5_share_1 (fun H locs hP hD hS => ?_)
  refine lv_istore_n (lv' := [(1, .int r1.1), (0, .ref a_t)]) hx hb dX5_share_4 rfl hl (by decide) rfl (fun ls hl => ?_)
  refine lv_iload_n hx hb dX5_share_5 rfl (lv_at hl 0 rfl) ?_
  refine lv_if_le (tgt := 24) hx hb dX5_share_6 (by decide) (fun k6 => ?_) (fun k6 => ?_)
  · replace hF := (if_pos k6).symm.trans hF
    refine lv_dconst0 hx hb dX5_share_24 ?_
    have ho := Option.some.inj hF
    exact hret H locs ls 25 FP.dconst0 _ hP hS (by rw [← ho]) (by rw [← ho]) dX5_share_25
  · replace hF := (if_neg k6).symm.trans hF
    refine lv_aload_n hx hb dX5_share_9 rfl (lv_at hl 1 rfl) ?_
    refine lv_aload_n hx hb dX5_share_10 rfl (lv_at hl 1 rfl) ?_
    refine get_X5_10 hx hb hts hown hK hP 0 rfl rfl dX5_share_11 ?_
    obtain ⟨r14, hr14, hF⟩ := opb hF
    refine kVI (As := [.ref a_row]) (rest := []) (ws' := (wd_X5_share cI a_t a_row a_work a_rest a_bag a_smooth a_text a_saves a_bag_often a_row_signs c_gone r14.2.1 r14.2.2 c_row_length c_row_signs)) ⟨hx, hb, hml, hown, hts⟩ (c_X5_rankOf l D cI a_t a_row a_row a_work a_rest a_bag a_smooth a_text a_saves a_bag_often a_row_signs H.size c_gone r1.2.1 r1.2.2 c_row_length c_row_signs  r14 hr14) (cwV 1 hts mw_X5_57 rfl rfl rfl hd_X5_rankOf ⟨Nat.le_of_ble_eq_true rfl, Nat.le_of_ble_eq_true rfl⟩) hS hA hG hK hP hD [0, 1, 2, 3, 4] rfl rfl rfl rfl rfl ⟨Nat.zero_le _, Nat.zero_le _⟩ 5 0 rfl rfl rfl rfl hl.1 rfl (Nat.le_of_ble_eq_true rfl) dX5_share_14 (fun H locs hP hD hS => ?_)
    refine lv_i2d hx hb dX5_share_17 ?_
    refine lv_iload_n hx hb dX5_share_18 rfl (lv_at hl 0 rfl) ?_
    refine lv_i2d hx hb dX5_share_19 ?_
    obtain ⟨g20, hF⟩ := gdb hF
    refine lv_ddiv hx hb dX5_share_20 (nnb g20) ?_
    refine lv_goto (tgt := 25) hx hb dX5_share_21 (by decide) ?_
    have ho := Option.some.inj hF
    exact hret H locs ls 25 (FP.ddiv (FP.i2d r14.1) (FP.i2d r1.1)) _ hP hS (by rw [← ho]) (by rw [← ho]) dX5_share_25
abbrev wd_X5_mixed (cI : ClassId)  : va_W := []
def rm_X5_mixed : Room := { frames := 0, cells := 0, slots := 0, locals := 0 }
set_option maxHeartbeats 4000000 in
set_option maxRecDepth 100000 in
theorem c_X5_mixed (l : Launch) (D : va_G) (cI : ClassId) (sz : Nat) (x0 : Int64) (x2 : Int64) (o : Int64) (hF : F_X5_mixed x0 x2 = some o) : Met l yX5_mixed (Cond.code yX5_mixed cX5_mixed 4 (some .long) :: WL) rm_X5_mixed (preM D [(cI, .int)] (wd_X5_mixed cI ) sz [.long x0, .long x2]) (postL D o (wd_X5_mixed cI ) (wd_X5_mixed cI ) sz) 0 0 (va_A (wd_X5_mixed cI ) sz) := by
  refine mofL (by decide +kernel) (Nat.le_of_ble_eq_true rfl) ?_
  intro p e s m args below meth c Q A ls hx hb hml hown hts hK hP hD hS hA hG hl hret hsz0
  have hl : lv_has ls 4 [(0, .long x0), (2, .long x2)] := hl
  unfold F_X5_mixed at hF
  have hP : va_P D vwCl (wd_X5_mixed cI ) s.heap := hP
  obtain ⟨H, hH⟩ : ∃ H, H = s.heap := ⟨_, rfl⟩
  rw [← hH]
  rw [← hH] at hP
  obtain ⟨locs, hlo⟩ : ∃ z : List Loc, z = [] := ⟨_, rfl⟩
  rw [← hlo]
  have hS : va_S A s.heap H locs := by rw [hH, hlo]; exact hS
  refine lv_ldc2 (v := 31) hx hb hown (hts _ k2_236) dX5_mixed_0 ?_
  refine lv_lload_n hx hb dX5_mixed_3 rfl (lv_at hl 0 rfl) ?_
  refine lv_lmul hx hb dX5_mixed_4 ?_
  refine lv_lload_n hx hb dX5_mixed_5 rfl (lv_at hl 1 rfl) ?_
  refine lv_ladd hx hb dX5_mixed_6 ?_
  have ho := Option.some.inj hF
  exact hret H locs ls 7 (((31 : Int64) * x0) + x2) _ hP hS rfl ho dX5_mixed_7
abbrev wd_X5_bitsOf (cI : ClassId)  : va_W := []
def rm_X5_bitsOf : Room := { frames := 0, cells := 0, slots := 0, locals := 0 }
set_option maxHeartbeats 4000000 in
set_option maxRecDepth 100000 in
theorem c_X5_bitsOf (l : Launch) (D : va_G) (cI : ClassId) (sz : Nat) (x0 : UInt64) (o : Int64) (hF : F_X5_bitsOf x0 = some o) : Met l yX5_bitsOf (Cond.code yX5_bitsOf cX5_bitsOf 7 (some .long) :: WL) rm_X5_bitsOf (preM D [(cI, .int)] (wd_X5_bitsOf cI ) sz [.double x0]) (postL D o (wd_X5_bitsOf cI ) (wd_X5_bitsOf cI ) sz) 0 0 (va_A (wd_X5_bitsOf cI ) sz) := by
  refine mofL (by decide +kernel) (Nat.le_of_ble_eq_true rfl) ?_
  intro p e s m args below meth c Q A ls hx hb hml hown hts hK hP hD hS hA hG hl hret hsz0
  have hl : lv_has ls 7 [(0, .double x0)] := hl
  have K39 : ∀ (x2 : UInt64) (x4 : Int32)  (H : Heap) (locs : List Loc) (ls : Array Slot), va_P D vwCl (wd_X5_bitsOf cI ) H → va_D A (wd_X5_bitsOf cI ) → va_S A s.heap H locs → lv_has ls 7 [(2, .double x2), (4, .int x4)] → F_X5_bitsOf_J39 x0 x2 x4 = some o → W p l e rm_X5_bitsOf s m args below meth c H locs 0 0 Q (F0 m 39 ls []) := by
    intro x2 x4 H locs ls hP hD hS hl hF
    unfold F_X5_bitsOf_J39 at hF
    refine lv_dload_n hx hb dX5_bitsOf_39 rfl (lv_at hl 0 rfl) ?_
    refine lv_dconst1 hx hb dX5_bitsOf_40 ?_
    obtain ⟨g41, hF⟩ := gdb hF
    refine lv_dsub hx hb dX5_bitsOf_41 (nnb g41) ?_
    refine lv_ldc2d (v := 4841369599423283200) hx hb hown (hts _ k3_90) dX5_bitsOf_42 ?_
    obtain ⟨g45, hF⟩ := gdb hF
    refine lv_dmul hx hb dX5_bitsOf_45 (nnb g45) ?_
    refine lv_d2l hx hb dX5_bitsOf_46 ?_
    refine lv_lstore (lv' := [(5, .long (FP.d2l (FP.dmul (FP.dsub x2 FP.dconst1) (4841369599423283200 : UInt64)))), (2, .double x2), (4, .int x4)]) hx hb dX5_bitsOf_47 hl (by decide) rfl (fun ls hl => ?_)
    refine lv_iload hx hb dX5_bitsOf_49 (lv_at hl 2 rfl) ?_
    refine lv_i2l hx hb dX5_bitsOf_51 rfl ?_
    refine lv_bipush (v := 52) hx hb dX5_bitsOf_52 (by decide) ?_
    refine lv_lshl hx hb dX5_bitsOf_54 rfl ?_
    refine lv_lload hx hb dX5_bitsOf_55 (lv_at hl 0 rfl) ?_
    refine lv_ladd hx hb dX5_bitsOf_57 ?_
    have ho := Option.some.inj hF
    exact hret H locs ls 58 ((((x4).toInt64) <<< (((52 : Int32)).toInt64 &&& 63)) + (FP.d2l (FP.dmul (FP.dsub x2 FP.dconst1) (4841369599423283200 : UInt64)))) _ hP hS rfl ho dX5_bitsOf_58
  have K15 : ∀ (n15 : Nat) (x2 : UInt64) (x4 : Int32) (H : Heap) (locs : List Loc) (ls : Array Slot), va_P D vwCl (wd_X5_bitsOf cI ) H → va_D A (wd_X5_bitsOf cI ) → va_S A s.heap H locs → lv_has ls 7 [(2, .double x2), (4, .int x4)] → F_X5_bitsOf_L15 x0 n15 x2 x4 = some o → W p l e rm_X5_bitsOf s m args below meth c H locs 0 0 Q (F0 m 15 ls []) := by
    intro n15
    induction n15 with
    | zero => intro x2 x4 H locs ls hP hD hS hl hF; exact nos hF
    | succ n15 ih15 =>
      intro x2 x4 H locs ls hP hD hS hl hF
      rw [F_X5_bitsOf_L15] at hF
      refine lv_dload_n hx hb dX5_bitsOf_15 rfl (lv_at hl 0 rfl) ?_
      refine lv_dconst1 hx hb dX5_bitsOf_16 ?_
      refine lv_dcmp hx hb dX5_bitsOf_17 ?_
      refine lv_if_ge (tgt := 39) hx hb dX5_bitsOf_18 (by decide) (fun k18 => ?_) (fun k18 => ?_)
      · replace hF := (if_pos k18).symm.trans hF
        exact K39 x2 x4 H locs ls hP hD hS (lv_sub hl [0, 1] rfl) hF
      · replace hF := (if_neg k18).symm.trans hF
        refine lv_iload hx hb dX5_bitsOf_21 (lv_at hl 1 rfl) ?_
        refine lv_iconst (v := 1) hx hb dX5_bitsOf_23 (by decide) ?_
        refine lv_icmp_le (tgt := 39) hx hb dX5_bitsOf_24 (by decide) (fun k24 => ?_) (fun k24 => ?_)
        · replace hF := (if_pos k24).symm.trans hF
          exact K39 x2 x4 H locs ls hP hD hS (lv_sub hl [0, 1] rfl) hF
        · replace hF := (if_neg k24).symm.trans hF
          refine lv_dload_n hx hb dX5_bitsOf_27 rfl (lv_at hl 0 rfl) ?_
          refine lv_ldc2d (v := 4611686018427387904) hx hb hown (hts _ k3_89) dX5_bitsOf_28 ?_
          obtain ⟨g31, hF⟩ := gdb hF
          refine lv_dmul hx hb dX5_bitsOf_31 (nnb g31) ?_
          refine lv_dstore_n (lv' := [(2, .double (FP.dmul x2 (4611686018427387904 : UInt64))), (4, .int x4)]) hx hb dX5_bitsOf_32 rfl hl (by decide) rfl (fun ls hl => ?_)
          refine lv_iinc (v := x4 + (-1)) (lv' := [(4, .int (x4 + (-1))), (2, .double (FP.dmul x2 (4611686018427387904 : UInt64)))]) hx hb dX5_bitsOf_33 hl (k := 1) rfl rfl (by decide) rfl (fun ls hl => ?_)
          refine lv_goto (tgt := 15) hx hb dX5_bitsOf_36 (by decide) ?_
          exact ih15 (FP.dmul x2 (4611686018427387904 : UInt64)) (x4 + (-1)) H locs ls hP hD hS (lv_sub hl [1, 0] rfl) hF
  unfold F_X5_bitsOf at hF
  have hP : va_P D vwCl (wd_X5_bitsOf cI ) s.heap := hP
  obtain ⟨H, hH⟩ : ∃ H, H = s.heap := ⟨_, rfl⟩
  rw [← hH]
  rw [← hH] at hP
  obtain ⟨locs, hlo⟩ : ∃ z : List Loc, z = [] := ⟨_, rfl⟩
  rw [← hlo]
  have hS : va_S A s.heap H locs := by rw [hH, hlo]; exact hS
  refine lv_dload_n hx hb dX5_bitsOf_0 rfl (lv_at hl 0 rfl) ?_
  refine lv_dconst0 hx hb dX5_bitsOf_1 ?_
  refine lv_dcmp hx hb dX5_bitsOf_2 ?_
  refine lv_if_gt (tgt := 8) hx hb dX5_bitsOf_3 (by decide) (fun k3 => ?_) (fun k3 => ?_)
  · replace hF := (if_pos k3).symm.trans hF
    refine lv_dload_n hx hb dX5_bitsOf_8 rfl (lv_at hl 0 rfl) ?_
    refine lv_dstore_n (lv' := [(2, .double x0), (0, .double x0)]) hx hb dX5_bitsOf_9 rfl hl (by decide) rfl (fun ls hl => ?_)
    refine lv_sipush (v := 1023) hx hb dX5_bitsOf_10 (by decide) ?_
    refine lv_istore (lv' := [(4, .int (1023 : Int32)), (2, .double x0), (0, .double x0)]) hx hb dX5_bitsOf_13 hl (by decide) rfl (fun ls hl => ?_)
    exact K15 FU x0 (1023 : Int32) H locs ls hP hD hS (lv_sub hl [1, 0] rfl) hF
  · replace hF := (if_neg k3).symm.trans hF
    refine lv_lconst (v := 0) hx hb dX5_bitsOf_6 (by decide) ?_
    have ho := Option.some.inj hF
    exact hret H locs ls 7 (0 : Int64) _ hP hS rfl ho dX5_bitsOf_7
abbrev wd_X5_digest (cI : ClassId) (a_t a_row a_work a_rest a_bag a_smooth a_text a_saves a_bag_often a_rest_signs a_row_signs a_saves_slots a_smooth_madeFor a_smooth_weight a_smooth_inCell a_smooth_all a_smooth_starting a_text_codes a_work_signs : Nat) (c_gone : Int32) (c_bag_total : Int32) (c_bag_often : Nat → Int32) (c_rest_length : Int32) (c_rest_signs : Nat → Int32) (c_row_length : Int32) (c_row_signs : Nat → Int32) (c_saves_held : Int32) (c_smooth_all : Nat → Int32) (c_smooth_inCell : Nat → Int32) (c_smooth_madeFor : Nat → Int32) (c_smooth_starting : Nat → Int32) (c_smooth_weight : Nat → Int32) (c_text_length : Int32) (c_text_codes : Nat → Int32) (c_work_length : Int32) (c_work_signs : Nat → Int32) : va_W := [(a_t, .inr (5, [.ref a_row, .ref a_work, .ref a_rest, .ref a_bag, .ref a_smooth, .ref a_text, .ref a_saves, .int c_gone])), (a_bag, .inr (0, [.ref a_bag_often, .int c_bag_total])), (a_bag_often, .inl (cI, 6, .inl c_bag_often)), (a_rest, .inr (1, [.ref a_rest_signs, .int c_rest_length])), (a_rest_signs, .inl (cI, 11, .inl c_rest_signs)), (a_row, .inr (1, [.ref a_row_signs, .int c_row_length])), (a_row_signs, .inl (cI, 11, .inl c_row_signs)), (a_saves, .inr (2, [.ref a_saves_slots, .int c_saves_held])), (a_smooth, .inr (3, [.ref a_smooth_madeFor, .ref a_smooth_weight, .ref a_smooth_inCell, .ref a_smooth_all, .ref a_smooth_starting])), (a_smooth_all, .inl (cI, 486, .inl c_smooth_all)), (a_smooth_inCell, .inl (cI, 6, .inl c_smooth_inCell)), (a_smooth_madeFor, .inl (cI, 6, .inl c_smooth_madeFor)), (a_smooth_starting, .inl (cI, 2916, .inl c_smooth_starting)), (a_smooth_weight, .inl (cI, 6, .inl c_smooth_weight)), (a_text, .inr (4, [.ref a_text_codes, .int c_text_length])), (a_text_codes, .inl (cI, 60, .inl c_text_codes)), (a_work, .inr (1, [.ref a_work_signs, .int c_work_length])), (a_work_signs, .inl (cI, 11, .inl c_work_signs))]
def rm_X5_digest : Room := { frames := 7, cells := 0, slots := 0, locals := 154 }
set_option maxHeartbeats 4000000 in
set_option maxRecDepth 100000 in
theorem c_X5_digest (l : Launch) (D : va_G) (cI : ClassId) (a_t a_row a_work a_rest a_bag a_smooth a_text a_saves a_bag_often a_rest_signs a_row_signs a_saves_slots a_smooth_madeFor a_smooth_weight a_smooth_inCell a_smooth_all a_smooth_starting a_text_codes a_work_signs : Nat) (sz : Nat) (c_gone : Int32) (c_bag_total : Int32) (c_bag_often : Nat → Int32) (c_rest_length : Int32) (c_rest_signs : Nat → Int32) (c_row_length : Int32) (c_row_signs : Nat → Int32) (c_saves_held : Int32) (c_smooth_all : Nat → Int32) (c_smooth_inCell : Nat → Int32) (c_smooth_madeFor : Nat → Int32) (c_smooth_starting : Nat → Int32) (c_smooth_weight : Nat → Int32) (c_text_length : Int32) (c_text_codes : Nat → Int32) (c_work_length : Int32) (c_work_signs : Nat → Int32) (o : Int64 × Int32 × (Nat → Int32) × Int32 × (Nat → Int32) × (Nat → Int32) × (Nat → Int32) × (Nat → Int32) × (Nat → Int32) × (Nat → Int32) × Int32 × (Nat → Int32)) (hF : F_X5_digest c_gone c_bag_total c_bag_often c_rest_length c_rest_signs c_row_length c_row_signs c_saves_held c_smooth_all c_smooth_inCell c_smooth_madeFor c_smooth_starting c_smooth_weight c_text_length c_text_codes c_work_length c_work_signs = some o) : Met l yX5_digest (Cond.code yX5_digest cX5_digest 6 (some .long) :: WL) rm_X5_digest (preM D [(cI, .int)] (wd_X5_digest cI a_t a_row a_work a_rest a_bag a_smooth a_text a_saves a_bag_often a_rest_signs a_row_signs a_saves_slots a_smooth_madeFor a_smooth_weight a_smooth_inCell a_smooth_all a_smooth_starting a_text_codes a_work_signs c_gone c_bag_total c_bag_often c_rest_length c_rest_signs c_row_length c_row_signs c_saves_held c_smooth_all c_smooth_inCell c_smooth_madeFor c_smooth_starting c_smooth_weight c_text_length c_text_codes c_work_length c_work_signs) sz [.ref a_t]) (postL D o.1 (wd_X5_digest cI a_t a_row a_work a_rest a_bag a_smooth a_text a_saves a_bag_often a_rest_signs a_row_signs a_saves_slots a_smooth_madeFor a_smooth_weight a_smooth_inCell a_smooth_all a_smooth_starting a_text_codes a_work_signs c_gone o.2.1 o.2.2.1 o.2.2.2.1 o.2.2.2.2.1 c_row_length c_row_signs c_saves_held o.2.2.2.2.2.1 o.2.2.2.2.2.2.1 o.2.2.2.2.2.2.2.1 o.2.2.2.2.2.2.2.2.1 o.2.2.2.2.2.2.2.2.2.1 c_text_length c_text_codes o.2.2.2.2.2.2.2.2.2.2.1 o.2.2.2.2.2.2.2.2.2.2.2) (wd_X5_digest cI a_t a_row a_work a_rest a_bag a_smooth a_text a_saves a_bag_often a_rest_signs a_row_signs a_saves_slots a_smooth_madeFor a_smooth_weight a_smooth_inCell a_smooth_all a_smooth_starting a_text_codes a_work_signs c_gone c_bag_total c_bag_often c_rest_length c_rest_signs c_row_length c_row_signs c_saves_held c_smooth_all c_smooth_inCell c_smooth_madeFor c_smooth_starting c_smooth_weight c_text_length c_text_codes c_work_length c_work_signs) sz) 0 0 (va_A (wd_X5_digest cI a_t a_row a_work a_rest a_bag a_smooth a_text a_saves a_bag_often a_rest_signs a_row_signs a_saves_slots a_smooth_madeFor a_smooth_weight a_smooth_inCell a_smooth_all a_smooth_starting a_text_codes a_work_signs c_gone c_bag_total c_bag_often c_rest_length c_rest_signs c_row_length c_row_signs c_saves_held c_smooth_all c_smooth_inCell c_smooth_madeFor c_smooth_starting c_smooth_weight c_text_length c_text_codes c_work_length c_work_signs) sz) := by
  refine mofL (by decide +kernel) (Nat.le_of_ble_eq_true rfl) ?_
  intro p e s m args below meth c Q A ls hx hb hml hown hts hK hP hD hS hA hG hl hret hsz0
  have hl : lv_has ls 6 [(0, .ref a_t)] := hl
  have K278 : ∀ (n278 : Nat) (c_bag_total : Int32) (c_bag_often : Nat → Int32) (c_rest_length : Int32) (c_rest_signs : Nat → Int32) (c_smooth_all : Nat → Int32) (c_smooth_inCell : Nat → Int32) (c_smooth_madeFor : Nat → Int32) (c_smooth_starting : Nat → Int32) (c_smooth_weight : Nat → Int32) (c_work_length : Int32) (c_work_signs : Nat → Int32) (x1 : Int64) (x5 : Int32) (H : Heap) (locs : List Loc) (ls : Array Slot), va_P D vwCl (wd_X5_digest cI a_t a_row a_work a_rest a_bag a_smooth a_text a_saves a_bag_often a_rest_signs a_row_signs a_saves_slots a_smooth_madeFor a_smooth_weight a_smooth_inCell a_smooth_all a_smooth_starting a_text_codes a_work_signs c_gone c_bag_total c_bag_often c_rest_length c_rest_signs c_row_length c_row_signs c_saves_held c_smooth_all c_smooth_inCell c_smooth_madeFor c_smooth_starting c_smooth_weight c_text_length c_text_codes c_work_length c_work_signs) H → va_D A (wd_X5_digest cI a_t a_row a_work a_rest a_bag a_smooth a_text a_saves a_bag_often a_rest_signs a_row_signs a_saves_slots a_smooth_madeFor a_smooth_weight a_smooth_inCell a_smooth_all a_smooth_starting a_text_codes a_work_signs c_gone c_bag_total c_bag_often c_rest_length c_rest_signs c_row_length c_row_signs c_saves_held c_smooth_all c_smooth_inCell c_smooth_madeFor c_smooth_starting c_smooth_weight c_text_length c_text_codes c_work_length c_work_signs) → va_S A s.heap H locs → lv_has ls 6 [(0, .ref a_t), (1, .long x1), (5, .int x5)] → F_X5_digest_L278 c_gone c_row_length c_row_signs c_saves_held c_text_length c_text_codes n278 c_bag_total c_bag_often c_rest_length c_rest_signs c_smooth_all c_smooth_inCell c_smooth_madeFor c_smooth_starting c_smooth_weight c_work_length c_work_signs x1 x5 = some o → W p l e rm_X5_digest s m args below meth c H locs 0 0 Q (F0 m 278 ls []) := by
    intro n278
    induction n278 with
    | zero => intro c_bag_total c_bag_often c_rest_length c_rest_signs c_smooth_all c_smooth_inCell c_smooth_madeFor c_smooth_starting c_smooth_weight c_work_length c_work_signs x1 x5 H locs ls hP hD hS hl hF; exact nos hF
    | succ n278 ih278 =>
      intro c_bag_total c_bag_often c_rest_length c_rest_signs c_smooth_all c_smooth_inCell c_smooth_madeFor c_smooth_starting c_smooth_weight c_work_length c_work_signs x1 x5 H locs ls hP hD hS hl hF
      rw [F_X5_digest_L278] at hF
      refine lv_iload hx hb dX5_digest_278 (lv_at hl 2 rfl) ?_
      refine lv_aload_n hx hb dX5_digest_280 rfl (lv_at hl 0 rfl) ?_
      refine get_X5_39 hx hb hts hown hK hP 0 rfl rfl dX5_digest_281 ?_
      obtain ⟨r284, hr284, hF⟩ := opb hF
      refine kVI (As := []) (rest := [.int x5]) (ws' := (wd_X5_digest cI a_t a_row a_work a_rest a_bag a_smooth a_text a_saves a_bag_often a_rest_signs a_row_signs a_saves_slots a_smooth_madeFor a_smooth_weight a_smooth_inCell a_smooth_all a_smooth_starting a_text_codes a_work_signs c_gone c_bag_total c_bag_often c_rest_length c_rest_signs c_row_length c_row_signs c_saves_held c_smooth_all c_smooth_inCell c_smooth_madeFor c_smooth_starting c_smooth_weight c_text_length c_text_codes c_work_length c_work_signs)) ⟨hx, hb, hml, hown, hts⟩ (c_X4_length l D cI a_text a_text_codes H.size c_text_length  r284 hr284) (cwV 0 hts mw_X5_143 rfl rfl rfl hd_X4_length ⟨Nat.le_of_ble_eq_true rfl, Nat.le_of_ble_eq_true rfl⟩) hS hA hG hK hP hD [14] rfl rfl rfl rfl rfl ⟨Nat.zero_le _, Nat.zero_le _⟩ 4 14 rfl rfl rfl rfl hl.1 rfl (Nat.le_of_ble_eq_true rfl) dX5_digest_284 (fun H locs hP hD hS => ?_)
      refine lv_icmp_ge (tgt := 311) hx hb dX5_digest_287 (by decide) (fun k287 => ?_) (fun k287 => ?_)
      · replace hF := (if_pos k287).symm.trans hF
        refine lv_lload_n hx hb dX5_digest_311 rfl (lv_at hl 1 rfl) ?_
        have ho := Option.some.inj hF
        exact hret H locs ls 312 x1 _ hP hS (by rw [← ho]) (by rw [← ho]) dX5_digest_312
      · replace hF := (if_neg k287).symm.trans hF
        refine lv_lload_n hx hb dX5_digest_290 rfl (lv_at hl 1 rfl) ?_
        refine lv_aload_n hx hb dX5_digest_291 rfl (lv_at hl 0 rfl) ?_
        refine get_X5_39 hx hb hts hown hK hP 0 rfl rfl dX5_digest_292 ?_
        refine lv_iload hx hb dX5_digest_295 (lv_at hl 2 rfl) ?_
        obtain ⟨r297, hr297, hF⟩ := opb hF
        refine kVI (As := [.int x5]) (rest := [.long x1]) (ws' := (wd_X5_digest cI a_t a_row a_work a_rest a_bag a_smooth a_text a_saves a_bag_often a_rest_signs a_row_signs a_saves_slots a_smooth_madeFor a_smooth_weight a_smooth_inCell a_smooth_all a_smooth_starting a_text_codes a_work_signs c_gone c_bag_total c_bag_often c_rest_length c_rest_signs c_row_length c_row_signs c_saves_held c_smooth_all c_smooth_inCell c_smooth_madeFor c_smooth_starting c_smooth_weight c_text_length c_text_codes c_work_length c_work_signs)) ⟨hx, hb, hml, hown, hts⟩ (c_X4_at l D cI a_text a_text_codes H.size c_text_length c_text_codes x5 r297 hr297) (cwV 1 hts mw_X5_274 rfl rfl rfl hd_X4_at ⟨Nat.le_of_ble_eq_true rfl, Nat.le_of_ble_eq_true rfl⟩) hS hA hG hK hP hD [14, 15] rfl rfl rfl rfl rfl ⟨Nat.zero_le _, Nat.zero_le _⟩ 4 14 rfl rfl rfl rfl hl.1 rfl (Nat.le_of_ble_eq_true rfl) dX5_digest_297 (fun H locs hP hD hS => ?_)
        refine lv_i2l hx hb dX5_digest_300 rfl ?_
        obtain ⟨r301, hr301, hF⟩ := opb hF
        refine kSL (As := [.long x1, .long ((r297).toInt64)]) (rest := []) (ws' := (wd_X5_digest cI a_t a_row a_work a_rest a_bag a_smooth a_text a_saves a_bag_often a_rest_signs a_row_signs a_saves_slots a_smooth_madeFor a_smooth_weight a_smooth_inCell a_smooth_all a_smooth_starting a_text_codes a_work_signs c_gone c_bag_total c_bag_often c_rest_length c_rest_signs c_row_length c_row_signs c_saves_held c_smooth_all c_smooth_inCell c_smooth_madeFor c_smooth_starting c_smooth_weight c_text_length c_text_codes c_work_length c_work_signs)) ⟨hx, hb, hml, hown, hts⟩ (c_X5_mixed l D cI  H.size  x1 ((r297).toInt64) r301 hr301) (va_cwS 2 hts mw_X5_234 rfl rfl rfl hd_X5_mixed ⟨Nat.le_of_ble_eq_true rfl, Nat.le_of_ble_eq_true rfl⟩) hS hA hG hK hP hD [] rfl rfl rfl rfl rfl ⟨Nat.zero_le _, Nat.zero_le _⟩ rfl hl.1 rfl (Nat.le_of_ble_eq_true rfl) dX5_digest_301 (fun H locs hP hD hS => ?_)
        refine lv_lstore_n (lv' := [(1, .long r301), (0, .ref a_t), (5, .int x5)]) hx hb dX5_digest_304 rfl hl (by decide) rfl (fun ls hl => ?_)
        refine lv_iinc (v := x5 + 1) (lv' := [(5, .int (x5 + 1)), (1, .long r301), (0, .ref a_t)]) hx hb dX5_digest_305 hl (k := 2) rfl rfl (by decide) rfl (fun ls hl => ?_)
        refine lv_goto (tgt := 278) hx hb dX5_digest_308 (by decide) ?_
        exact ih278 c_bag_total c_bag_often c_rest_length c_rest_signs c_smooth_all c_smooth_inCell c_smooth_madeFor c_smooth_starting c_smooth_weight c_work_length c_work_signs r301 (x5 + 1) H locs ls hP hD hS (lv_sub hl [2, 1, 0] rfl) hF
  have K226 : ∀ (n226 : Nat) (c_bag_total : Int32) (c_bag_often : Nat → Int32) (c_rest_length : Int32) (c_rest_signs : Nat → Int32) (c_smooth_all : Nat → Int32) (c_smooth_inCell : Nat → Int32) (c_smooth_madeFor : Nat → Int32) (c_smooth_starting : Nat → Int32) (c_smooth_weight : Nat → Int32) (c_work_length : Int32) (c_work_signs : Nat → Int32) (x1 : Int64) (x5 : Int32) (H : Heap) (locs : List Loc) (ls : Array Slot), va_P D vwCl (wd_X5_digest cI a_t a_row a_work a_rest a_bag a_smooth a_text a_saves a_bag_often a_rest_signs a_row_signs a_saves_slots a_smooth_madeFor a_smooth_weight a_smooth_inCell a_smooth_all a_smooth_starting a_text_codes a_work_signs c_gone c_bag_total c_bag_often c_rest_length c_rest_signs c_row_length c_row_signs c_saves_held c_smooth_all c_smooth_inCell c_smooth_madeFor c_smooth_starting c_smooth_weight c_text_length c_text_codes c_work_length c_work_signs) H → va_D A (wd_X5_digest cI a_t a_row a_work a_rest a_bag a_smooth a_text a_saves a_bag_often a_rest_signs a_row_signs a_saves_slots a_smooth_madeFor a_smooth_weight a_smooth_inCell a_smooth_all a_smooth_starting a_text_codes a_work_signs c_gone c_bag_total c_bag_often c_rest_length c_rest_signs c_row_length c_row_signs c_saves_held c_smooth_all c_smooth_inCell c_smooth_madeFor c_smooth_starting c_smooth_weight c_text_length c_text_codes c_work_length c_work_signs) → va_S A s.heap H locs → lv_has ls 6 [(0, .ref a_t), (1, .long x1), (5, .int x5)] → F_X5_digest_L226 c_gone c_row_length c_row_signs c_saves_held c_text_length c_text_codes n226 c_bag_total c_bag_often c_rest_length c_rest_signs c_smooth_all c_smooth_inCell c_smooth_madeFor c_smooth_starting c_smooth_weight c_work_length c_work_signs x1 x5 = some o → W p l e rm_X5_digest s m args below meth c H locs 0 0 Q (F0 m 226 ls []) := by
    intro n226
    induction n226 with
    | zero => intro c_bag_total c_bag_often c_rest_length c_rest_signs c_smooth_all c_smooth_inCell c_smooth_madeFor c_smooth_starting c_smooth_weight c_work_length c_work_signs x1 x5 H locs ls hP hD hS hl hF; exact nos hF
    | succ n226 ih226 =>
      intro c_bag_total c_bag_often c_rest_length c_rest_signs c_smooth_all c_smooth_inCell c_smooth_madeFor c_smooth_starting c_smooth_weight c_work_length c_work_signs x1 x5 H locs ls hP hD hS hl hF
      rw [F_X5_digest_L226] at hF
      refine lv_iload hx hb dX5_digest_226 (lv_at hl 2 rfl) ?_
      refine lv_iconst (v := 3) hx hb dX5_digest_228 (by decide) ?_
      refine lv_icmp_ge (tgt := 250) hx hb dX5_digest_229 (by decide) (fun k229 => ?_) (fun k229 => ?_)
      · replace hF := (if_pos k229).symm.trans hF
        refine lv_lload_n hx hb dX5_digest_250 rfl (lv_at hl 1 rfl) ?_
        refine lv_aload_n hx hb dX5_digest_251 rfl (lv_at hl 0 rfl) ?_
        obtain ⟨r252, hr252, hF⟩ := opb hF
        refine kVD (As := []) (rest := [.long x1]) (ws' := (wd_X5_digest cI a_t a_row a_work a_rest a_bag a_smooth a_text a_saves a_bag_often a_rest_signs a_row_signs a_saves_slots a_smooth_madeFor a_smooth_weight a_smooth_inCell a_smooth_all a_smooth_starting a_text_codes a_work_signs c_gone r252.2.1 r252.2.2 c_rest_length c_rest_signs c_row_length c_row_signs c_saves_held c_smooth_all c_smooth_inCell c_smooth_madeFor c_smooth_starting c_smooth_weight c_text_length c_text_codes c_work_length c_work_signs)) ⟨hx, hb, hml, hown, hts⟩ (c_X5_share l D cI a_t a_row a_work a_rest a_bag a_smooth a_text a_saves a_bag_often a_row_signs H.size c_gone c_bag_total c_bag_often c_row_length c_row_signs  r252 hr252) (cwV 0 hts mw_X5_266 rfl rfl rfl hd_X5_share ⟨Nat.le_of_ble_eq_true rfl, Nat.le_of_ble_eq_true rfl⟩) hS hA hG hK hP hD [0, 1, 2, 5, 6] rfl rfl rfl rfl rfl ⟨Nat.zero_le _, Nat.zero_le _⟩ 5 0 rfl rfl rfl rfl hl.1 rfl (Nat.le_of_ble_eq_true rfl) dX5_digest_252 (fun H locs hP hD hS => ?_)
        obtain ⟨r255, hr255, hF⟩ := opb hF
        refine kSL (As := [.double r252.1]) (rest := [.long x1]) (ws' := (wd_X5_digest cI a_t a_row a_work a_rest a_bag a_smooth a_text a_saves a_bag_often a_rest_signs a_row_signs a_saves_slots a_smooth_madeFor a_smooth_weight a_smooth_inCell a_smooth_all a_smooth_starting a_text_codes a_work_signs c_gone r252.2.1 r252.2.2 c_rest_length c_rest_signs c_row_length c_row_signs c_saves_held c_smooth_all c_smooth_inCell c_smooth_madeFor c_smooth_starting c_smooth_weight c_text_length c_text_codes c_work_length c_work_signs)) ⟨hx, hb, hml, hown, hts⟩ (c_X5_bitsOf l D cI  H.size  r252.1 r255 hr255) (va_cwS 1 hts mw_X5_270 rfl rfl rfl hd_X5_bitsOf ⟨Nat.le_of_ble_eq_true rfl, Nat.le_of_ble_eq_true rfl⟩) hS hA hG hK hP hD [] rfl rfl rfl rfl rfl ⟨Nat.zero_le _, Nat.zero_le _⟩ rfl hl.1 rfl (Nat.le_of_ble_eq_true rfl) dX5_digest_255 (fun H locs hP hD hS => ?_)
        obtain ⟨r258, hr258, hF⟩ := opb hF
        refine kSL (As := [.long x1, .long r255]) (rest := []) (ws' := (wd_X5_digest cI a_t a_row a_work a_rest a_bag a_smooth a_text a_saves a_bag_often a_rest_signs a_row_signs a_saves_slots a_smooth_madeFor a_smooth_weight a_smooth_inCell a_smooth_all a_smooth_starting a_text_codes a_work_signs c_gone r252.2.1 r252.2.2 c_rest_length c_rest_signs c_row_length c_row_signs c_saves_held c_smooth_all c_smooth_inCell c_smooth_madeFor c_smooth_starting c_smooth_weight c_text_length c_text_codes c_work_length c_work_signs)) ⟨hx, hb, hml, hown, hts⟩ (c_X5_mixed l D cI  H.size  x1 r255 r258 hr258) (va_cwS 2 hts mw_X5_234 rfl rfl rfl hd_X5_mixed ⟨Nat.le_of_ble_eq_true rfl, Nat.le_of_ble_eq_true rfl⟩) hS hA hG hK hP hD [] rfl rfl rfl rfl rfl ⟨Nat.zero_le _, Nat.zero_le _⟩ rfl hl.1 rfl (Nat.le_of_ble_eq_true rfl) dX5_digest_258 (fun H locs hP hD hS => ?_)
        refine lv_lstore_n (lv' := [(1, .long r258), (0, .ref a_t), (5, .int x5)]) hx hb dX5_digest_261 rfl hl (by decide) rfl (fun ls hl => ?_)
        refine lv_lload_n hx hb dX5_digest_262 rfl (lv_at hl 0 rfl) ?_
        refine lv_aload_n hx hb dX5_digest_263 rfl (lv_at hl 1 rfl) ?_
        refine get_X5_39 hx hb hts hown hK hP 0 rfl rfl dX5_digest_264 ?_
        obtain ⟨r267, hr267, hF⟩ := opb hF
        refine kVI (As := []) (rest := [.long r258]) (ws' := (wd_X5_digest cI a_t a_row a_work a_rest a_bag a_smooth a_text a_saves a_bag_often a_rest_signs a_row_signs a_saves_slots a_smooth_madeFor a_smooth_weight a_smooth_inCell a_smooth_all a_smooth_starting a_text_codes a_work_signs c_gone r252.2.1 r252.2.2 c_rest_length c_rest_signs c_row_length c_row_signs c_saves_held c_smooth_all c_smooth_inCell c_smooth_madeFor c_smooth_starting c_smooth_weight c_text_length c_text_codes c_work_length c_work_signs)) ⟨hx, hb, hml, hown, hts⟩ (c_X4_length l D cI a_text a_text_codes H.size c_text_length  r267 hr267) (cwV 0 hts mw_X5_143 rfl rfl rfl hd_X4_length ⟨Nat.le_of_ble_eq_true rfl, Nat.le_of_ble_eq_true rfl⟩) hS hA hG hK hP hD [14] rfl rfl rfl rfl rfl ⟨Nat.zero_le _, Nat.zero_le _⟩ 4 14 rfl rfl rfl rfl hl.1 rfl (Nat.le_of_ble_eq_true rfl) dX5_digest_267 (fun H locs hP hD hS => ?_)
        refine lv_i2l hx hb dX5_digest_270 rfl ?_
        obtain ⟨r271, hr271, hF⟩ := opb hF
        refine kSL (As := [.long r258, .long ((r267).toInt64)]) (rest := []) (ws' := (wd_X5_digest cI a_t a_row a_work a_rest a_bag a_smooth a_text a_saves a_bag_often a_rest_signs a_row_signs a_saves_slots a_smooth_madeFor a_smooth_weight a_smooth_inCell a_smooth_all a_smooth_starting a_text_codes a_work_signs c_gone r252.2.1 r252.2.2 c_rest_length c_rest_signs c_row_length c_row_signs c_saves_held c_smooth_all c_smooth_inCell c_smooth_madeFor c_smooth_starting c_smooth_weight c_text_length c_text_codes c_work_length c_work_signs)) ⟨hx, hb, hml, hown, hts⟩ (c_X5_mixed l D cI  H.size  r258 ((r267).toInt64) r271 hr271) (va_cwS 2 hts mw_X5_234 rfl rfl rfl hd_X5_mixed ⟨Nat.le_of_ble_eq_true rfl, Nat.le_of_ble_eq_true rfl⟩) hS hA hG hK hP hD [] rfl rfl rfl rfl rfl ⟨Nat.zero_le _, Nat.zero_le _⟩ rfl hl.1 rfl (Nat.le_of_ble_eq_true rfl) dX5_digest_271 (fun H locs hP hD hS => ?_)
        refine lv_lstore_n (lv' := [(1, .long r271), (0, .ref a_t), (5, .int x5)]) hx hb dX5_digest_274 rfl hl (by decide) rfl (fun ls hl => ?_)
        refine lv_iconst (v := 0) hx hb dX5_digest_275 (by decide) ?_
        refine lv_istore (lv' := [(5, .int (0 : Int32)), (1, .long r271), (0, .ref a_t)]) hx hb dX5_digest_276 hl (by decide) rfl (fun ls hl => ?_)
        exact K278 FU r252.2.1 r252.2.2 c_rest_length c_rest_signs c_smooth_all c_smooth_inCell c_smooth_madeFor c_smooth_starting c_smooth_weight c_work_length c_work_signs r271 (0 : Int32) H locs ls hP hD hS (lv_sub hl [2, 1, 0] rfl) hF
      · replace hF := (if_neg k229).symm.trans hF
        refine lv_lload_n hx hb dX5_digest_232 rfl (lv_at hl 1 rfl) ?_
        refine lv_aload_n hx hb dX5_digest_233 rfl (lv_at hl 0 rfl) ?_
        refine lv_iload hx hb dX5_digest_234 (lv_at hl 2 rfl) ?_
        obtain ⟨r236, hr236, hF⟩ := opb hF
        refine kVI (As := [.int x5]) (rest := [.long x1]) (ws' := (wd_X5_digest cI a_t a_row a_work a_rest a_bag a_smooth a_text a_saves a_bag_often a_rest_signs a_row_signs a_saves_slots a_smooth_madeFor a_smooth_weight a_smooth_inCell a_smooth_all a_smooth_starting a_text_codes a_work_signs c_gone r236.2.1 r236.2.2.1 c_rest_length c_rest_signs c_row_length c_row_signs c_saves_held c_smooth_all c_smooth_inCell c_smooth_madeFor c_smooth_starting c_smooth_weight c_text_length c_text_codes r236.2.2.2.1 r236.2.2.2.2)) ⟨hx, hb, hml, hown, hts⟩ (c_X5_bestSwap l D cI a_t a_row a_work a_rest a_bag a_smooth a_text a_saves a_bag_often a_row_signs a_work_signs H.size c_gone c_bag_total c_bag_often c_row_length c_row_signs c_work_length c_work_signs x5 r236 hr236) (cwV 1 hts mw_X5_263 rfl rfl rfl hd_X5_bestSwap ⟨Nat.le_of_ble_eq_true rfl, Nat.le_of_ble_eq_true rfl⟩) hS hA hG hK hP hD [0, 1, 2, 5, 6, 16, 17] rfl rfl rfl rfl rfl ⟨Nat.zero_le _, Nat.zero_le _⟩ 5 0 rfl rfl rfl rfl hl.1 rfl (Nat.le_of_ble_eq_true rfl) dX5_digest_236 (fun H locs hP hD hS => ?_)
        refine lv_i2l hx hb dX5_digest_239 rfl ?_
        obtain ⟨r240, hr240, hF⟩ := opb hF
        refine kSL (As := [.long x1, .long ((r236.1).toInt64)]) (rest := []) (ws' := (wd_X5_digest cI a_t a_row a_work a_rest a_bag a_smooth a_text a_saves a_bag_often a_rest_signs a_row_signs a_saves_slots a_smooth_madeFor a_smooth_weight a_smooth_inCell a_smooth_all a_smooth_starting a_text_codes a_work_signs c_gone r236.2.1 r236.2.2.1 c_rest_length c_rest_signs c_row_length c_row_signs c_saves_held c_smooth_all c_smooth_inCell c_smooth_madeFor c_smooth_starting c_smooth_weight c_text_length c_text_codes r236.2.2.2.1 r236.2.2.2.2)) ⟨hx, hb, hml, hown, hts⟩ (c_X5_mixed l D cI  H.size  x1 ((r236.1).toInt64) r240 hr240) (va_cwS 2 hts mw_X5_234 rfl rfl rfl hd_X5_mixed ⟨Nat.le_of_ble_eq_true rfl, Nat.le_of_ble_eq_true rfl⟩) hS hA hG hK hP hD [] rfl rfl rfl rfl rfl ⟨Nat.zero_le _, Nat.zero_le _⟩ rfl hl.1 rfl (Nat.le_of_ble_eq_true rfl) dX5_digest_240 (fun H locs hP hD hS => ?_)
        refine lv_lstore_n (lv' := [(1, .long r240), (0, .ref a_t), (5, .int x5)]) hx hb dX5_digest_243 rfl hl (by decide) rfl (fun ls hl => ?_)
        refine lv_iinc (v := x5 + 1) (lv' := [(5, .int (x5 + 1)), (1, .long r240), (0, .ref a_t)]) hx hb dX5_digest_244 hl (k := 2) rfl rfl (by decide) rfl (fun ls hl => ?_)
        refine lv_goto (tgt := 226) hx hb dX5_digest_247 (by decide) ?_
        exact ih226 r236.2.1 r236.2.2.1 c_rest_length c_rest_signs c_smooth_all c_smooth_inCell c_smooth_madeFor c_smooth_starting c_smooth_weight r236.2.2.2.1 r236.2.2.2.2 r240 (x5 + 1) H locs ls hP hD hS (lv_sub hl [2, 1, 0] rfl) hF
  have K179 : ∀ (n179 : Nat) (c_bag_total : Int32) (c_bag_often : Nat → Int32) (c_rest_length : Int32) (c_rest_signs : Nat → Int32) (c_smooth_all : Nat → Int32) (c_smooth_inCell : Nat → Int32) (c_smooth_madeFor : Nat → Int32) (c_smooth_starting : Nat → Int32) (c_smooth_weight : Nat → Int32) (c_work_length : Int32) (c_work_signs : Nat → Int32) (x1 : Int64) (x4 : Int32) (x5 : Int32) (H : Heap) (locs : List Loc) (ls : Array Slot), va_P D vwCl (wd_X5_digest cI a_t a_row a_work a_rest a_bag a_smooth a_text a_saves a_bag_often a_rest_signs a_row_signs a_saves_slots a_smooth_madeFor a_smooth_weight a_smooth_inCell a_smooth_all a_smooth_starting a_text_codes a_work_signs c_gone c_bag_total c_bag_often c_rest_length c_rest_signs c_row_length c_row_signs c_saves_held c_smooth_all c_smooth_inCell c_smooth_madeFor c_smooth_starting c_smooth_weight c_text_length c_text_codes c_work_length c_work_signs) H → va_D A (wd_X5_digest cI a_t a_row a_work a_rest a_bag a_smooth a_text a_saves a_bag_often a_rest_signs a_row_signs a_saves_slots a_smooth_madeFor a_smooth_weight a_smooth_inCell a_smooth_all a_smooth_starting a_text_codes a_work_signs c_gone c_bag_total c_bag_often c_rest_length c_rest_signs c_row_length c_row_signs c_saves_held c_smooth_all c_smooth_inCell c_smooth_madeFor c_smooth_starting c_smooth_weight c_text_length c_text_codes c_work_length c_work_signs) → va_S A s.heap H locs → lv_has ls 6 [(0, .ref a_t), (1, .long x1), (4, .int x4), (5, .int x5)] → F_X5_digest_L179 c_gone c_row_length c_row_signs c_saves_held c_text_length c_text_codes n179 c_bag_total c_bag_often c_rest_length c_rest_signs c_smooth_all c_smooth_inCell c_smooth_madeFor c_smooth_starting c_smooth_weight c_work_length c_work_signs x1 x4 x5 = some o → W p l e rm_X5_digest s m args below meth c H locs 0 0 Q (F0 m 179 ls []) := by
    intro n179
    induction n179 with
    | zero => intro c_bag_total c_bag_often c_rest_length c_rest_signs c_smooth_all c_smooth_inCell c_smooth_madeFor c_smooth_starting c_smooth_weight c_work_length c_work_signs x1 x4 x5 H locs ls hP hD hS hl hF; exact nos hF
    | succ n179 ih179 =>
      intro c_bag_total c_bag_often c_rest_length c_rest_signs c_smooth_all c_smooth_inCell c_smooth_madeFor c_smooth_starting c_smooth_weight c_work_length c_work_signs x1 x4 x5 H locs ls hP hD hS hl hF
      rw [F_X5_digest_L179] at hF
      refine lv_iload hx hb dX5_digest_179 (lv_at hl 3 rfl) ?_
      refine lv_aload_n hx hb dX5_digest_181 rfl (lv_at hl 0 rfl) ?_
      refine get_X5_10 hx hb hts hown hK hP 0 rfl rfl dX5_digest_182 ?_
      obtain ⟨r185, hr185, hF⟩ := opb hF
      refine kVI (As := []) (rest := [.int x5]) (ws' := (wd_X5_digest cI a_t a_row a_work a_rest a_bag a_smooth a_text a_saves a_bag_often a_rest_signs a_row_signs a_saves_slots a_smooth_madeFor a_smooth_weight a_smooth_inCell a_smooth_all a_smooth_starting a_text_codes a_work_signs c_gone c_bag_total c_bag_often c_rest_length c_rest_signs c_row_length c_row_signs c_saves_held c_smooth_all c_smooth_inCell c_smooth_madeFor c_smooth_starting c_smooth_weight c_text_length c_text_codes c_work_length c_work_signs)) ⟨hx, hb, hml, hown, hts⟩ (c_X1_length l D cI a_row a_row_signs H.size c_row_length  r185 hr185) (cwV 0 hts mw_X5_79 rfl rfl rfl hd_X1_length ⟨Nat.le_of_ble_eq_true rfl, Nat.le_of_ble_eq_true rfl⟩) hS hA hG hK hP hD [5] rfl rfl rfl rfl rfl ⟨Nat.zero_le _, Nat.zero_le _⟩ 1 5 rfl rfl rfl rfl hl.1 rfl (Nat.le_of_ble_eq_true rfl) dX5_digest_185 (fun H locs hP hD hS => ?_)
      refine lv_icmp_ge (tgt := 211) hx hb dX5_digest_188 (by decide) (fun k188 => ?_) (fun k188 => ?_)
      · replace hF := (if_pos k188).symm.trans hF
        refine lv_lload_n hx hb dX5_digest_211 rfl (lv_at hl 1 rfl) ?_
        refine lv_aload_n hx hb dX5_digest_212 rfl (lv_at hl 0 rfl) ?_
        refine lv_iload hx hb dX5_digest_213 (lv_at hl 2 rfl) ?_
        obtain ⟨r215, hr215, hF⟩ := opb hF
        refine kVI (As := [.int x4]) (rest := [.long x1]) (ws' := (wd_X5_digest cI a_t a_row a_work a_rest a_bag a_smooth a_text a_saves a_bag_often a_rest_signs a_row_signs a_saves_slots a_smooth_madeFor a_smooth_weight a_smooth_inCell a_smooth_all a_smooth_starting a_text_codes a_work_signs c_gone r215.2.1 r215.2.2.1 r215.2.2.2.1 r215.2.2.2.2.1 c_row_length c_row_signs c_saves_held c_smooth_all c_smooth_inCell c_smooth_madeFor c_smooth_starting c_smooth_weight c_text_length c_text_codes r215.2.2.2.2.2.1 r215.2.2.2.2.2.2)) ⟨hx, hb, hml, hown, hts⟩ (c_X5_stepsTo l D cI a_t a_row a_work a_rest a_bag a_smooth a_text a_saves a_bag_often a_rest_signs a_row_signs a_work_signs H.size c_gone c_bag_total c_bag_often c_rest_length c_rest_signs c_row_length c_row_signs c_work_length c_work_signs x4 r215 hr215) (cwV 1 hts mw_X5_260 rfl rfl rfl hd_X5_stepsTo ⟨Nat.le_of_ble_eq_true rfl, Nat.le_of_ble_eq_true rfl⟩) hS hA hG hK hP hD [0, 1, 2, 3, 4, 5, 6, 16, 17] rfl rfl rfl rfl rfl ⟨Nat.zero_le _, Nat.zero_le _⟩ 5 0 rfl rfl rfl rfl hl.1 rfl (Nat.le_of_ble_eq_true rfl) dX5_digest_215 (fun H locs hP hD hS => ?_)
        refine lv_i2l hx hb dX5_digest_218 rfl ?_
        obtain ⟨r219, hr219, hF⟩ := opb hF
        refine kSL (As := [.long x1, .long ((r215.1).toInt64)]) (rest := []) (ws' := (wd_X5_digest cI a_t a_row a_work a_rest a_bag a_smooth a_text a_saves a_bag_often a_rest_signs a_row_signs a_saves_slots a_smooth_madeFor a_smooth_weight a_smooth_inCell a_smooth_all a_smooth_starting a_text_codes a_work_signs c_gone r215.2.1 r215.2.2.1 r215.2.2.2.1 r215.2.2.2.2.1 c_row_length c_row_signs c_saves_held c_smooth_all c_smooth_inCell c_smooth_madeFor c_smooth_starting c_smooth_weight c_text_length c_text_codes r215.2.2.2.2.2.1 r215.2.2.2.2.2.2)) ⟨hx, hb, hml, hown, hts⟩ (c_X5_mixed l D cI  H.size  x1 ((r215.1).toInt64) r219 hr219) (va_cwS 2 hts mw_X5_234 rfl rfl rfl hd_X5_mixed ⟨Nat.le_of_ble_eq_true rfl, Nat.le_of_ble_eq_true rfl⟩) hS hA hG hK hP hD [] rfl rfl rfl rfl rfl ⟨Nat.zero_le _, Nat.zero_le _⟩ rfl hl.1 rfl (Nat.le_of_ble_eq_true rfl) dX5_digest_219 (fun H locs hP hD hS => ?_)
        refine lv_lstore_n (lv' := [(1, .long r219), (0, .ref a_t), (4, .int x4), (5, .int x5)]) hx hb dX5_digest_222 rfl hl (by decide) rfl (fun ls hl => ?_)
        refine lv_iconst (v := 0) hx hb dX5_digest_223 (by decide) ?_
        refine lv_istore (lv' := [(5, .int (0 : Int32)), (1, .long r219), (0, .ref a_t), (4, .int x4)]) hx hb dX5_digest_224 hl (by decide) rfl (fun ls hl => ?_)
        exact K226 FU r215.2.1 r215.2.2.1 r215.2.2.2.1 r215.2.2.2.2.1 c_smooth_all c_smooth_inCell c_smooth_madeFor c_smooth_starting c_smooth_weight r215.2.2.2.2.2.1 r215.2.2.2.2.2.2 r219 (0 : Int32) H locs ls hP hD hS (lv_sub hl [2, 1, 0] rfl) hF
      · replace hF := (if_neg k188).symm.trans hF
        refine lv_lload_n hx hb dX5_digest_191 rfl (lv_at hl 1 rfl) ?_
        refine lv_aload_n hx hb dX5_digest_192 rfl (lv_at hl 0 rfl) ?_
        refine lv_iload hx hb dX5_digest_193 (lv_at hl 2 rfl) ?_
        refine lv_iload hx hb dX5_digest_195 (lv_at hl 3 rfl) ?_
        obtain ⟨r197, hr197, hF⟩ := opb hF
        refine kVI (As := [.int x4, .int x5]) (rest := [.long x1]) (ws' := (wd_X5_digest cI a_t a_row a_work a_rest a_bag a_smooth a_text a_saves a_bag_often a_rest_signs a_row_signs a_saves_slots a_smooth_madeFor a_smooth_weight a_smooth_inCell a_smooth_all a_smooth_starting a_text_codes a_work_signs c_gone r197.2.1 r197.2.2.1 c_rest_length c_rest_signs c_row_length c_row_signs c_saves_held c_smooth_all c_smooth_inCell c_smooth_madeFor c_smooth_starting c_smooth_weight c_text_length c_text_codes r197.2.2.2.1 r197.2.2.2.2)) ⟨hx, hb, hml, hown, hts⟩ (c_X5_signOf l D cI a_t a_row a_work a_rest a_bag a_smooth a_text a_saves a_bag_often a_row_signs a_work_signs H.size c_gone c_bag_total c_bag_often c_row_length c_row_signs c_work_length c_work_signs x4 x5 r197 hr197) (cwV 2 hts mw_X5_257 rfl rfl rfl hd_X5_signOf ⟨Nat.le_of_ble_eq_true rfl, Nat.le_of_ble_eq_true rfl⟩) hS hA hG hK hP hD [0, 1, 2, 5, 6, 16, 17] rfl rfl rfl rfl rfl ⟨Nat.zero_le _, Nat.zero_le _⟩ 5 0 rfl rfl rfl rfl hl.1 rfl (Nat.le_of_ble_eq_true rfl) dX5_digest_197 (fun H locs hP hD hS => ?_)
        refine lv_i2l hx hb dX5_digest_200 rfl ?_
        obtain ⟨r201, hr201, hF⟩ := opb hF
        refine kSL (As := [.long x1, .long ((r197.1).toInt64)]) (rest := []) (ws' := (wd_X5_digest cI a_t a_row a_work a_rest a_bag a_smooth a_text a_saves a_bag_often a_rest_signs a_row_signs a_saves_slots a_smooth_madeFor a_smooth_weight a_smooth_inCell a_smooth_all a_smooth_starting a_text_codes a_work_signs c_gone r197.2.1 r197.2.2.1 c_rest_length c_rest_signs c_row_length c_row_signs c_saves_held c_smooth_all c_smooth_inCell c_smooth_madeFor c_smooth_starting c_smooth_weight c_text_length c_text_codes r197.2.2.2.1 r197.2.2.2.2)) ⟨hx, hb, hml, hown, hts⟩ (c_X5_mixed l D cI  H.size  x1 ((r197.1).toInt64) r201 hr201) (va_cwS 2 hts mw_X5_234 rfl rfl rfl hd_X5_mixed ⟨Nat.le_of_ble_eq_true rfl, Nat.le_of_ble_eq_true rfl⟩) hS hA hG hK hP hD [] rfl rfl rfl rfl rfl ⟨Nat.zero_le _, Nat.zero_le _⟩ rfl hl.1 rfl (Nat.le_of_ble_eq_true rfl) dX5_digest_201 (fun H locs hP hD hS => ?_)
        refine lv_lstore_n (lv' := [(1, .long r201), (0, .ref a_t), (4, .int x4), (5, .int x5)]) hx hb dX5_digest_204 rfl hl (by decide) rfl (fun ls hl => ?_)
        refine lv_iinc (v := x5 + 1) (lv' := [(5, .int (x5 + 1)), (1, .long r201), (0, .ref a_t), (4, .int x4)]) hx hb dX5_digest_205 hl (k := 3) rfl rfl (by decide) rfl (fun ls hl => ?_)
        refine lv_goto (tgt := 179) hx hb dX5_digest_208 (by decide) ?_
        exact ih179 r197.2.1 r197.2.2.1 c_rest_length c_rest_signs c_smooth_all c_smooth_inCell c_smooth_madeFor c_smooth_starting c_smooth_weight r197.2.2.2.1 r197.2.2.2.2 r201 x4 (x5 + 1) H locs ls hP hD hS (lv_sub hl [2, 1, 3, 0] rfl) hF
  have K143 : ∀ (n143 : Nat) (c_bag_total : Int32) (c_bag_often : Nat → Int32) (c_rest_length : Int32) (c_rest_signs : Nat → Int32) (c_smooth_all : Nat → Int32) (c_smooth_inCell : Nat → Int32) (c_smooth_madeFor : Nat → Int32) (c_smooth_starting : Nat → Int32) (c_smooth_weight : Nat → Int32) (c_work_length : Int32) (c_work_signs : Nat → Int32) (x1 : Int64) (x4 : Int32) (H : Heap) (locs : List Loc) (ls : Array Slot), va_P D vwCl (wd_X5_digest cI a_t a_row a_work a_rest a_bag a_smooth a_text a_saves a_bag_often a_rest_signs a_row_signs a_saves_slots a_smooth_madeFor a_smooth_weight a_smooth_inCell a_smooth_all a_smooth_starting a_text_codes a_work_signs c_gone c_bag_total c_bag_often c_rest_length c_rest_signs c_row_length c_row_signs c_saves_held c_smooth_all c_smooth_inCell c_smooth_madeFor c_smooth_starting c_smooth_weight c_text_length c_text_codes c_work_length c_work_signs) H → va_D A (wd_X5_digest cI a_t a_row a_work a_rest a_bag a_smooth a_text a_saves a_bag_often a_rest_signs a_row_signs a_saves_slots a_smooth_madeFor a_smooth_weight a_smooth_inCell a_smooth_all a_smooth_starting a_text_codes a_work_signs c_gone c_bag_total c_bag_often c_rest_length c_rest_signs c_row_length c_row_signs c_saves_held c_smooth_all c_smooth_inCell c_smooth_madeFor c_smooth_starting c_smooth_weight c_text_length c_text_codes c_work_length c_work_signs) → va_S A s.heap H locs → lv_has ls 6 [(0, .ref a_t), (1, .long x1), (4, .int x4)] → F_X5_digest_L143 c_gone c_row_length c_row_signs c_saves_held c_text_length c_text_codes n143 c_bag_total c_bag_often c_rest_length c_rest_signs c_smooth_all c_smooth_inCell c_smooth_madeFor c_smooth_starting c_smooth_weight c_work_length c_work_signs x1 x4 = some o → W p l e rm_X5_digest s m args below meth c H locs 0 0 Q (F0 m 143 ls []) := by
    intro n143
    induction n143 with
    | zero => intro c_bag_total c_bag_often c_rest_length c_rest_signs c_smooth_all c_smooth_inCell c_smooth_madeFor c_smooth_starting c_smooth_weight c_work_length c_work_signs x1 x4 H locs ls hP hD hS hl hF; exact nos hF
    | succ n143 ih143 =>
      intro c_bag_total c_bag_often c_rest_length c_rest_signs c_smooth_all c_smooth_inCell c_smooth_madeFor c_smooth_starting c_smooth_weight c_work_length c_work_signs x1 x4 H locs ls hP hD hS hl hF
      rw [F_X5_digest_L143] at hF
      refine lv_iload hx hb dX5_digest_143 (lv_at hl 2 rfl) ?_
      refine lv_bipush (v := 6) hx hb dX5_digest_145 (by decide) ?_
      refine lv_icmp_ge (tgt := 168) hx hb dX5_digest_147 (by decide) (fun k147 => ?_) (fun k147 => ?_)
      · replace hF := (if_pos k147).symm.trans hF
        refine lv_aload_n hx hb dX5_digest_168 rfl (lv_at hl 0 rfl) ?_
        obtain ⟨r169, hr169, hF⟩ := opb hF
        refine kVI (As := []) (rest := []) (ws' := (wd_X5_digest cI a_t a_row a_work a_rest a_bag a_smooth a_text a_saves a_bag_often a_rest_signs a_row_signs a_saves_slots a_smooth_madeFor a_smooth_weight a_smooth_inCell a_smooth_all a_smooth_starting a_text_codes a_work_signs c_gone r169.2.1 r169.2.2 c_rest_length c_rest_signs c_row_length c_row_signs c_saves_held c_smooth_all c_smooth_inCell c_smooth_madeFor c_smooth_starting c_smooth_weight c_text_length c_text_codes c_work_length c_work_signs)) ⟨hx, hb, hml, hown, hts⟩ (c_X5_all l D cI a_t a_row a_work a_rest a_bag a_smooth a_text a_saves a_bag_often a_row_signs H.size c_gone c_bag_total c_bag_often c_row_length c_row_signs  r169 hr169) (cwV 0 hts mw_X5_65 rfl rfl rfl hd_X5_all ⟨Nat.le_of_ble_eq_true rfl, Nat.le_of_ble_eq_true rfl⟩) hS hA hG hK hP hD [0, 1, 2, 5, 6] rfl rfl rfl rfl rfl ⟨Nat.zero_le _, Nat.zero_le _⟩ 5 0 rfl rfl rfl rfl hl.1 rfl (Nat.le_of_ble_eq_true rfl) dX5_digest_169 (fun H locs hP hD hS => ?_)
        refine lv_iconst (v := 2) hx hb dX5_digest_172 (by decide) ?_
        obtain ⟨g173, hF⟩ := gdb hF
        refine lv_idiv hx hb dX5_digest_173 (nzb g173) ?_
        refine lv_istore (lv' := [(4, .int (r169.1 / (2 : Int32))), (0, .ref a_t), (1, .long x1)]) hx hb dX5_digest_174 hl (by decide) rfl (fun ls hl => ?_)
        refine lv_iconst (v := 0) hx hb dX5_digest_176 (by decide) ?_
        refine lv_istore (lv' := [(5, .int (0 : Int32)), (4, .int (r169.1 / (2 : Int32))), (0, .ref a_t), (1, .long x1)]) hx hb dX5_digest_177 hl (by decide) rfl (fun ls hl => ?_)
        exact K179 FU r169.2.1 r169.2.2 c_rest_length c_rest_signs c_smooth_all c_smooth_inCell c_smooth_madeFor c_smooth_starting c_smooth_weight c_work_length c_work_signs x1 (r169.1 / (2 : Int32)) (0 : Int32) H locs ls hP hD hS (lv_sub hl [2, 3, 1, 0] rfl) hF
      · replace hF := (if_neg k147).symm.trans hF
        refine lv_lload_n hx hb dX5_digest_150 rfl (lv_at hl 1 rfl) ?_
        refine lv_aload_n hx hb dX5_digest_151 rfl (lv_at hl 0 rfl) ?_
        refine lv_iload hx hb dX5_digest_152 (lv_at hl 2 rfl) ?_
        obtain ⟨r154, hr154, hF⟩ := opb hF
        refine kVI (As := [.int x4]) (rest := [.long x1]) (ws' := (wd_X5_digest cI a_t a_row a_work a_rest a_bag a_smooth a_text a_saves a_bag_often a_rest_signs a_row_signs a_saves_slots a_smooth_madeFor a_smooth_weight a_smooth_inCell a_smooth_all a_smooth_starting a_text_codes a_work_signs c_gone r154.2.1 r154.2.2 c_rest_length c_rest_signs c_row_length c_row_signs c_saves_held c_smooth_all c_smooth_inCell c_smooth_madeFor c_smooth_starting c_smooth_weight c_text_length c_text_codes c_work_length c_work_signs)) ⟨hx, hb, hml, hown, hts⟩ (c_X5_many l D cI a_t a_row a_work a_rest a_bag a_smooth a_text a_saves a_bag_often a_row_signs H.size c_gone c_bag_total c_bag_often c_row_length c_row_signs x4 r154 hr154) (cwV 1 hts mw_X5_254 rfl rfl rfl hd_X5_many ⟨Nat.le_of_ble_eq_true rfl, Nat.le_of_ble_eq_true rfl⟩) hS hA hG hK hP hD [0, 1, 2, 5, 6] rfl rfl rfl rfl rfl ⟨Nat.zero_le _, Nat.zero_le _⟩ 5 0 rfl rfl rfl rfl hl.1 rfl (Nat.le_of_ble_eq_true rfl) dX5_digest_154 (fun H locs hP hD hS => ?_)
        refine lv_i2l hx hb dX5_digest_157 rfl ?_
        obtain ⟨r158, hr158, hF⟩ := opb hF
        refine kSL (As := [.long x1, .long ((r154.1).toInt64)]) (rest := []) (ws' := (wd_X5_digest cI a_t a_row a_work a_rest a_bag a_smooth a_text a_saves a_bag_often a_rest_signs a_row_signs a_saves_slots a_smooth_madeFor a_smooth_weight a_smooth_inCell a_smooth_all a_smooth_starting a_text_codes a_work_signs c_gone r154.2.1 r154.2.2 c_rest_length c_rest_signs c_row_length c_row_signs c_saves_held c_smooth_all c_smooth_inCell c_smooth_madeFor c_smooth_starting c_smooth_weight c_text_length c_text_codes c_work_length c_work_signs)) ⟨hx, hb, hml, hown, hts⟩ (c_X5_mixed l D cI  H.size  x1 ((r154.1).toInt64) r158 hr158) (va_cwS 2 hts mw_X5_234 rfl rfl rfl hd_X5_mixed ⟨Nat.le_of_ble_eq_true rfl, Nat.le_of_ble_eq_true rfl⟩) hS hA hG hK hP hD [] rfl rfl rfl rfl rfl ⟨Nat.zero_le _, Nat.zero_le _⟩ rfl hl.1 rfl (Nat.le_of_ble_eq_true rfl) dX5_digest_158 (fun H locs hP hD hS => ?_)
        refine lv_lstore_n (lv' := [(1, .long r158), (0, .ref a_t), (4, .int x4)]) hx hb dX5_digest_161 rfl hl (by decide) rfl (fun ls hl => ?_)
        refine lv_iinc (v := x4 + 1) (lv' := [(4, .int (x4 + 1)), (1, .long r158), (0, .ref a_t)]) hx hb dX5_digest_162 hl (k := 2) rfl rfl (by decide) rfl (fun ls hl => ?_)
        refine lv_goto (tgt := 143) hx hb dX5_digest_165 (by decide) ?_
        exact ih143 r154.2.1 r154.2.2 c_rest_length c_rest_signs c_smooth_all c_smooth_inCell c_smooth_madeFor c_smooth_starting c_smooth_weight c_work_length c_work_signs r158 (x4 + 1) H locs ls hP hD hS (lv_sub hl [2, 1, 0] rfl) hF
  have K41 : ∀ (n41 : Nat) (c_bag_total : Int32) (c_bag_often : Nat → Int32) (c_rest_length : Int32) (c_rest_signs : Nat → Int32) (c_smooth_all : Nat → Int32) (c_smooth_inCell : Nat → Int32) (c_smooth_madeFor : Nat → Int32) (c_smooth_starting : Nat → Int32) (c_smooth_weight : Nat → Int32) (c_work_length : Int32) (c_work_signs : Nat → Int32) (x1 : Int64) (x3 : Int32) (x4 : Int32) (H : Heap) (locs : List Loc) (ls : Array Slot), va_P D vwCl (wd_X5_digest cI a_t a_row a_work a_rest a_bag a_smooth a_text a_saves a_bag_often a_rest_signs a_row_signs a_saves_slots a_smooth_madeFor a_smooth_weight a_smooth_inCell a_smooth_all a_smooth_starting a_text_codes a_work_signs c_gone c_bag_total c_bag_often c_rest_length c_rest_signs c_row_length c_row_signs c_saves_held c_smooth_all c_smooth_inCell c_smooth_madeFor c_smooth_starting c_smooth_weight c_text_length c_text_codes c_work_length c_work_signs) H → va_D A (wd_X5_digest cI a_t a_row a_work a_rest a_bag a_smooth a_text a_saves a_bag_often a_rest_signs a_row_signs a_saves_slots a_smooth_madeFor a_smooth_weight a_smooth_inCell a_smooth_all a_smooth_starting a_text_codes a_work_signs c_gone c_bag_total c_bag_often c_rest_length c_rest_signs c_row_length c_row_signs c_saves_held c_smooth_all c_smooth_inCell c_smooth_madeFor c_smooth_starting c_smooth_weight c_text_length c_text_codes c_work_length c_work_signs) → va_S A s.heap H locs → lv_has ls 6 [(0, .ref a_t), (1, .long x1), (3, .int x3), (4, .int x4)] → F_X5_digest_L41 c_gone c_row_length c_row_signs c_saves_held c_text_length c_text_codes n41 c_bag_total c_bag_often c_rest_length c_rest_signs c_smooth_all c_smooth_inCell c_smooth_madeFor c_smooth_starting c_smooth_weight c_work_length c_work_signs x1 x3 x4 = some o → W p l e rm_X5_digest s m args below meth c H locs 0 0 Q (F0 m 41 ls []) := by
    intro n41
    induction n41 with
    | zero => intro c_bag_total c_bag_often c_rest_length c_rest_signs c_smooth_all c_smooth_inCell c_smooth_madeFor c_smooth_starting c_smooth_weight c_work_length c_work_signs x1 x3 x4 H locs ls hP hD hS hl hF; exact nos hF
    | succ n41 ih41 =>
      have K80 : ∀ (n80 : Nat) (c_bag_total : Int32) (c_bag_often : Nat → Int32) (c_rest_length : Int32) (c_rest_signs : Nat → Int32) (c_smooth_all : Nat → Int32) (c_smooth_inCell : Nat → Int32) (c_smooth_madeFor : Nat → Int32) (c_smooth_starting : Nat → Int32) (c_smooth_weight : Nat → Int32) (c_work_length : Int32) (c_work_signs : Nat → Int32) (x1 : Int64) (x3 : Int32) (x4 : Int32) (x5 : Int32) (H : Heap) (locs : List Loc) (ls : Array Slot), va_P D vwCl (wd_X5_digest cI a_t a_row a_work a_rest a_bag a_smooth a_text a_saves a_bag_often a_rest_signs a_row_signs a_saves_slots a_smooth_madeFor a_smooth_weight a_smooth_inCell a_smooth_all a_smooth_starting a_text_codes a_work_signs c_gone c_bag_total c_bag_often c_rest_length c_rest_signs c_row_length c_row_signs c_saves_held c_smooth_all c_smooth_inCell c_smooth_madeFor c_smooth_starting c_smooth_weight c_text_length c_text_codes c_work_length c_work_signs) H → va_D A (wd_X5_digest cI a_t a_row a_work a_rest a_bag a_smooth a_text a_saves a_bag_often a_rest_signs a_row_signs a_saves_slots a_smooth_madeFor a_smooth_weight a_smooth_inCell a_smooth_all a_smooth_starting a_text_codes a_work_signs c_gone c_bag_total c_bag_often c_rest_length c_rest_signs c_row_length c_row_signs c_saves_held c_smooth_all c_smooth_inCell c_smooth_madeFor c_smooth_starting c_smooth_weight c_text_length c_text_codes c_work_length c_work_signs) → va_S A s.heap H locs → lv_has ls 6 [(0, .ref a_t), (1, .long x1), (3, .int x3), (4, .int x4), (5, .int x5)] → F_X5_digest_L80 (F_X5_digest_L41 c_gone c_row_length c_row_signs c_saves_held c_text_length c_text_codes n41) c_gone c_row_length c_row_signs c_saves_held c_text_length c_text_codes n80 c_bag_total c_bag_often c_rest_length c_rest_signs c_smooth_all c_smooth_inCell c_smooth_madeFor c_smooth_starting c_smooth_weight c_work_length c_work_signs x1 x3 x4 x5 = some o → W p l e rm_X5_digest s m args below meth c H locs 0 0 Q (F0 m 80 ls []) := by
        intro n80
        induction n80 with
        | zero => intro c_bag_total c_bag_often c_rest_length c_rest_signs c_smooth_all c_smooth_inCell c_smooth_madeFor c_smooth_starting c_smooth_weight c_work_length c_work_signs x1 x3 x4 x5 H locs ls hP hD hS hl hF; exact nos hF
        | succ n80 ih80 =>
          intro c_bag_total c_bag_often c_rest_length c_rest_signs c_smooth_all c_smooth_inCell c_smooth_madeFor c_smooth_starting c_smooth_weight c_work_length c_work_signs x1 x3 x4 x5 H locs ls hP hD hS hl hF
          rw [F_X5_digest_L80] at hF
          refine lv_iload hx hb dX5_digest_80 (lv_at hl 4 rfl) ?_
          refine lv_iconst (v := 3) hx hb dX5_digest_82 (by decide) ?_
          refine lv_icmp_ge (tgt := 106) hx hb dX5_digest_83 (by decide) (fun k83 => ?_) (fun k83 => ?_)
          · replace hF := (if_pos k83).symm.trans hF
            refine lv_lload_n hx hb dX5_digest_106 rfl (lv_at hl 1 rfl) ?_
            refine lv_aload_n hx hb dX5_digest_107 rfl (lv_at hl 0 rfl) ?_
            refine lv_iload hx hb dX5_digest_108 (lv_at hl 3 rfl) ?_
            refine lv_iconst (v := 0) hx hb dX5_digest_110 (by decide) ?_
            obtain ⟨r111, hr111, hF⟩ := opb hF
            refine kVI (As := [.int x4, .int (0 : Int32)]) (rest := [.long x1]) (ws' := (wd_X5_digest cI a_t a_row a_work a_rest a_bag a_smooth a_text a_saves a_bag_often a_rest_signs a_row_signs a_saves_slots a_smooth_madeFor a_smooth_weight a_smooth_inCell a_smooth_all a_smooth_starting a_text_codes a_work_signs c_gone r111.2.1 r111.2.2.1 c_rest_length c_rest_signs c_row_length c_row_signs c_saves_held c_smooth_all c_smooth_inCell c_smooth_madeFor c_smooth_starting c_smooth_weight c_text_length c_text_codes r111.2.2.2.1 r111.2.2.2.2)) ⟨hx, hb, hml, hown, hts⟩ (c_X5_ifSwapped l D cI a_t a_row a_work a_rest a_bag a_smooth a_text a_saves a_bag_often a_row_signs a_work_signs H.size c_gone c_bag_total c_bag_often c_row_length c_row_signs c_work_length c_work_signs x4 (0 : Int32) r111 hr111) (cwV 2 hts mw_X5_247 rfl rfl rfl hd_X5_ifSwapped ⟨Nat.le_of_ble_eq_true rfl, Nat.le_of_ble_eq_true rfl⟩) hS hA hG hK hP hD [0, 1, 2, 5, 6, 16, 17] rfl rfl rfl rfl rfl ⟨Nat.zero_le _, Nat.zero_le _⟩ 5 0 rfl rfl rfl rfl hl.1 rfl (Nat.le_of_ble_eq_true rfl) dX5_digest_111 (fun H locs hP hD hS => ?_)
            refine lv_i2l hx hb dX5_digest_114 rfl ?_
            obtain ⟨r115, hr115, hF⟩ := opb hF
            refine kSL (As := [.long x1, .long ((r111.1).toInt64)]) (rest := []) (ws' := (wd_X5_digest cI a_t a_row a_work a_rest a_bag a_smooth a_text a_saves a_bag_often a_rest_signs a_row_signs a_saves_slots a_smooth_madeFor a_smooth_weight a_smooth_inCell a_smooth_all a_smooth_starting a_text_codes a_work_signs c_gone r111.2.1 r111.2.2.1 c_rest_length c_rest_signs c_row_length c_row_signs c_saves_held c_smooth_all c_smooth_inCell c_smooth_madeFor c_smooth_starting c_smooth_weight c_text_length c_text_codes r111.2.2.2.1 r111.2.2.2.2)) ⟨hx, hb, hml, hown, hts⟩ (c_X5_mixed l D cI  H.size  x1 ((r111.1).toInt64) r115 hr115) (va_cwS 2 hts mw_X5_234 rfl rfl rfl hd_X5_mixed ⟨Nat.le_of_ble_eq_true rfl, Nat.le_of_ble_eq_true rfl⟩) hS hA hG hK hP hD [] rfl rfl rfl rfl rfl ⟨Nat.zero_le _, Nat.zero_le _⟩ rfl hl.1 rfl (Nat.le_of_ble_eq_true rfl) dX5_digest_115 (fun H locs hP hD hS => ?_)
            refine lv_lstore_n (lv' := [(1, .long r115), (0, .ref a_t), (3, .int x3), (4, .int x4), (5, .int x5)]) hx hb dX5_digest_118 rfl hl (by decide) rfl (fun ls hl => ?_)
            refine lv_lload_n hx hb dX5_digest_119 rfl (lv_at hl 0 rfl) ?_
            refine lv_aload_n hx hb dX5_digest_120 rfl (lv_at hl 1 rfl) ?_
            refine lv_iconst (v := 0) hx hb dX5_digest_121 (by decide) ?_
            refine lv_iload_n hx hb dX5_digest_122 rfl (lv_at hl 2 rfl) ?_
            refine lv_iload hx hb dX5_digest_123 (lv_at hl 3 rfl) ?_
            refine lv_iconst (v := 0) hx hb dX5_digest_125 (by decide) ?_
            obtain ⟨r126, hr126, hF⟩ := opb hF
            refine kVI (As := [.int (0 : Int32), .int x3, .int x4, .int (0 : Int32)]) (rest := [.long r115]) (ws' := (wd_X5_digest cI a_t a_row a_work a_rest a_bag a_smooth a_text a_saves a_bag_often a_rest_signs a_row_signs a_saves_slots a_smooth_madeFor a_smooth_weight a_smooth_inCell a_smooth_all a_smooth_starting a_text_codes a_work_signs c_gone r126.2.1 r126.2.2.1 c_rest_length c_rest_signs c_row_length c_row_signs c_saves_held c_smooth_all c_smooth_inCell c_smooth_madeFor c_smooth_starting c_smooth_weight c_text_length c_text_codes r126.2.2.2.1 r126.2.2.2.2)) ⟨hx, hb, hml, hown, hts⟩ (c_X5_having l D cI a_t a_row a_work a_rest a_bag a_smooth a_text a_saves a_bag_often a_row_signs a_work_signs H.size c_gone r111.2.1 r111.2.2.1 c_row_length c_row_signs r111.2.2.2.1 r111.2.2.2.2 (0 : Int32) x3 x4 (0 : Int32) r126 hr126) (cwV 4 hts mw_X5_250 rfl rfl rfl hd_X5_having ⟨Nat.le_of_ble_eq_true rfl, Nat.le_of_ble_eq_true rfl⟩) hS hA hG hK hP hD [0, 1, 2, 5, 6, 16, 17] rfl rfl rfl rfl rfl ⟨Nat.zero_le _, Nat.zero_le _⟩ 5 0 rfl rfl rfl rfl hl.1 rfl (Nat.le_of_ble_eq_true rfl) dX5_digest_126 (fun H locs hP hD hS => ?_)
            refine lv_i2l hx hb dX5_digest_129 rfl ?_
            obtain ⟨r130, hr130, hF⟩ := opb hF
            refine kSL (As := [.long r115, .long ((r126.1).toInt64)]) (rest := []) (ws' := (wd_X5_digest cI a_t a_row a_work a_rest a_bag a_smooth a_text a_saves a_bag_often a_rest_signs a_row_signs a_saves_slots a_smooth_madeFor a_smooth_weight a_smooth_inCell a_smooth_all a_smooth_starting a_text_codes a_work_signs c_gone r126.2.1 r126.2.2.1 c_rest_length c_rest_signs c_row_length c_row_signs c_saves_held c_smooth_all c_smooth_inCell c_smooth_madeFor c_smooth_starting c_smooth_weight c_text_length c_text_codes r126.2.2.2.1 r126.2.2.2.2)) ⟨hx, hb, hml, hown, hts⟩ (c_X5_mixed l D cI  H.size  r115 ((r126.1).toInt64) r130 hr130) (va_cwS 2 hts mw_X5_234 rfl rfl rfl hd_X5_mixed ⟨Nat.le_of_ble_eq_true rfl, Nat.le_of_ble_eq_true rfl⟩) hS hA hG hK hP hD [] rfl rfl rfl rfl rfl ⟨Nat.zero_le _, Nat.zero_le _⟩ rfl hl.1 rfl (Nat.le_of_ble_eq_true rfl) dX5_digest_130 (fun H locs hP hD hS => ?_)
            refine lv_lstore_n (lv' := [(1, .long r130), (0, .ref a_t), (3, .int x3), (4, .int x4), (5, .int x5)]) hx hb dX5_digest_133 rfl hl (by decide) rfl (fun ls hl => ?_)
            refine lv_iinc (v := x4 + 1) (lv' := [(4, .int (x4 + 1)), (1, .long r130), (0, .ref a_t), (3, .int x3), (5, .int x5)]) hx hb dX5_digest_134 hl (k := 3) rfl rfl (by decide) rfl (fun ls hl => ?_)
            refine lv_goto (tgt := 41) hx hb dX5_digest_137 (by decide) ?_
            exact ih41 r126.2.1 r126.2.2.1 c_rest_length c_rest_signs c_smooth_all c_smooth_inCell c_smooth_madeFor c_smooth_starting c_smooth_weight r126.2.2.2.1 r126.2.2.2.2 r130 x3 (x4 + 1) H locs ls hP hD hS (lv_sub hl [2, 1, 3, 0] rfl) hF
          · replace hF := (if_neg k83).symm.trans hF
            refine lv_lload_n hx hb dX5_digest_86 rfl (lv_at hl 1 rfl) ?_
            refine lv_aload_n hx hb dX5_digest_87 rfl (lv_at hl 0 rfl) ?_
            refine lv_iload hx hb dX5_digest_88 (lv_at hl 3 rfl) ?_
            refine lv_iload hx hb dX5_digest_90 (lv_at hl 4 rfl) ?_
            obtain ⟨r92, hr92, hF⟩ := opb hF
            refine kVI (As := [.int x4, .int x5]) (rest := [.long x1]) (ws' := (wd_X5_digest cI a_t a_row a_work a_rest a_bag a_smooth a_text a_saves a_bag_often a_rest_signs a_row_signs a_saves_slots a_smooth_madeFor a_smooth_weight a_smooth_inCell a_smooth_all a_smooth_starting a_text_codes a_work_signs c_gone r92.2.1 r92.2.2.1 c_rest_length c_rest_signs c_row_length c_row_signs c_saves_held r92.2.2.2.1 r92.2.2.2.2.1 r92.2.2.2.2.2.1 r92.2.2.2.2.2.2.1 r92.2.2.2.2.2.2.2 c_text_length c_text_codes c_work_length c_work_signs)) ⟨hx, hb, hml, hown, hts⟩ (c_X5_block l D cI a_t a_row a_work a_rest a_bag a_smooth a_text a_saves a_bag_often a_row_signs a_smooth_madeFor a_smooth_weight a_smooth_inCell a_smooth_all a_smooth_starting H.size c_gone c_bag_total c_bag_often c_row_length c_row_signs c_smooth_all c_smooth_inCell c_smooth_madeFor c_smooth_starting c_smooth_weight x4 x5 r92 hr92) (cwV 2 hts mw_X5_244 rfl rfl rfl hd_X5_block ⟨Nat.le_of_ble_eq_true rfl, Nat.le_of_ble_eq_true rfl⟩) hS hA hG hK hP hD [0, 1, 2, 5, 6, 8, 9, 10, 11, 12, 13] rfl rfl rfl rfl rfl ⟨Nat.zero_le _, Nat.zero_le _⟩ 5 0 rfl rfl rfl rfl hl.1 rfl (Nat.le_of_ble_eq_true rfl) dX5_digest_92 (fun H locs hP hD hS => ?_)
            refine lv_i2l hx hb dX5_digest_95 rfl ?_
            obtain ⟨r96, hr96, hF⟩ := opb hF
            refine kSL (As := [.long x1, .long ((r92.1).toInt64)]) (rest := []) (ws' := (wd_X5_digest cI a_t a_row a_work a_rest a_bag a_smooth a_text a_saves a_bag_often a_rest_signs a_row_signs a_saves_slots a_smooth_madeFor a_smooth_weight a_smooth_inCell a_smooth_all a_smooth_starting a_text_codes a_work_signs c_gone r92.2.1 r92.2.2.1 c_rest_length c_rest_signs c_row_length c_row_signs c_saves_held r92.2.2.2.1 r92.2.2.2.2.1 r92.2.2.2.2.2.1 r92.2.2.2.2.2.2.1 r92.2.2.2.2.2.2.2 c_text_length c_text_codes c_work_length c_work_signs)) ⟨hx, hb, hml, hown, hts⟩ (c_X5_mixed l D cI  H.size  x1 ((r92.1).toInt64) r96 hr96) (va_cwS 2 hts mw_X5_234 rfl rfl rfl hd_X5_mixed ⟨Nat.le_of_ble_eq_true rfl, Nat.le_of_ble_eq_true rfl⟩) hS hA hG hK hP hD [] rfl rfl rfl rfl rfl ⟨Nat.zero_le _, Nat.zero_le _⟩ rfl hl.1 rfl (Nat.le_of_ble_eq_true rfl) dX5_digest_96 (fun H locs hP hD hS => ?_)
            refine lv_lstore_n (lv' := [(1, .long r96), (0, .ref a_t), (3, .int x3), (4, .int x4), (5, .int x5)]) hx hb dX5_digest_99 rfl hl (by decide) rfl (fun ls hl => ?_)
            refine lv_iinc (v := x5 + 1) (lv' := [(5, .int (x5 + 1)), (1, .long r96), (0, .ref a_t), (3, .int x3), (4, .int x4)]) hx hb dX5_digest_100 hl (k := 4) rfl rfl (by decide) rfl (fun ls hl => ?_)
            refine lv_goto (tgt := 80) hx hb dX5_digest_103 (by decide) ?_
            exact ih80 r92.2.1 r92.2.2.1 c_rest_length c_rest_signs r92.2.2.2.1 r92.2.2.2.2.1 r92.2.2.2.2.2.1 r92.2.2.2.2.2.2.1 r92.2.2.2.2.2.2.2 c_work_length c_work_signs r96 x3 x4 (x5 + 1) H locs ls hP hD hS (lv_sub hl [2, 1, 3, 4, 0] rfl) hF
      intro c_bag_total c_bag_often c_rest_length c_rest_signs c_smooth_all c_smooth_inCell c_smooth_madeFor c_smooth_starting c_smooth_weight c_work_length c_work_signs x1 x3 x4 H locs ls hP hD hS hl hF
      rw [F_X5_digest_L41] at hF
      refine lv_iload hx hb dX5_digest_41 (lv_at hl 3 rfl) ?_
      refine lv_aload_n hx hb dX5_digest_43 rfl (lv_at hl 0 rfl) ?_
      refine get_X5_10 hx hb hts hown hK hP 0 rfl rfl dX5_digest_44 ?_
      obtain ⟨r47, hr47, hF⟩ := opb hF
      refine kVI (As := []) (rest := [.int x4]) (ws' := (wd_X5_digest cI a_t a_row a_work a_rest a_bag a_smooth a_text a_saves a_bag_often a_rest_signs a_row_signs a_saves_slots a_smooth_madeFor a_smooth_weight a_smooth_inCell a_smooth_all a_smooth_starting a_text_codes a_work_signs c_gone c_bag_total c_bag_often c_rest_length c_rest_signs c_row_length c_row_signs c_saves_held c_smooth_all c_smooth_inCell c_smooth_madeFor c_smooth_starting c_smooth_weight c_text_length c_text_codes c_work_length c_work_signs)) ⟨hx, hb, hml, hown, hts⟩ (c_X1_length l D cI a_row a_row_signs H.size c_row_length  r47 hr47) (cwV 0 hts mw_X5_79 rfl rfl rfl hd_X1_length ⟨Nat.le_of_ble_eq_true rfl, Nat.le_of_ble_eq_true rfl⟩) hS hA hG hK hP hD [5] rfl rfl rfl rfl rfl ⟨Nat.zero_le _, Nat.zero_le _⟩ 1 5 rfl rfl rfl rfl hl.1 rfl (Nat.le_of_ble_eq_true rfl) dX5_digest_47 (fun H locs hP hD hS => ?_)
      refine lv_icmp_ge (tgt := 140) hx hb dX5_digest_50 (by decide) (fun k50 => ?_) (fun k50 => ?_)
      · replace hF := (if_pos k50).symm.trans hF
        refine lv_iconst (v := 0) hx hb dX5_digest_140 (by decide) ?_
        refine lv_istore (lv' := [(4, .int (0 : Int32)), (0, .ref a_t), (1, .long x1), (3, .int x3)]) hx hb dX5_digest_141 hl (by decide) rfl (fun ls hl => ?_)
        exact K143 FU c_bag_total c_bag_often c_rest_length c_rest_signs c_smooth_all c_smooth_inCell c_smooth_madeFor c_smooth_starting c_smooth_weight c_work_length c_work_signs x1 (0 : Int32) H locs ls hP hD hS (lv_sub hl [1, 2, 0] rfl) hF
      · replace hF := (if_neg k50).symm.trans hF
        refine lv_lload_n hx hb dX5_digest_53 rfl (lv_at hl 1 rfl) ?_
        refine lv_aload_n hx hb dX5_digest_54 rfl (lv_at hl 0 rfl) ?_
        refine lv_iload hx hb dX5_digest_55 (lv_at hl 3 rfl) ?_
        obtain ⟨r57, hr57, hF⟩ := opb hF
        refine kVI (As := [.int x4]) (rest := [.long x1]) (ws' := (wd_X5_digest cI a_t a_row a_work a_rest a_bag a_smooth a_text a_saves a_bag_often a_rest_signs a_row_signs a_saves_slots a_smooth_madeFor a_smooth_weight a_smooth_inCell a_smooth_all a_smooth_starting a_text_codes a_work_signs c_gone c_bag_total c_bag_often c_rest_length c_rest_signs c_row_length c_row_signs c_saves_held c_smooth_all c_smooth_inCell c_smooth_madeFor c_smooth_starting c_smooth_weight c_text_length c_text_codes c_work_length c_work_signs)) ⟨hx, hb, hml, hown, hts⟩ (c_X5_sign l D cI a_t a_row a_work a_rest a_bag a_smooth a_text a_saves a_row_signs H.size c_gone c_row_length c_row_signs x4 r57 hr57) (cwV 1 hts mw_X5_238 rfl rfl rfl hd_X5_sign ⟨Nat.le_of_ble_eq_true rfl, Nat.le_of_ble_eq_true rfl⟩) hS hA hG hK hP hD [0, 5, 6] rfl rfl rfl rfl rfl ⟨Nat.zero_le _, Nat.zero_le _⟩ 5 0 rfl rfl rfl rfl hl.1 rfl (Nat.le_of_ble_eq_true rfl) dX5_digest_57 (fun H locs hP hD hS => ?_)
        refine lv_i2l hx hb dX5_digest_60 rfl ?_
        obtain ⟨r61, hr61, hF⟩ := opb hF
        refine kSL (As := [.long x1, .long ((r57).toInt64)]) (rest := []) (ws' := (wd_X5_digest cI a_t a_row a_work a_rest a_bag a_smooth a_text a_saves a_bag_often a_rest_signs a_row_signs a_saves_slots a_smooth_madeFor a_smooth_weight a_smooth_inCell a_smooth_all a_smooth_starting a_text_codes a_work_signs c_gone c_bag_total c_bag_often c_rest_length c_rest_signs c_row_length c_row_signs c_saves_held c_smooth_all c_smooth_inCell c_smooth_madeFor c_smooth_starting c_smooth_weight c_text_length c_text_codes c_work_length c_work_signs)) ⟨hx, hb, hml, hown, hts⟩ (c_X5_mixed l D cI  H.size  x1 ((r57).toInt64) r61 hr61) (va_cwS 2 hts mw_X5_234 rfl rfl rfl hd_X5_mixed ⟨Nat.le_of_ble_eq_true rfl, Nat.le_of_ble_eq_true rfl⟩) hS hA hG hK hP hD [] rfl rfl rfl rfl rfl ⟨Nat.zero_le _, Nat.zero_le _⟩ rfl hl.1 rfl (Nat.le_of_ble_eq_true rfl) dX5_digest_61 (fun H locs hP hD hS => ?_)
        refine lv_lstore_n (lv' := [(1, .long r61), (0, .ref a_t), (3, .int x3), (4, .int x4)]) hx hb dX5_digest_64 rfl hl (by decide) rfl (fun ls hl => ?_)
        refine lv_lload_n hx hb dX5_digest_65 rfl (lv_at hl 0 rfl) ?_
        refine lv_aload_n hx hb dX5_digest_66 rfl (lv_at hl 1 rfl) ?_
        refine lv_iload hx hb dX5_digest_67 (lv_at hl 3 rfl) ?_
        obtain ⟨r69, hr69, hF⟩ := opb hF
        refine kVI (As := [.int x4]) (rest := [.long r61]) (ws' := (wd_X5_digest cI a_t a_row a_work a_rest a_bag a_smooth a_text a_saves a_bag_often a_rest_signs a_row_signs a_saves_slots a_smooth_madeFor a_smooth_weight a_smooth_inCell a_smooth_all a_smooth_starting a_text_codes a_work_signs c_gone r69.2.1 r69.2.2 c_rest_length c_rest_signs c_row_length c_row_signs c_saves_held c_smooth_all c_smooth_inCell c_smooth_madeFor c_smooth_starting c_smooth_weight c_text_length c_text_codes c_work_length c_work_signs)) ⟨hx, hb, hml, hown, hts⟩ (c_X5_digit l D cI a_t a_row a_work a_rest a_bag a_smooth a_text a_saves a_bag_often a_row_signs H.size c_gone c_bag_total c_bag_often c_row_length c_row_signs x4 r69 hr69) (cwV 1 hts mw_X5_241 rfl rfl rfl hd_X5_digit ⟨Nat.le_of_ble_eq_true rfl, Nat.le_of_ble_eq_true rfl⟩) hS hA hG hK hP hD [0, 1, 2, 5, 6] rfl rfl rfl rfl rfl ⟨Nat.zero_le _, Nat.zero_le _⟩ 5 0 rfl rfl rfl rfl hl.1 rfl (Nat.le_of_ble_eq_true rfl) dX5_digest_69 (fun H locs hP hD hS => ?_)
        refine lv_i2l hx hb dX5_digest_72 rfl ?_
        obtain ⟨r73, hr73, hF⟩ := opb hF
        refine kSL (As := [.long r61, .long ((r69.1).toInt64)]) (rest := []) (ws' := (wd_X5_digest cI a_t a_row a_work a_rest a_bag a_smooth a_text a_saves a_bag_often a_rest_signs a_row_signs a_saves_slots a_smooth_madeFor a_smooth_weight a_smooth_inCell a_smooth_all a_smooth_starting a_text_codes a_work_signs c_gone r69.2.1 r69.2.2 c_rest_length c_rest_signs c_row_length c_row_signs c_saves_held c_smooth_all c_smooth_inCell c_smooth_madeFor c_smooth_starting c_smooth_weight c_text_length c_text_codes c_work_length c_work_signs)) ⟨hx, hb, hml, hown, hts⟩ (c_X5_mixed l D cI  H.size  r61 ((r69.1).toInt64) r73 hr73) (va_cwS 2 hts mw_X5_234 rfl rfl rfl hd_X5_mixed ⟨Nat.le_of_ble_eq_true rfl, Nat.le_of_ble_eq_true rfl⟩) hS hA hG hK hP hD [] rfl rfl rfl rfl rfl ⟨Nat.zero_le _, Nat.zero_le _⟩ rfl hl.1 rfl (Nat.le_of_ble_eq_true rfl) dX5_digest_73 (fun H locs hP hD hS => ?_)
        refine lv_lstore_n (lv' := [(1, .long r73), (0, .ref a_t), (3, .int x3), (4, .int x4)]) hx hb dX5_digest_76 rfl hl (by decide) rfl (fun ls hl => ?_)
        refine lv_iconst (v := 0) hx hb dX5_digest_77 (by decide) ?_
        refine lv_istore (lv' := [(5, .int (0 : Int32)), (1, .long r73), (0, .ref a_t), (3, .int x3), (4, .int x4)]) hx hb dX5_digest_78 hl (by decide) rfl (fun ls hl => ?_)
        exact K80 FU r69.2.1 r69.2.2 c_rest_length c_rest_signs c_smooth_all c_smooth_inCell c_smooth_madeFor c_smooth_starting c_smooth_weight c_work_length c_work_signs r73 x3 x4 (0 : Int32) H locs ls hP hD hS (lv_sub hl [2, 1, 3, 4, 0] rfl) hF
  have K6 : ∀ (n6 : Nat) (c_bag_total : Int32) (c_bag_often : Nat → Int32) (c_rest_length : Int32) (c_rest_signs : Nat → Int32) (c_smooth_all : Nat → Int32) (c_smooth_inCell : Nat → Int32) (c_smooth_madeFor : Nat → Int32) (c_smooth_starting : Nat → Int32) (c_smooth_weight : Nat → Int32) (c_work_length : Int32) (c_work_signs : Nat → Int32) (x1 : Int64) (x3 : Int32) (H : Heap) (locs : List Loc) (ls : Array Slot), va_P D vwCl (wd_X5_digest cI a_t a_row a_work a_rest a_bag a_smooth a_text a_saves a_bag_often a_rest_signs a_row_signs a_saves_slots a_smooth_madeFor a_smooth_weight a_smooth_inCell a_smooth_all a_smooth_starting a_text_codes a_work_signs c_gone c_bag_total c_bag_often c_rest_length c_rest_signs c_row_length c_row_signs c_saves_held c_smooth_all c_smooth_inCell c_smooth_madeFor c_smooth_starting c_smooth_weight c_text_length c_text_codes c_work_length c_work_signs) H → va_D A (wd_X5_digest cI a_t a_row a_work a_rest a_bag a_smooth a_text a_saves a_bag_often a_rest_signs a_row_signs a_saves_slots a_smooth_madeFor a_smooth_weight a_smooth_inCell a_smooth_all a_smooth_starting a_text_codes a_work_signs c_gone c_bag_total c_bag_often c_rest_length c_rest_signs c_row_length c_row_signs c_saves_held c_smooth_all c_smooth_inCell c_smooth_madeFor c_smooth_starting c_smooth_weight c_text_length c_text_codes c_work_length c_work_signs) → va_S A s.heap H locs → lv_has ls 6 [(0, .ref a_t), (1, .long x1), (3, .int x3)] → F_X5_digest_L6 c_gone c_row_length c_row_signs c_saves_held c_text_length c_text_codes n6 c_bag_total c_bag_often c_rest_length c_rest_signs c_smooth_all c_smooth_inCell c_smooth_madeFor c_smooth_starting c_smooth_weight c_work_length c_work_signs x1 x3 = some o → W p l e rm_X5_digest s m args below meth c H locs 0 0 Q (F0 m 6 ls []) := by
    intro n6
    induction n6 with
    | zero => intro c_bag_total c_bag_often c_rest_length c_rest_signs c_smooth_all c_smooth_inCell c_smooth_madeFor c_smooth_starting c_smooth_weight c_work_length c_work_signs x1 x3 H locs ls hP hD hS hl hF; exact nos hF
    | succ n6 ih6 =>
      intro c_bag_total c_bag_often c_rest_length c_rest_signs c_smooth_all c_smooth_inCell c_smooth_madeFor c_smooth_starting c_smooth_weight c_work_length c_work_signs x1 x3 H locs ls hP hD hS hl hF
      rw [F_X5_digest_L6] at hF
      refine lv_iload_n hx hb dX5_digest_6 rfl (lv_at hl 2 rfl) ?_
      refine lv_bipush (v := 14) hx hb dX5_digest_7 (by decide) ?_
      refine lv_icmp_ge (tgt := 29) hx hb dX5_digest_9 (by decide) (fun k9 => ?_) (fun k9 => ?_)
      · replace hF := (if_pos k9).symm.trans hF
        refine lv_aload_n hx hb dX5_digest_29 rfl (lv_at hl 0 rfl) ?_
        refine lv_aload_n hx hb dX5_digest_30 rfl (lv_at hl 0 rfl) ?_
        refine get_X5_10 hx hb hts hown hK hP 0 rfl rfl dX5_digest_31 ?_
        obtain ⟨r34, hr34, hF⟩ := opb hF
        refine kVI (As := [.ref a_row]) (rest := []) (ws' := (wd_X5_digest cI a_t a_row a_work a_rest a_bag a_smooth a_text a_saves a_bag_often a_rest_signs a_row_signs a_saves_slots a_smooth_madeFor a_smooth_weight a_smooth_inCell a_smooth_all a_smooth_starting a_text_codes a_work_signs c_gone r34.2.1 r34.2.2 c_rest_length c_rest_signs c_row_length c_row_signs c_saves_held c_smooth_all c_smooth_inCell c_smooth_madeFor c_smooth_starting c_smooth_weight c_text_length c_text_codes c_work_length c_work_signs)) ⟨hx, hb, hml, hown, hts⟩ (c_X5_rankOf l D cI a_t a_row a_row a_work a_rest a_bag a_smooth a_text a_saves a_bag_often a_row_signs H.size c_gone c_bag_total c_bag_often c_row_length c_row_signs  r34 hr34) (cwV 1 hts mw_X5_57 rfl rfl rfl hd_X5_rankOf ⟨Nat.le_of_ble_eq_true rfl, Nat.le_of_ble_eq_true rfl⟩) hS hA hG hK hP hD [0, 1, 2, 5, 6] rfl rfl rfl rfl rfl ⟨Nat.zero_le _, Nat.zero_le _⟩ 5 0 rfl rfl rfl rfl hl.1 rfl (Nat.le_of_ble_eq_true rfl) dX5_digest_34 (fun H locs hP hD hS => ?_)
        refine lv_istore_n (lv' := [(3, .int r34.1), (0, .ref a_t), (1, .long x1)]) hx hb dX5_digest_37 rfl hl (by decide) rfl (fun ls hl => ?_)
        refine lv_iconst (v := 0) hx hb dX5_digest_38 (by decide) ?_
        refine lv_istore (lv' := [(4, .int (0 : Int32)), (3, .int r34.1), (0, .ref a_t), (1, .long x1)]) hx hb dX5_digest_39 hl (by decide) rfl (fun ls hl => ?_)
        exact K41 FU r34.2.1 r34.2.2 c_rest_length c_rest_signs c_smooth_all c_smooth_inCell c_smooth_madeFor c_smooth_starting c_smooth_weight c_work_length c_work_signs x1 r34.1 (0 : Int32) H locs ls hP hD hS (lv_sub hl [2, 3, 1, 0] rfl) hF
      · replace hF := (if_neg k9).symm.trans hF
        refine lv_lload_n hx hb dX5_digest_12 rfl (lv_at hl 1 rfl) ?_
        refine lv_aload_n hx hb dX5_digest_13 rfl (lv_at hl 0 rfl) ?_
        refine lv_iload_n hx hb dX5_digest_14 rfl (lv_at hl 2 rfl) ?_
        obtain ⟨r15, hr15, hF⟩ := opb hF
        refine kVI (As := [.int x3]) (rest := [.long x1]) (ws' := (wd_X5_digest cI a_t a_row a_work a_rest a_bag a_smooth a_text a_saves a_bag_often a_rest_signs a_row_signs a_saves_slots a_smooth_madeFor a_smooth_weight a_smooth_inCell a_smooth_all a_smooth_starting a_text_codes a_work_signs c_gone r15.2.1 r15.2.2.1 c_rest_length c_rest_signs c_row_length c_row_signs c_saves_held r15.2.2.2.1 r15.2.2.2.2.1 r15.2.2.2.2.2.1 r15.2.2.2.2.2.2.1 r15.2.2.2.2.2.2.2.1 c_text_length c_text_codes r15.2.2.2.2.2.2.2.2.1 r15.2.2.2.2.2.2.2.2.2)) ⟨hx, hb, hml, hown, hts⟩ (c_X5_count l D cI a_t a_row a_work a_rest a_bag a_smooth a_text a_saves a_bag_often a_row_signs a_saves_slots a_smooth_madeFor a_smooth_weight a_smooth_inCell a_smooth_all a_smooth_starting a_work_signs H.size c_gone c_bag_total c_bag_often c_row_length c_row_signs c_saves_held c_smooth_all c_smooth_inCell c_smooth_madeFor c_smooth_starting c_smooth_weight c_work_length c_work_signs x3 r15 hr15) (cwV 1 hts mw_X5_231 rfl rfl rfl hd_X5_count ⟨Nat.le_of_ble_eq_true rfl, Nat.le_of_ble_eq_true rfl⟩) hS hA hG hK hP hD [0, 1, 2, 5, 6, 7, 8, 9, 10, 11, 12, 13, 16, 17] rfl rfl rfl rfl rfl ⟨Nat.zero_le _, Nat.zero_le _⟩ 5 0 rfl rfl rfl rfl hl.1 rfl (Nat.le_of_ble_eq_true rfl) dX5_digest_15 (fun H locs hP hD hS => ?_)
        refine lv_i2l hx hb dX5_digest_18 rfl ?_
        obtain ⟨r19, hr19, hF⟩ := opb hF
        refine kSL (As := [.long x1, .long ((r15.1).toInt64)]) (rest := []) (ws' := (wd_X5_digest cI a_t a_row a_work a_rest a_bag a_smooth a_text a_saves a_bag_often a_rest_signs a_row_signs a_saves_slots a_smooth_madeFor a_smooth_weight a_smooth_inCell a_smooth_all a_smooth_starting a_text_codes a_work_signs c_gone r15.2.1 r15.2.2.1 c_rest_length c_rest_signs c_row_length c_row_signs c_saves_held r15.2.2.2.1 r15.2.2.2.2.1 r15.2.2.2.2.2.1 r15.2.2.2.2.2.2.1 r15.2.2.2.2.2.2.2.1 c_text_length c_text_codes r15.2.2.2.2.2.2.2.2.1 r15.2.2.2.2.2.2.2.2.2)) ⟨hx, hb, hml, hown, hts⟩ (c_X5_mixed l D cI  H.size  x1 ((r15.1).toInt64) r19 hr19) (va_cwS 2 hts mw_X5_234 rfl rfl rfl hd_X5_mixed ⟨Nat.le_of_ble_eq_true rfl, Nat.le_of_ble_eq_true rfl⟩) hS hA hG hK hP hD [] rfl rfl rfl rfl rfl ⟨Nat.zero_le _, Nat.zero_le _⟩ rfl hl.1 rfl (Nat.le_of_ble_eq_true rfl) dX5_digest_19 (fun H locs hP hD hS => ?_)
        refine lv_lstore_n (lv' := [(1, .long r19), (0, .ref a_t), (3, .int x3)]) hx hb dX5_digest_22 rfl hl (by decide) rfl (fun ls hl => ?_)
        refine lv_iinc (v := x3 + 1) (lv' := [(3, .int (x3 + 1)), (1, .long r19), (0, .ref a_t)]) hx hb dX5_digest_23 hl (k := 2) rfl rfl (by decide) rfl (fun ls hl => ?_)
        refine lv_goto (tgt := 6) hx hb dX5_digest_26 (by decide) ?_
        exact ih6 r15.2.1 r15.2.2.1 c_rest_length c_rest_signs r15.2.2.2.1 r15.2.2.2.2.1 r15.2.2.2.2.2.1 r15.2.2.2.2.2.2.1 r15.2.2.2.2.2.2.2.1 r15.2.2.2.2.2.2.2.2.1 r15.2.2.2.2.2.2.2.2.2 r19 (x3 + 1) H locs ls hP hD hS (lv_sub hl [2, 1, 0] rfl) hF
  unfold F_X5_digest at hF
  have hP : va_P D vwCl (wd_X5_digest cI a_t a_row a_work a_rest a_bag a_smooth a_text a_saves a_bag_often a_rest_signs a_row_signs a_saves_slots a_smooth_madeFor a_smooth_weight a_smooth_inCell a_smooth_all a_smooth_starting a_text_codes a_work_signs c_gone c_bag_total c_bag_often c_rest_length c_rest_signs c_row_length c_row_signs c_saves_held c_smooth_all c_smooth_inCell c_smooth_madeFor c_smooth_starting c_smooth_weight c_text_length c_text_codes c_work_length c_work_signs) s.heap := hP
  obtain ⟨H, hH⟩ : ∃ H, H = s.heap := ⟨_, rfl⟩
  rw [← hH]
  rw [← hH] at hP
  obtain ⟨locs, hlo⟩ : ∃ z : List Loc, z = [] := ⟨_, rfl⟩
  rw [← hlo]
  have hS : va_S A s.heap H locs := by rw [hH, hlo]; exact hS
  refine lv_ldc2 (v := 2579) hx hb hown (hts _ k2_50) dX5_digest_0 ?_
  refine lv_lstore_n (lv' := [(1, .long (2579 : Int64)), (0, .ref a_t)]) hx hb dX5_digest_3 rfl hl (by decide) rfl (fun ls hl => ?_)
  refine lv_iconst (v := 0) hx hb dX5_digest_4 (by decide) ?_
  refine lv_istore_n (lv' := [(3, .int (0 : Int32)), (1, .long (2579 : Int64)), (0, .ref a_t)]) hx hb dX5_digest_5 rfl hl (by decide) rfl (fun ls hl => ?_)
  exact K6 FU c_bag_total c_bag_often c_rest_length c_rest_signs c_smooth_all c_smooth_inCell c_smooth_madeFor c_smooth_starting c_smooth_weight c_work_length c_work_signs (2579 : Int64) (0 : Int32) H locs ls hP hD hS (lv_sub hl [2, 1, 0] rfl) hF
