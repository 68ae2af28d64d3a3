def rm_X5_need_T : Room := { frames := 6, cells := 1, slots := 6, locals := 90 }
set_option maxHeartbeats 4000000 in
set_option maxRecDepth 100000 in
theorem c_X5_need_T (l : Launch) (D : va_G) (cI : ClassId) (hl0 : l.stackTraces = false) (sz : Nat) (x0 : Int32) (o : Nat) (hF : F_X5_need_T x0 = some o) : vx_Met l yX5_need (Cond.code yX5_need cX5_need 1 none :: WL) rm_X5_need_T (preM D [(cI, .int)] (wd_X5_need cI ) sz [.int x0]) noQ (postX D o (wd_X5_need cI ) (wd_X5_need cI ) sz) 1 6 (va_A (wd_X5_need cI ) sz) := by
  refine mofT hl0 rfl (Nat.le_of_ble_eq_true rfl) (Nat.le_of_ble_eq_true rfl) (Nat.le_of_ble_eq_true rfl) (Nat.le_of_ble_eq_true rfl) (by decide +kernel) (Nat.le_of_ble_eq_true rfl) ?_
  intro p e s m args below meth c Q A ls hx hb hml hown hts hK hP hD hS hA hG hl hout hnew hsz0
  have hl : lv_has ls 1 [(0, .int x0)] := hl
  unfold F_X5_need_T at hF
  have hP : va_P D vwCl (wd_X5_need cI ) s.heap := hP
  obtain ⟨H, hH⟩ : ∃ H, H = s.heap := ⟨_, rfl⟩
  rw [← hH]
  rw [← hH] at hP
  obtain ⟨locs, hlo⟩ : ∃ z : List Loc, z = [] := ⟨_, rfl⟩
  rw [← hlo]
  have hS : va_S A s.heap H locs := by rw [hH, hlo]; exact hS
  refine lv_iload_n hx hb dX5_need_0 rfl (lv_at hl 0 rfl) ?_
  refine lv_if_ne (tgt := 15) hx hb dX5_need_1 (by decide) (fun k1 => ?_) (fun k1 => ?_)
  · replace hF := (if_neg k1).symm.trans hF
    exact nos hF
  · replace hF := (if_pos k1).symm.trans hF
    have ho := Option.some.inj hF
    exact hnew H locs ls 4 97 101 275 "an argument is out of range" 1 _ hP hS rfl ho TX_1 hl.1 (by decide) ⟨dX5_need_4, dX5_need_7, Or.inr ⟨dX5_need_8, dX5_need_11, dX5_need_14⟩⟩
def rm_X5_needPlace_T : Room := { frames := 6, cells := 1, slots := 6, locals := 90 }
set_option maxHeartbeats 4000000 in
set_option maxRecDepth 100000 in
theorem c_X5_needPlace_T (l : Launch) (D : va_G) (cI : ClassId) (hl0 : l.stackTraces = false) (a_t a_row a_work a_rest a_bag a_smooth a_text a_saves a_row_signs : Nat) (sz : Nat) (c_gone : Int32) (c_row_length : Int32) (x1 : Int32) (o : Nat) (hF : F_X5_needPlace_T c_row_length x1 = some o) : vx_Met l yX5_needPlace (Cond.code yX5_needPlace cX5_needPlace 2 none :: WL) rm_X5_needPlace_T (preM D [(cI, .int)] (wd_X5_needPlace cI a_t a_row a_work a_rest a_bag a_smooth a_text a_saves a_row_signs c_gone c_row_length) sz [.ref a_t, .int x1]) noQ (postX D o (wd_X5_needPlace cI a_t a_row a_work a_rest a_bag a_smooth a_text a_saves a_row_signs c_gone c_row_length) (wd_X5_needPlace cI a_t a_row a_work a_rest a_bag a_smooth a_text a_saves a_row_signs c_gone c_row_length) sz) 1 6 (va_A (wd_X5_needPlace cI a_t a_row a_work a_rest a_bag a_smooth a_text a_saves a_row_signs c_gone c_row_length) sz) := by
  refine mofT hl0 rfl (Nat.le_of_ble_eq_true rfl) (Nat.le_of_ble_eq_true rfl) (Nat.le_of_ble_eq_true rfl) (Nat.le_of_ble_eq_true rfl) (by decide +kernel) (Nat.le_of_ble_eq_true rfl) ?_
  intro p e s m args below meth c Q A ls hx hb hml hown hts hK hP hD hS hA hG hl hout hnew hsz0
  have hl : lv_has ls 2 [(0, .ref a_t), (1, .int x1)] := hl
  unfold F_X5_needPlace_T at hF
  have hP : va_P D vwCl (wd_X5_needPlace cI a_t a_row a_work a_rest a_bag a_smooth a_text a_saves a_row_signs c_gone c_row_length) s.heap := hP
  obtain ⟨H, hH⟩ : ∃ H, H = s.heap := ⟨_, rfl⟩
  rw [← hH]
  rw [← hH] at hP
  obtain ⟨locs, hlo⟩ : ∃ z : List Loc, z = [] := ⟨_, rfl⟩
  rw [← hlo]
  have hS : va_S A s.heap H locs := by rw [hH, hlo]; exact hS
  refine lv_aload_n hx hb dX5_needPlace_0 rfl (lv_at hl 0 rfl) ?_
  refine get_X5_10 hx hb hts hown hK hP 0 rfl rfl dX5_needPlace_1 ?_
  refine lv_iload_n hx hb dX5_needPlace_4 rfl (lv_at hl 1 rfl) ?_
  obtain ⟨r5, hr5, hF⟩ := opb hF
  refine kVI (As := [.int x1]) (rest := []) (ws' := (wd_X5_needPlace cI a_t a_row a_work a_rest a_bag a_smooth a_text a_saves a_row_signs c_gone c_row_length)) ⟨hx, hb, hml, hown, hts⟩ (c_X1_has l D cI a_row a_row_signs H.size c_row_length x1 r5 hr5) (cwV 1 hts mw_X5_277 rfl rfl rfl hd_X1_has ⟨Nat.le_of_ble_eq_true rfl, Nat.le_of_ble_eq_true rfl⟩) hS hA hG hK hP hD [1] rfl rfl rfl rfl rfl ⟨Nat.zero_le _, Nat.zero_le _⟩ 1 1 rfl rfl rfl rfl hl.1 rfl (Nat.le_of_ble_eq_true rfl) dX5_needPlace_5 (fun H locs hP hD hS => ?_)
  refine lv_if_ne (tgt := 21) hx hb dX5_needPlace_8 (by decide) (fun k8 => ?_) (fun k8 => ?_)
  · replace hF := (if_neg k8).symm.trans hF
    exact nos hF
  · replace hF := (if_pos k8).symm.trans hF
    have ho := Option.some.inj hF
    exact hnew H locs ls 11 122 126 124 "there is no such place" 3 _ hP hS rfl ho TX_3 hl.1 (by decide) ⟨dX5_needPlace_11, dX5_needPlace_14, Or.inl ⟨dX5_needPlace_15, dX5_needPlace_17, dX5_needPlace_20⟩⟩
def rm_X5_needSign_T : Room := { frames := 7, cells := 1, slots := 6, locals := 110 }
set_option maxHeartbeats 4000000 in
set_option maxRecDepth 100000 in
theorem c_X5_needSign_T (l : Launch) (D : va_G) (cI : ClassId) (hl0 : l.stackTraces = false) (sz : Nat) (x0 : Int32) (o : Nat) (hF : F_X5_needSign_T x0 = some o) : vx_Met l yX5_needSign (Cond.code yX5_needSign cX5_needSign 1 none :: WL) rm_X5_needSign_T (preM D [(cI, .int)] (wd_X5_needSign cI ) sz [.int x0]) noQ (postX D o (wd_X5_needSign cI ) (wd_X5_needSign cI ) sz) 1 6 (va_A (wd_X5_needSign cI ) sz) := by
  refine mofT hl0 rfl (Nat.le_of_ble_eq_true rfl) (Nat.le_of_ble_eq_true rfl) (Nat.le_of_ble_eq_true rfl) (Nat.le_of_ble_eq_true rfl) (by decide +kernel) (Nat.le_of_ble_eq_true rfl) ?_
  intro p e s m args below meth c Q A ls hx hb hml hown hts hK hP hD hS hA hG hl hout hnew hsz0
  have hl : lv_has ls 1 [(0, .int x0)] := hl
  have K15 : ∀ (v0 : Int32)  (H : Heap) (locs : List Loc) (ls : Array Slot), va_P D vwCl (wd_X5_needSign cI ) H → va_D A (wd_X5_needSign cI ) → va_S A s.heap H locs → lv_has ls 1 [] → F_X5_needSign_T_J15 x0 v0 = some o → W p l e rm_X5_needSign_T s m args below meth c H locs 0 0 Q (F0 m 15 ls [.int v0]) := by
    intro v0 H locs ls hP hD hS hl hF
    unfold F_X5_needSign_T_J15 at hF
    rcases opcb hF with ⟨q15, hq15, hF⟩ | hF
    · refine kST (As := [.int v0]) (rest := []) (ws' := (wd_X5_needSign cI )) ⟨hx, hb, hml, hown, hts⟩ (c_X5_need_T l D cI hl0  H.size  v0 q15 hq15) (va_cwS 1 hts mw_X5_112 rfl rfl rfl hd_X5_need ⟨Nat.le_of_ble_eq_true rfl, Nat.le_of_ble_eq_true rfl⟩) hS hA hG hK hP hD [] rfl rfl rfl rfl rfl ⟨Nat.le_of_ble_eq_true rfl, Nat.le_of_ble_eq_true rfl⟩ rfl hl.1 rfl (Nat.le_of_ble_eq_true rfl) dX5_needSign_15 (fun H locs q9 ce hP hD hS hce hcv hcl => ?_)
      have ho := Option.some.inj hF
      exact hout H locs ls 15 _ q9 ce q15 _ hP hS rfl ho hce hcv hcl
    · exact nos hF
  unfold F_X5_needSign_T at hF
  have hP : va_P D vwCl (wd_X5_needSign cI ) s.heap := hP
  obtain ⟨H, hH⟩ : ∃ H, H = s.heap := ⟨_, rfl⟩
  rw [← hH]
  rw [← hH] at hP
  obtain ⟨locs, hlo⟩ : ∃ z : List Loc, z = [] := ⟨_, rfl⟩
  rw [← hlo]
  have hS : va_S A s.heap H locs := by rw [hH, hlo]; exact hS
  refine lv_iload_n hx hb dX5_needSign_0 rfl (lv_at hl 0 rfl) ?_
  refine lv_if_lt (tgt := 14) hx hb dX5_needSign_1 (by decide) (fun k1 => ?_) (fun k1 => ?_)
  · (try simp only [if_pos k1] at hF)
    refine lv_iconst (v := 0) hx hb dX5_needSign_14 (by decide) ?_
    exact K15 (0 : Int32) H locs ls hP hD hS (lv_sub hl [] rfl) hF
  · (try simp only [if_neg k1] at hF)
    refine lv_iload_n hx hb dX5_needSign_4 rfl (lv_at hl 0 rfl) ?_
    refine lv_bipush (v := 6) hx hb dX5_needSign_5 (by decide) ?_
    refine lv_icmp_ge (tgt := 14) hx hb dX5_needSign_7 (by decide) (fun k7 => ?_) (fun k7 => ?_)
    · (try simp only [if_pos k7] at hF)
      refine lv_iconst (v := 0) hx hb dX5_needSign_14 (by decide) ?_
      exact K15 (0 : Int32) H locs ls hP hD hS (lv_sub hl [] rfl) hF
    · (try simp only [if_neg k7] at hF)
      refine lv_iconst (v := 1) hx hb dX5_needSign_10 (by decide) ?_
      refine lv_goto (tgt := 15) hx hb dX5_needSign_11 (by decide) ?_
      exact K15 (1 : Int32) H locs ls hP hD hS (lv_sub hl [] rfl) hF
def rm_X5_needRank_T : Room := { frames := 7, cells := 1, slots := 6, locals := 110 }
set_option maxHeartbeats 4000000 in
set_option maxRecDepth 100000 in
theorem c_X5_needRank_T (l : Launch) (D : va_G) (cI : ClassId) (hl0 : l.stackTraces = false) (a_t a_row a_work a_rest a_bag a_smooth a_text a_saves a_bag_often a_row_signs : Nat) (sz : Nat) (c_gone : Int32) (c_bag_total : Int32) (c_bag_often : Nat → Int32) (c_row_length : Int32) (c_row_signs : Nat → Int32) (x1 : Int32) (o : Nat × Int32 × (Nat → Int32)) (hF : F_X5_needRank_T c_bag_total c_bag_often c_row_length c_row_signs x1 = some o) : vx_Met l yX5_needRank (Cond.code yX5_needRank cX5_needRank 2 none :: WL) rm_X5_needRank_T (preM D [(cI, .int)] (wd_X5_needRank cI a_t a_row a_work a_rest a_bag a_smooth a_text a_saves a_bag_often a_row_signs c_gone c_bag_total c_bag_often c_row_length c_row_signs) sz [.ref a_t, .int x1]) noQ (postX D o.1 (wd_X5_needRank cI a_t a_row a_work a_rest a_bag a_smooth a_text a_saves a_bag_often a_row_signs c_gone o.2.1 o.2.2 c_row_length c_row_signs) (wd_X5_needRank cI a_t a_row a_work a_rest a_bag a_smooth a_text a_saves a_bag_often a_row_signs c_gone c_bag_total c_bag_often c_row_length c_row_signs) sz) 1 6 (va_A (wd_X5_needRank cI a_t a_row a_work a_rest a_bag a_smooth a_text a_saves a_bag_often a_row_signs c_gone c_bag_total c_bag_often c_row_length c_row_signs) sz) := by
  refine mofT hl0 rfl (Nat.le_of_ble_eq_true rfl) (Nat.le_of_ble_eq_true rfl) (Nat.le_of_ble_eq_true rfl) (Nat.le_of_ble_eq_true rfl) (by decide +kernel) (Nat.le_of_ble_eq_true rfl) ?_
  intro p e s m args below meth c Q A ls hx hb hml hown hts hK hP hD hS hA hG hl hout hnew hsz0
  have hl : lv_has ls 2 [(0, .ref a_t), (1, .int x1)] := hl
  have K17 : ∀ (c_bag_total : Int32) (c_bag_often : Nat → Int32) (v0 : Int32)  (H : Heap) (locs : List Loc) (ls : Array Slot), va_P D vwCl (wd_X5_needRank cI a_t a_row a_work a_rest a_bag a_smooth a_text a_saves a_bag_often a_row_signs c_gone c_bag_total c_bag_often c_row_length c_row_signs) H → va_D A (wd_X5_needRank cI a_t a_row a_work a_rest a_bag a_smooth a_text a_saves a_bag_often a_row_signs c_gone c_bag_total c_bag_often c_row_length c_row_signs) → va_S A s.heap H locs → lv_has ls 2 [] → F_X5_needRank_T_J17 c_row_length c_row_signs x1 c_bag_total c_bag_often v0 = some o → W p l e rm_X5_needRank_T s m args below meth c H locs 0 0 Q (F0 m 17 ls [.int v0]) := by
    intro c_bag_total c_bag_often v0 H locs ls hP hD hS hl hF
    unfold F_X5_needRank_T_J17 at hF
    rcases opcb hF with ⟨q17, hq17, hF⟩ | hF
    · refine kST (As := [.int v0]) (rest := []) (ws' := (wd_X5_needRank cI a_t a_row a_work a_rest a_bag a_smooth a_text a_saves a_bag_often a_row_signs c_gone c_bag_total c_bag_often c_row_length c_row_signs)) ⟨hx, hb, hml, hown, hts⟩ (c_X5_need_T l D cI hl0  H.size  v0 q17 hq17) (va_cwS 1 hts mw_X5_112 rfl rfl rfl hd_X5_need ⟨Nat.le_of_ble_eq_true rfl, Nat.le_of_ble_eq_true rfl⟩) hS hA hG hK hP hD [] rfl rfl rfl rfl rfl ⟨Nat.le_of_ble_eq_true rfl, Nat.le_of_ble_eq_true rfl⟩ rfl hl.1 rfl (Nat.le_of_ble_eq_true rfl) dX5_needRank_17 (fun H locs q9 ce hP hD hS hce hcv hcl => ?_)
      have ho := Option.some.inj hF
      exact hout H locs ls 17 _ q9 ce q17 _ hP hS (by rw [← ho]) (by rw [← ho]) hce hcv hcl
    · exact nos hF
  unfold F_X5_needRank_T at hF
  have hP : va_P D vwCl (wd_X5_needRank cI a_t a_row a_work a_rest a_bag a_smooth a_text a_saves a_bag_often a_row_signs c_gone c_bag_total c_bag_often c_row_length c_row_signs) s.heap := hP
  obtain ⟨H, hH⟩ : ∃ H, H = s.heap := ⟨_, rfl⟩
  rw [← hH]
  rw [← hH] at hP
  obtain ⟨locs, hlo⟩ : ∃ z : List Loc, z = [] := ⟨_, rfl⟩
  rw [← hlo]
  have hS : va_S A s.heap H locs := by rw [hH, hlo]; exact hS
  refine lv_iload_n hx hb dX5_needRank_0 rfl (lv_at hl 1 rfl) ?_
  refine lv_if_lt (tgt := 16) hx hb dX5_needRank_1 (by decide) (fun k1 => ?_) (fun k1 => ?_)
  · replace hF := (if_pos k1).symm.trans hF
    refine lv_iconst (v := 0) hx hb dX5_needRank_16 (by decide) ?_
    exact K17 c_bag_total c_bag_often (0 : Int32) H locs ls hP hD hS (lv_sub hl [] rfl) hF
  · replace hF := (if_neg k1).symm.trans hF
    refine lv_iload_n hx hb dX5_needRank_4 rfl (lv_at hl 1 rfl) ?_
    refine lv_aload_n hx hb dX5_needRank_5 rfl (lv_at hl 0 rfl) ?_
    obtain ⟨r6, hr6, hF⟩ := opb hF
    refine kVI (As := []) (rest := [.int x1]) (ws' := (wd_X5_needRank cI a_t a_row a_work a_rest a_bag a_smooth a_text a_saves a_bag_often a_row_signs c_gone r6.2.1 r6.2.2 c_row_length c_row_signs)) ⟨hx, hb, hml, hown, hts⟩ (c_X5_all l D cI a_t a_row a_work a_rest a_bag a_smooth a_text a_saves a_bag_often a_row_signs H.size c_gone c_bag_total c_bag_often c_row_length c_row_signs  r6 hr6) (cwV 0 hts mw_X5_65 rfl rfl rfl hd_X5_all ⟨Nat.le_of_ble_eq_true rfl, Nat.le_of_ble_eq_true rfl⟩) hS hA hG hK hP hD [0, 1, 2, 3, 4] rfl rfl rfl rfl rfl ⟨Nat.zero_le _, Nat.zero_le _⟩ 5 0 rfl rfl rfl rfl hl.1 rfl (Nat.le_of_ble_eq_true rfl) dX5_needRank_6 (fun H locs hP hD hS => ?_)
    refine lv_icmp_ge (tgt := 16) hx hb dX5_needRank_9 (by decide) (fun k9 => ?_) (fun k9 => ?_)
    · (try simp only [if_pos k9] at hF)
      refine lv_iconst (v := 0) hx hb dX5_needRank_16 (by decide) ?_
      exact K17 r6.2.1 r6.2.2 (0 : Int32) H locs ls hP hD hS (lv_sub hl [] rfl) hF
    · (try simp only [if_neg k9] at hF)
      refine lv_iconst (v := 1) hx hb dX5_needRank_12 (by decide) ?_
      refine lv_goto (tgt := 17) hx hb dX5_needRank_13 (by decide) ?_
      exact K17 r6.2.1 r6.2.2 (1 : Int32) H locs ls hP hD hS (lv_sub hl [] rfl) hF
def rm_X5_goTo_T : Room := { frames := 8, cells := 1, slots := 6, locals := 133 }
set_option maxHeartbeats 4000000 in
set_option maxRecDepth 100000 in
theorem c_X5_goTo_T (l : Launch) (D : va_G) (cI : ClassId) (hl0 : l.stackTraces = false) (a_t a_row a_work a_rest a_bag a_smooth a_text a_saves a_bag_often a_row_signs a_saves_slots a_work_signs : Nat) (sz : Nat) (c_gone : Int32) (c_bag_total : Int32) (c_bag_often : Nat → Int32) (c_row_length : Int32) (c_row_signs : Nat → Int32) (c_saves_held : Int32) (c_saves_slots : Nat → Int32) (c_work_length : Int32) (c_work_signs : Nat → Int32) (x1 : Int32) (o : Nat × Int32 × Int32 × (Nat → Int32) × Int32 × (Nat → Int32) × Int32 × (Nat → Int32) × Int32 × (Nat → Int32)) (hF : F_X5_goTo_T c_gone c_bag_total c_bag_often c_row_length c_row_signs c_saves_held c_saves_slots c_work_length c_work_signs x1 = some o) : vx_Met l yX5_goTo (Cond.code yX5_goTo cX5_goTo 3 (some .int) :: WL) rm_X5_goTo_T (preM D [(cI, .int)] (wd_X5_goTo cI a_t a_row a_work a_rest a_bag a_smooth a_text a_saves a_bag_often a_row_signs a_saves_slots a_work_signs c_gone c_bag_total c_bag_often c_row_length c_row_signs c_saves_held c_saves_slots c_work_length c_work_signs) sz [.ref a_t, .int x1]) noQ (postX D o.1 (wd_X5_goTo cI a_t a_row a_work a_rest a_bag a_smooth a_text a_saves a_bag_often a_row_signs a_saves_slots a_work_signs o.2.1 o.2.2.1 o.2.2.2.1 o.2.2.2.2.1 o.2.2.2.2.2.1 o.2.2.2.2.2.2.1 o.2.2.2.2.2.2.2.1 o.2.2.2.2.2.2.2.2.1 o.2.2.2.2.2.2.2.2.2) (wd_X5_goTo cI a_t a_row a_work a_rest a_bag a_smooth a_text a_saves a_bag_often a_row_signs a_saves_slots a_work_signs c_gone c_bag_total c_bag_often c_row_length c_row_signs c_saves_held c_saves_slots c_work_length c_work_signs) sz) 1 6 (va_A (wd_X5_goTo cI a_t a_row a_work a_rest a_bag a_smooth a_text a_saves a_bag_often a_row_signs a_saves_slots a_work_signs c_gone c_bag_total c_bag_often c_row_length c_row_signs c_saves_held c_saves_slots c_work_length c_work_signs) sz) := by
  refine mofT hl0 rfl (Nat.le_of_ble_eq_true rfl) (Nat.le_of_ble_eq_true rfl) (Nat.le_of_ble_eq_true rfl) (Nat.le_of_ble_eq_true rfl) (by decide +kernel) (Nat.le_of_ble_eq_true rfl) ?_
  intro p e s m args below meth c Q A ls hx hb hml hown hts hK hP hD hS hA hG hl hout hnew hsz0
  have hl : lv_has ls 3 [(0, .ref a_t), (1, .int x1)] := hl
  unfold F_X5_goTo_T at hF
  have hP : va_P D vwCl (wd_X5_goTo cI a_t a_row a_work a_rest a_bag a_smooth a_text a_saves a_bag_often a_row_signs a_saves_slots a_work_signs c_gone c_bag_total c_bag_often c_row_length c_row_signs c_saves_held c_saves_slots c_work_length c_work_signs) s.heap := hP
  obtain ⟨H, hH⟩ : ∃ H, H = s.heap := ⟨_, rfl⟩
  rw [← hH]
  rw [← hH] at hP
  obtain ⟨locs, hlo⟩ : ∃ z : List Loc, z = [] := ⟨_, rfl⟩
  rw [← hlo]
  have hS : va_S A s.heap H locs := by rw [hH, hlo]; exact hS
  refine lv_aload_n hx hb dX5_goTo_0 rfl (lv_at hl 0 rfl) ?_
  refine lv_iload_n hx hb dX5_goTo_1 rfl (lv_at hl 1 rfl) ?_
  rcases opcb hF with ⟨q2, hq2, hF⟩ | hF
  · refine kVT (As := [.int x1]) (rest := []) (ws' := (wd_X5_goTo cI a_t a_row a_work a_rest a_bag a_smooth a_text a_saves a_bag_often a_row_signs a_saves_slots a_work_signs c_gone q2.2.1 q2.2.2 c_row_length c_row_signs c_saves_held c_saves_slots c_work_length c_work_signs)) ⟨hx, hb, hml, hown, hts⟩ (c_X5_needRank_T l D cI hl0 a_t a_row a_work a_rest a_bag a_smooth a_text a_saves a_bag_often a_row_signs H.size c_gone c_bag_total c_bag_often c_row_length c_row_signs x1 q2 hq2) (cwV 1 hts mw_X5_54 rfl rfl rfl hd_X5_needRank ⟨Nat.le_of_ble_eq_true rfl, Nat.le_of_ble_eq_true rfl⟩) hS hA hG hK hP hD [0, 1, 2, 3, 4] rfl rfl rfl rfl rfl ⟨Nat.le_of_ble_eq_true rfl, Nat.le_of_ble_eq_true rfl⟩ 5 0 rfl rfl rfl rfl hl.1 rfl (Nat.le_of_ble_eq_true rfl) dX5_goTo_2 (fun H locs q9 ce hP hD hS hce hcv hcl => ?_)
    have ho := Option.some.inj hF
    exact hout H locs ls 2 _ q9 ce q2.1 _ hP hS (by rw [← ho]) (by rw [← ho]) hce hcv hcl
  · exact nos hF
def rm_X5_jump_T : Room := { frames := 6, cells := 1, slots := 6, locals := 133 }
set_option maxHeartbeats 4000000 in
set_option maxRecDepth 100000 in
theorem c_X5_jump_T (l : Launch) (D : va_G) (cI : ClassId) (hl0 : l.stackTraces = false) (a_t a_row a_work a_rest a_bag a_smooth a_text a_saves a_bag_often a_row_signs a_saves_slots a_work_signs : Nat) (sz : Nat) (c_gone : Int32) (c_bag_total : Int32) (c_bag_often : Nat → Int32) (c_row_length : Int32) (c_row_signs : Nat → Int32) (c_saves_held : Int32) (c_saves_slots : Nat → Int32) (c_work_length : Int32) (c_work_signs : Nat → Int32) (x1 : Int32) (o : Nat × Int32 × Int32 × (Nat → Int32) × Int32 × (Nat → Int32) × Int32 × (Nat → Int32) × Int32 × (Nat → Int32)) (hF : F_X5_jump_T c_gone c_bag_total c_bag_often c_row_length c_row_signs c_saves_held c_saves_slots c_work_length c_work_signs x1 = some o) : vx_Met l yX5_jump (Cond.code yX5_jump cX5_jump 4 (some .int) :: WL) rm_X5_jump_T (preM D [(cI, .int)] (wd_X5_jump cI a_t a_row a_work a_rest a_bag a_smooth a_text a_saves a_bag_often a_row_signs a_saves_slots a_work_signs c_gone c_bag_total c_bag_often c_row_length c_row_signs c_saves_held c_saves_slots c_work_length c_work_signs) sz [.ref a_t, .int x1]) noQ (postX D o.1 (wd_X5_jump cI a_t a_row a_work a_rest a_bag a_smooth a_text a_saves a_bag_often a_row_signs a_saves_slots a_work_signs o.2.1 o.2.2.1 o.2.2.2.1 o.2.2.2.2.1 o.2.2.2.2.2.1 o.2.2.2.2.2.2.1 o.2.2.2.2.2.2.2.1 o.2.2.2.2.2.2.2.2.1 o.2.2.2.2.2.2.2.2.2) (wd_X5_jump cI a_t a_row a_work a_rest a_bag a_smooth a_text a_saves a_bag_often a_row_signs a_saves_slots a_work_signs c_gone c_bag_total c_bag_often c_row_length c_row_signs c_saves_held c_saves_slots c_work_length c_work_signs) sz) 1 6 (va_A (wd_X5_jump cI a_t a_row a_work a_rest a_bag a_smooth a_text a_saves a_bag_often a_row_signs a_saves_slots a_work_signs c_gone c_bag_total c_bag_often c_row_length c_row_signs c_saves_held c_saves_slots c_work_length c_work_signs) sz) := by
  refine mofT hl0 rfl (Nat.le_of_ble_eq_true rfl) (Nat.le_of_ble_eq_true rfl) (Nat.le_of_ble_eq_true rfl) (Nat.le_of_ble_eq_true rfl) (by decide +kernel) (Nat.le_of_ble_eq_true rfl) ?_
  intro p e s m args below meth c Q A ls hx hb hml hown hts hK hP hD hS hA hG hl hout hnew hsz0
  have hl : lv_has ls 4 [(0, .ref a_t), (1, .int x1)] := hl
  unfold F_X5_jump_T at hF
  have hP : va_P D vwCl (wd_X5_jump cI a_t a_row a_work a_rest a_bag a_smooth a_text a_saves a_bag_often a_row_signs a_saves_slots a_work_signs c_gone c_bag_total c_bag_often c_row_length c_row_signs c_saves_held c_saves_slots c_work_length c_work_signs) s.heap := hP
  obtain ⟨H, hH⟩ : ∃ H, H = s.heap := ⟨_, rfl⟩
  rw [← hH]
  rw [← hH] at hP
  obtain ⟨locs, hlo⟩ : ∃ z : List Loc, z = [] := ⟨_, rfl⟩
  rw [← hlo]
  have hS : va_S A s.heap H locs := by rw [hH, hlo]; exact hS
  refine lv_aload_n hx hb dX5_jump_0 rfl (lv_at hl 0 rfl) ?_
  refine lv_aload_n hx hb dX5_jump_1 rfl (lv_at hl 0 rfl) ?_
  refine get_X5_10 hx hb hts hown hK hP 0 rfl rfl dX5_jump_2 ?_
  obtain ⟨r5, hr5, hF⟩ := opb hF
  refine kVI (As := [.ref a_row]) (rest := []) (ws' := (wd_X5_jump cI a_t a_row a_work a_rest a_bag a_smooth a_text a_saves a_bag_often a_row_signs a_saves_slots a_work_signs c_gone r5.2.1 r5.2.2 c_row_length c_row_signs c_saves_held c_saves_slots c_work_length c_work_signs)) ⟨hx, hb, hml, hown, hts⟩ (c_X5_rankOf l D cI a_t a_row a_row a_work a_rest a_bag a_smooth a_text a_saves a_bag_often a_row_signs H.size c_gone c_bag_total c_bag_often c_row_length c_row_signs  r5 hr5) (cwV 1 hts mw_X5_57 rfl rfl rfl hd_X5_rankOf ⟨Nat.le_of_ble_eq_true rfl, Nat.le_of_ble_eq_true rfl⟩) hS hA hG hK hP hD [0, 1, 2, 3, 4] rfl rfl rfl rfl rfl ⟨Nat.zero_le _, Nat.zero_le _⟩ 5 0 rfl rfl rfl rfl hl.1 rfl (Nat.le_of_ble_eq_true rfl) dX5_jump_5 (fun H locs hP hD hS => ?_)
  refine lv_i2l hx hb dX5_jump_8 rfl ?_
  refine lv_iload_n hx hb dX5_jump_9 rfl (lv_at hl 1 rfl) ?_
  refine lv_i2l hx hb dX5_jump_10 rfl ?_
  refine lv_ladd hx hb dX5_jump_11 ?_
  refine lv_lstore_n (lv' := [(2, .long (((r5.1).toInt64) + ((x1).toInt64))), (0, .ref a_t), (1, .int x1)]) hx hb dX5_jump_12 rfl hl (by decide) rfl (fun ls hl => ?_)
  refine lv_lload_n hx hb dX5_jump_13 rfl (lv_at hl 0 rfl) ?_
  refine lv_lconst (v := 0) hx hb dX5_jump_14 (by decide) ?_
  refine W.lcmp hx hb dX5_jump_15 ?_
  refine lv_if_lt (tgt := 29) hx hb dX5_jump_16 (by decide) (fun k16 => ?_) (fun k16 => ?_)
  · replace hF := (if_pos k16).symm.trans hF
    have ho := Option.some.inj hF
    exact hnew H locs ls 29 69 73 71 "there is no such rank" 2 _ hP hS (by rw [← ho]) (by rw [← ho]) TX_2 hl.1 (by decide) ⟨dX5_jump_29, dX5_jump_32, Or.inl ⟨dX5_jump_33, dX5_jump_35, dX5_jump_38⟩⟩
  · replace hF := (if_neg k16).symm.trans hF
    refine lv_lload_n hx hb dX5_jump_19 rfl (lv_at hl 0 rfl) ?_
    refine lv_aload_n hx hb dX5_jump_20 rfl (lv_at hl 1 rfl) ?_
    obtain ⟨r21, hr21, hF⟩ := opb hF
    refine kVI (As := []) (rest := [.long (((r5.1).toInt64) + ((x1).toInt64))]) (ws' := (wd_X5_jump cI a_t a_row a_work a_rest a_bag a_smooth a_text a_saves a_bag_often a_row_signs a_saves_slots a_work_signs c_gone r21.2.1 r21.2.2 c_row_length c_row_signs c_saves_held c_saves_slots c_work_length c_work_signs)) ⟨hx, hb, hml, hown, hts⟩ (c_X5_all l D cI a_t a_row a_work a_rest a_bag a_smooth a_text a_saves a_bag_often a_row_signs H.size c_gone r5.2.1 r5.2.2 c_row_length c_row_signs  r21 hr21) (cwV 0 hts mw_X5_65 rfl rfl rfl hd_X5_all ⟨Nat.le_of_ble_eq_true rfl, Nat.le_of_ble_eq_true rfl⟩) hS hA hG hK hP hD [0, 1, 2, 3, 4] rfl rfl rfl rfl rfl ⟨Nat.zero_le _, Nat.zero_le _⟩ 5 0 rfl rfl rfl rfl hl.1 rfl (Nat.le_of_ble_eq_true rfl) dX5_jump_21 (fun H locs hP hD hS => ?_)
    refine lv_i2l hx hb dX5_jump_24 rfl ?_
    refine W.lcmp hx hb dX5_jump_25 ?_
    refine lv_if_lt (tgt := 39) hx hb dX5_jump_26 (by decide) (fun k26 => ?_) (fun k26 => ?_)
    · replace hF := (if_pos k26).symm.trans hF
      exact nos hF
    · replace hF := (if_neg k26).symm.trans hF
      have ho := Option.some.inj hF
      exact hnew H locs ls 29 69 73 71 "there is no such rank" 2 _ hP hS (by rw [← ho]) (by rw [← ho]) TX_2 hl.1 (by decide) ⟨dX5_jump_29, dX5_jump_32, Or.inl ⟨dX5_jump_33, dX5_jump_35, dX5_jump_38⟩⟩
def rm_X5_nextSmooth_T : Room := { frames := 6, cells := 1, slots := 6, locals := 133 }
set_option maxHeartbeats 4000000 in
set_option maxRecDepth 100000 in
theorem c_X5_nextSmooth_T (l : Launch) (D : va_G) (cI : ClassId) (hl0 : l.stackTraces = false) (a_t a_row a_work a_rest a_bag a_smooth a_text a_saves a_bag_often a_row_signs a_saves_slots a_smooth_madeFor a_smooth_weight a_smooth_inCell a_smooth_all a_smooth_starting a_work_signs : Nat) (sz : Nat) (c_gone : Int32) (c_bag_total : Int32) (c_bag_often : Nat → Int32) (c_row_length : Int32) (c_row_signs : Nat → Int32) (c_saves_held : Int32) (c_saves_slots : Nat → Int32) (c_smooth_all : Nat → Int32) (c_smooth_inCell : Nat → Int32) (c_smooth_madeFor : Nat → Int32) (c_smooth_starting : Nat → Int32) (c_smooth_weight : Nat → Int32) (c_work_length : Int32) (c_work_signs : Nat → Int32) (o : Nat × Int32 × Int32 × (Nat → Int32) × Int32 × (Nat → Int32) × Int32 × (Nat → Int32) × (Nat → Int32) × (Nat → Int32) × (Nat → Int32) × (Nat → Int32) × (Nat → Int32) × Int32 × (Nat → Int32)) (hF : F_X5_nextSmooth_T c_gone c_bag_total c_bag_often c_row_length c_row_signs c_saves_held c_saves_slots c_smooth_all c_smooth_inCell c_smooth_madeFor c_smooth_starting c_smooth_weight c_work_length c_work_signs = some o) : vx_Met l yX5_nextSmooth (Cond.code yX5_nextSmooth cX5_nextSmooth 2 (some .int) :: WL) rm_X5_nextSmooth_T (preM D [(cI, .int)] (wd_X5_nextSmooth cI a_t a_row a_work a_rest a_bag a_smooth a_text a_saves a_bag_often a_row_signs a_saves_slots a_smooth_madeFor a_smooth_weight a_smooth_inCell a_smooth_all a_smooth_starting a_work_signs c_gone c_bag_total c_bag_often c_row_length c_row_signs c_saves_held c_saves_slots c_smooth_all c_smooth_inCell c_smooth_madeFor c_smooth_starting c_smooth_weight c_work_length c_work_signs) sz [.ref a_t]) noQ (postX D o.1 (wd_X5_nextSmooth cI a_t a_row a_work a_rest a_bag a_smooth a_text a_saves a_bag_often a_row_signs a_saves_slots a_smooth_madeFor a_smooth_weight a_smooth_inCell a_smooth_all a_smooth_starting a_work_signs o.2.1 o.2.2.1 o.2.2.2.1 o.2.2.2.2.1 o.2.2.2.2.2.1 o.2.2.2.2.2.2.1 o.2.2.2.2.2.2.2.1 o.2.2.2.2.2.2.2.2.1 o.2.2.2.2.2.2.2.2.2.1 o.2.2.2.2.2.2.2.2.2.2.1 o.2.2.2.2.2.2.2.2.2.2.2.1 o.2.2.2.2.2.2.2.2.2.2.2.2.1 o.2.2.2.2.2.2.2.2.2.2.2.2.2.1 o.2.2.2.2.2.2.2.2.2.2.2.2.2.2) (wd_X5_nextSmooth cI a_t a_row a_work a_rest a_bag a_smooth a_text a_saves a_bag_often a_row_signs a_saves_slots a_smooth_madeFor a_smooth_weight a_smooth_inCell a_smooth_all a_smooth_starting a_work_signs c_gone c_bag_total c_bag_often c_row_length c_row_signs c_saves_held c_saves_slots c_smooth_all c_smooth_inCell c_smooth_madeFor c_smooth_starting c_smooth_weight c_work_length c_work_signs) sz) 1 6 (va_A (wd_X5_nextSmooth cI a_t a_row a_work a_rest a_bag a_smooth a_text a_saves a_bag_often a_row_signs a_saves_slots a_smooth_madeFor a_smooth_weight a_smooth_inCell a_smooth_all a_smooth_starting a_work_signs c_gone c_bag_total c_bag_often c_row_length c_row_signs c_saves_held c_saves_slots c_smooth_all c_smooth_inCell c_smooth_madeFor c_smooth_starting c_smooth_weight c_work_length c_work_signs) sz) := by
  refine mofT hl0 rfl (Nat.le_of_ble_eq_true rfl) (Nat.le_of_ble_eq_true rfl) (Nat.le_of_ble_eq_true rfl) (Nat.le_of_ble_eq_true rfl) (by decide +kernel) (Nat.le_of_ble_eq_true rfl) ?_
  intro p e s m args below meth c Q A ls hx hb hml hown hts hK hP hD hS hA hG hl hout hnew hsz0
  have hl : lv_has ls 2 [(0, .ref a_t)] := hl
  have K26 : ∀ (c_gone : Int32) (c_bag_total : Int32) (c_bag_often : Nat → Int32) (c_row_length : Int32) (c_row_signs : Nat → Int32) (c_saves_held : Int32) (c_saves_slots : Nat → Int32) (c_smooth_all : Nat → Int32) (c_smooth_inCell : Nat → Int32) (c_smooth_madeFor : Nat → Int32) (c_smooth_starting : Nat → Int32) (c_smooth_weight : Nat → Int32) (c_work_length : Int32) (c_work_signs : Nat → Int32) (v0 : Int32) (v1 : Int32)  (H : Heap) (locs : List Loc) (ls : Array Slot), va_P D vwCl (wd_X5_nextSmooth cI a_t a_row a_work a_rest a_bag a_smooth a_text a_saves a_bag_often a_row_signs a_saves_slots a_smooth_madeFor a_smooth_weight a_smooth_inCell a_smooth_all a_smooth_starting a_work_signs c_gone c_bag_total c_bag_often c_row_length c_row_signs c_saves_held c_saves_slots c_smooth_all c_smooth_inCell c_smooth_madeFor c_smooth_starting c_smooth_weight c_work_length c_work_signs) H → va_D A (wd_X5_nextSmooth cI a_t a_row a_work a_rest a_bag a_smooth a_text a_saves a_bag_often a_row_signs a_saves_slots a_smooth_madeFor a_smooth_weight a_smooth_inCell a_smooth_all a_smooth_starting a_work_signs c_gone c_bag_total c_bag_often c_row_length c_row_signs c_saves_held c_saves_slots c_smooth_all c_smooth_inCell c_smooth_madeFor c_smooth_starting c_smooth_weight c_work_length c_work_signs) → va_S A s.heap H locs → lv_has ls 2 [(0, .ref a_t)] → F_X5_nextSmooth_T_J26 c_gone c_bag_total c_bag_often c_row_length c_row_signs c_saves_held c_saves_slots c_smooth_all c_smooth_inCell c_smooth_madeFor c_smooth_starting c_smooth_weight c_work_length c_work_signs v0 v1 = some o → W p l e rm_X5_nextSmooth_T s m args below meth c H locs 0 0 Q (F0 m 26 ls [.int v1, .int v0]) := by
    intro c_gone c_bag_total c_bag_often c_row_length c_row_signs c_saves_held c_saves_slots c_smooth_all c_smooth_inCell c_smooth_madeFor c_smooth_starting c_smooth_weight c_work_length c_work_signs v0 v1 H locs ls hP hD hS hl hF
    unfold F_X5_nextSmooth_T_J26 at hF
    refine lv_iadd hx hb dX5_nextSmooth_26 ?_
    refine lv_istore_n (lv' := [(1, .int (v0 + v1)), (0, .ref a_t)]) hx hb dX5_nextSmooth_27 rfl hl (by decide) rfl (fun ls hl => ?_)
    refine lv_iload_n hx hb dX5_nextSmooth_28 rfl (lv_at hl 0 rfl) ?_
    refine lv_aload_n hx hb dX5_nextSmooth_29 rfl (lv_at hl 1 rfl) ?_
    obtain ⟨r30, hr30, hF⟩ := opb hF
    refine kVI (As := []) (rest := [.int (v0 + v1)]) (ws' := (wd_X5_nextSmooth cI a_t a_row a_work a_rest a_bag a_smooth a_text a_saves a_bag_often a_row_signs a_saves_slots a_smooth_madeFor a_smooth_weight a_smooth_inCell a_smooth_all a_smooth_starting a_work_signs c_gone r30.2.1 r30.2.2.1 c_row_length c_row_signs c_saves_held c_saves_slots r30.2.2.2.1 r30.2.2.2.2.1 r30.2.2.2.2.2.1 r30.2.2.2.2.2.2.1 r30.2.2.2.2.2.2.2 c_work_length c_work_signs)) ⟨hx, hb, hml, hown, hts⟩ (c_X5_allSmooth l D cI a_t a_row a_work a_rest a_bag a_smooth a_text a_saves a_bag_often a_row_signs a_smooth_madeFor a_smooth_weight a_smooth_inCell a_smooth_all a_smooth_starting H.size c_gone c_bag_total c_bag_often c_row_length c_row_signs c_smooth_all c_smooth_inCell c_smooth_madeFor c_smooth_starting c_smooth_weight  r30 hr30) (cwV 0 hts mw_X5_86 rfl rfl rfl hd_X5_allSmooth ⟨Nat.le_of_ble_eq_true rfl, Nat.le_of_ble_eq_true rfl⟩) hS hA hG hK hP hD [0, 1, 2, 3, 4, 7, 8, 9, 10, 11, 12] rfl rfl rfl rfl rfl ⟨Nat.zero_le _, Nat.zero_le _⟩ 5 0 rfl rfl rfl rfl hl.1 rfl (Nat.le_of_ble_eq_true rfl) dX5_nextSmooth_30 (fun H locs hP hD hS => ?_)
    refine lv_icmp_lt (tgt := 46) hx hb dX5_nextSmooth_33 (by decide) (fun k33 => ?_) (fun k33 => ?_)
    · replace hF := (if_pos k33).symm.trans hF
      exact nos hF
    · replace hF := (if_neg k33).symm.trans hF
      have ho := Option.some.inj hF
      exact hnew H locs ls 36 69 73 89 "there is no smooth one behind this one" 2 _ hP hS (by rw [← ho]) (by rw [← ho]) TX_2 hl.1 (by decide) ⟨dX5_nextSmooth_36, dX5_nextSmooth_39, Or.inl ⟨dX5_nextSmooth_40, dX5_nextSmooth_42, dX5_nextSmooth_45⟩⟩
  unfold F_X5_nextSmooth_T at hF
  have hP : va_P D vwCl (wd_X5_nextSmooth cI a_t a_row a_work a_rest a_bag a_smooth a_text a_saves a_bag_often a_row_signs a_saves_slots a_smooth_madeFor a_smooth_weight a_smooth_inCell a_smooth_all a_smooth_starting a_work_signs c_gone c_bag_total c_bag_often c_row_length c_row_signs c_saves_held c_saves_slots c_smooth_all c_smooth_inCell c_smooth_madeFor c_smooth_starting c_smooth_weight c_work_length c_work_signs) s.heap := hP
  obtain ⟨H, hH⟩ : ∃ H, H = s.heap := ⟨_, rfl⟩
  rw [← hH]
  rw [← hH] at hP
  obtain ⟨locs, hlo⟩ : ∃ z : List Loc, z = [] := ⟨_, rfl⟩
  rw [← hlo]
  have hS : va_S A s.heap H locs := by rw [hH, hlo]; exact hS
  refine lv_aload_n hx hb dX5_nextSmooth_0 rfl (lv_at hl 0 rfl) ?_
  obtain ⟨r1, hr1, hF⟩ := opb hF
  refine kVI (As := []) (rest := []) (ws' := (wd_X5_nextSmooth cI a_t a_row a_work a_rest a_bag a_smooth a_text a_saves a_bag_often a_row_signs a_saves_slots a_smooth_madeFor a_smooth_weight a_smooth_inCell a_smooth_all a_smooth_starting a_work_signs c_gone r1.2.1 r1.2.2.1 c_row_length c_row_signs c_saves_held c_saves_slots r1.2.2.2.1 r1.2.2.2.2.1 r1.2.2.2.2.2.1 r1.2.2.2.2.2.2.1 r1.2.2.2.2.2.2.2 c_work_length c_work_signs)) ⟨hx, hb, hml, hown, hts⟩ (c_X5_smoothRank l D cI a_t a_row a_work a_rest a_bag a_smooth a_text a_saves a_bag_often a_row_signs a_smooth_madeFor a_smooth_weight a_smooth_inCell a_smooth_all a_smooth_starting H.size c_gone c_bag_total c_bag_often c_row_length c_row_signs c_smooth_all c_smooth_inCell c_smooth_madeFor c_smooth_starting c_smooth_weight  r1 hr1) (cwV 0 hts mw_X5_76 rfl rfl rfl hd_X5_smoothRank ⟨Nat.le_of_ble_eq_true rfl, Nat.le_of_ble_eq_true rfl⟩) hS hA hG hK hP hD [0, 1, 2, 3, 4, 7, 8, 9, 10, 11, 12] rfl rfl rfl rfl rfl ⟨Nat.zero_le _, Nat.zero_le _⟩ 5 0 rfl rfl rfl rfl hl.1 rfl (Nat.le_of_ble_eq_true rfl) dX5_nextSmooth_1 (fun H locs hP hD hS => ?_)
  refine lv_aload_n hx hb dX5_nextSmooth_4 rfl (lv_at hl 0 rfl) ?_
  refine get_X5_10 hx hb hts hown hK hP 0 rfl rfl dX5_nextSmooth_5 ?_
  refine lv_aload_n hx hb dX5_nextSmooth_8 rfl (lv_at hl 0 rfl) ?_
  refine get_X5_10 hx hb hts hown hK hP 0 rfl rfl dX5_nextSmooth_9 ?_
  obtain ⟨r12, hr12, hF⟩ := opb hF
  refine kVI (As := []) (rest := [.ref a_row, .int r1.1]) (ws' := (wd_X5_nextSmooth cI a_t a_row a_work a_rest a_bag a_smooth a_text a_saves a_bag_often a_row_signs a_saves_slots a_smooth_madeFor a_smooth_weight a_smooth_inCell a_smooth_all a_smooth_starting a_work_signs c_gone r1.2.1 r1.2.2.1 c_row_length c_row_signs c_saves_held c_saves_slots r1.2.2.2.1 r1.2.2.2.2.1 r1.2.2.2.2.2.1 r1.2.2.2.2.2.2.1 r1.2.2.2.2.2.2.2 c_work_length c_work_signs)) ⟨hx, hb, hml, hown, hts⟩ (c_X1_length l D cI a_row a_row_signs H.size c_row_length  r12 hr12) (cwV 0 hts mw_X5_79 rfl rfl rfl hd_X1_length ⟨Nat.le_of_ble_eq_true rfl, Nat.le_of_ble_eq_true rfl⟩) hS hA hG hK hP hD [3] rfl rfl rfl rfl rfl ⟨Nat.zero_le _, Nat.zero_le _⟩ 1 3 rfl rfl rfl rfl hl.1 rfl (Nat.le_of_ble_eq_true rfl) dX5_nextSmooth_12 (fun H locs hP hD hS => ?_)
  obtain ⟨r15, hr15, hF⟩ := opb hF
  refine kVI (As := [.int r12]) (rest := [.int r1.1]) (ws' := (wd_X5_nextSmooth cI a_t a_row a_work a_rest a_bag a_smooth a_text a_saves a_bag_often a_row_signs a_saves_slots a_smooth_madeFor a_smooth_weight a_smooth_inCell a_smooth_all a_smooth_starting a_work_signs c_gone r1.2.1 r1.2.2.1 c_row_length c_row_signs c_saves_held c_saves_slots r1.2.2.2.1 r1.2.2.2.2.1 r1.2.2.2.2.2.1 r1.2.2.2.2.2.2.1 r1.2.2.2.2.2.2.2 c_work_length c_work_signs)) ⟨hx, hb, hml, hown, hts⟩ (c_X1_isSmooth l D cI a_row a_row_signs H.size c_row_length c_row_signs r12 r15 hr15) (cwV 1 hts mw_X5_82 rfl rfl rfl hd_X1_isSmooth ⟨Nat.le_of_ble_eq_true rfl, Nat.le_of_ble_eq_true rfl⟩) hS hA hG hK hP hD [3, 4] rfl rfl rfl rfl rfl ⟨Nat.zero_le _, Nat.zero_le _⟩ 1 3 rfl rfl rfl rfl hl.1 rfl (Nat.le_of_ble_eq_true rfl) dX5_nextSmooth_15 (fun H locs hP hD hS => ?_)
  refine lv_if_eq (tgt := 25) hx hb dX5_nextSmooth_18 (by decide) (fun k18 => ?_) (fun k18 => ?_)
  · (try simp only [if_pos k18] at hF)
    refine lv_iconst (v := 0) hx hb dX5_nextSmooth_25 (by decide) ?_
    exact K26 c_gone r1.2.1 r1.2.2.1 c_row_length c_row_signs c_saves_held c_saves_slots r1.2.2.2.1 r1.2.2.2.2.1 r1.2.2.2.2.2.1 r1.2.2.2.2.2.2.1 r1.2.2.2.2.2.2.2 c_work_length c_work_signs r1.1 (0 : Int32) H locs ls hP hD hS (lv_sub hl [0] rfl) hF
  · (try simp only [if_neg k18] at hF)
    refine lv_iconst (v := 1) hx hb dX5_nextSmooth_21 (by decide) ?_
    refine lv_goto (tgt := 26) hx hb dX5_nextSmooth_22 (by decide) ?_
    exact K26 c_gone r1.2.1 r1.2.2.1 c_row_length c_row_signs c_saves_held c_saves_slots r1.2.2.2.1 r1.2.2.2.2.1 r1.2.2.2.2.2.1 r1.2.2.2.2.2.2.1 r1.2.2.2.2.2.2.2 c_work_length c_work_signs r1.1 (1 : Int32) H locs ls hP hD hS (lv_sub hl [0] rfl) hF
def rm_X5_goToSmooth_T : Room := { frames := 6, cells := 1, slots := 6, locals := 133 }
set_option maxHeartbeats 4000000 in
set_option maxRecDepth 100000 in
theorem c_X5_goToSmooth_T (l : Launch) (D : va_G) (cI : ClassId) (hl0 : l.stackTraces = false) (a_t a_row a_work a_rest a_bag a_smooth a_text a_saves a_bag_often a_row_signs a_saves_slots a_smooth_madeFor a_smooth_weight a_smooth_inCell a_smooth_all a_smooth_starting a_work_signs : Nat) (sz : Nat) (c_gone : Int32) (c_bag_total : Int32) (c_bag_often : Nat → Int32) (c_row_length : Int32) (c_row_signs : Nat → Int32) (c_saves_held : Int32) (c_saves_slots : Nat → Int32) (c_smooth_all : Nat → Int32) (c_smooth_inCell : Nat → Int32) (c_smooth_madeFor : Nat → Int32) (c_smooth_starting : Nat → Int32) (c_smooth_weight : Nat → Int32) (c_work_length : Int32) (c_work_signs : Nat → Int32) (x1 : Int32) (o : Nat × Int32 × Int32 × (Nat → Int32) × Int32 × (Nat → Int32) × Int32 × (Nat → Int32) × (Nat → Int32) × (Nat → Int32) × (Nat → Int32) × (Nat → Int32) × (Nat → Int32) × Int32 × (Nat → Int32)) (hF : F_X5_goToSmooth_T c_gone c_bag_total c_bag_often c_row_length c_row_signs c_saves_held c_saves_slots c_smooth_all c_smooth_inCell c_smooth_madeFor c_smooth_starting c_smooth_weight c_work_length c_work_signs x1 = some o) : vx_Met l yX5_goToSmooth (Cond.code yX5_goToSmooth cX5_goToSmooth 2 (some .int) :: WL) rm_X5_goToSmooth_T (preM D [(cI, .int)] (wd_X5_goToSmooth cI a_t a_row a_work a_rest a_bag a_smooth a_text a_saves a_bag_often a_row_signs a_saves_slots a_smooth_madeFor a_smooth_weight a_smooth_inCell a_smooth_all a_smooth_starting a_work_signs c_gone c_bag_total c_bag_often c_row_length c_row_signs c_saves_held c_saves_slots c_smooth_all c_smooth_inCell c_smooth_madeFor c_smooth_starting c_smooth_weight c_work_length c_work_signs) sz [.ref a_t, .int x1]) noQ (postX D o.1 (wd_X5_goToSmooth cI a_t a_row a_work a_rest a_bag a_smooth a_text a_saves a_bag_often a_row_signs a_saves_slots a_smooth_madeFor a_smooth_weight a_smooth_inCell a_smooth_all a_smooth_starting a_work_signs o.2.1 o.2.2.1 o.2.2.2.1 o.2.2.2.2.1 o.2.2.2.2.2.1 o.2.2.2.2.2.2.1 o.2.2.2.2.2.2.2.1 o.2.2.2.2.2.2.2.2.1 o.2.2.2.2.2.2.2.2.2.1 o.2.2.2.2.2.2.2.2.2.2.1 o.2.2.2.2.2.2.2.2.2.2.2.1 o.2.2.2.2.2.2.2.2.2.2.2.2.1 o.2.2.2.2.2.2.2.2.2.2.2.2.2.1 o.2.2.2.2.2.2.2.2.2.2.2.2.2.2) (wd_X5_goToSmooth cI a_t a_row a_work a_rest a_bag a_smooth a_text a_saves a_bag_often a_row_signs a_saves_slots a_smooth_madeFor a_smooth_weight a_smooth_inCell a_smooth_all a_smooth_starting a_work_signs c_gone c_bag_total c_bag_often c_row_length c_row_signs c_saves_held c_saves_slots c_smooth_all c_smooth_inCell c_smooth_madeFor c_smooth_starting c_smooth_weight c_work_length c_work_signs) sz) 1 6 (va_A (wd_X5_goToSmooth cI a_t a_row a_work a_rest a_bag a_smooth a_text a_saves a_bag_often a_row_signs a_saves_slots a_smooth_madeFor a_smooth_weight a_smooth_inCell a_smooth_all a_smooth_starting a_work_signs c_gone c_bag_total c_bag_often c_row_length c_row_signs c_saves_held c_saves_slots c_smooth_all c_smooth_inCell c_smooth_madeFor c_smooth_starting c_smooth_weight c_work_length c_work_signs) sz) := by
  refine mofT hl0 rfl (Nat.le_of_ble_eq_true rfl) (Nat.le_of_ble_eq_true rfl) (Nat.le_of_ble_eq_true rfl) (Nat.le_of_ble_eq_true rfl) (by decide +kernel) (Nat.le_of_ble_eq_true rfl) ?_
  intro p e s m args below meth c Q A ls hx hb hml hown hts hK hP hD hS hA hG hl hout hnew hsz0
  have hl : lv_has ls 2 [(0, .ref a_t), (1, .int x1)] := hl
  unfold F_X5_goToSmooth_T at hF
  have hP : va_P D vwCl (wd_X5_goToSmooth cI a_t a_row a_work a_rest a_bag a_smooth a_text a_saves a_bag_often a_row_signs a_saves_slots a_smooth_madeFor a_smooth_weight a_smooth_inCell a_smooth_all a_smooth_starting a_work_signs c_gone c_bag_total c_bag_often c_row_length c_row_signs c_saves_held c_saves_slots c_smooth_all c_smooth_inCell c_smooth_madeFor c_smooth_starting c_smooth_weight c_work_length c_work_signs) s.heap := hP
  obtain ⟨H, hH⟩ : ∃ H, H = s.heap := ⟨_, rfl⟩
  rw [← hH]
  rw [← hH] at hP
  obtain ⟨locs, hlo⟩ : ∃ z : List Loc, z = [] := ⟨_, rfl⟩
  rw [← hlo]
  have hS : va_S A s.heap H locs := by rw [hH, hlo]; exact hS
  refine lv_iload_n hx hb dX5_goToSmooth_0 rfl (lv_at hl 1 rfl) ?_
  refine lv_if_lt (tgt := 12) hx hb dX5_goToSmooth_1 (by decide) (fun k1 => ?_) (fun k1 => ?_)
  · replace hF := (if_pos k1).symm.trans hF
    have ho := Option.some.inj hF
    exact hnew H locs ls 12 97 101 99 "there is no such smooth rank" 1 _ hP hS (by rw [← ho]) (by rw [← ho]) TX_1 hl.1 (by decide) ⟨dX5_goToSmooth_12, dX5_goToSmooth_15, Or.inl ⟨dX5_goToSmooth_16, dX5_goToSmooth_18, dX5_goToSmooth_21⟩⟩
  · replace hF := (if_neg k1).symm.trans hF
    refine lv_iload_n hx hb dX5_goToSmooth_4 rfl (lv_at hl 1 rfl) ?_
    refine lv_aload_n hx hb dX5_goToSmooth_5 rfl (lv_at hl 0 rfl) ?_
    obtain ⟨r6, hr6, hF⟩ := opb hF
    refine kVI (As := []) (rest := [.int x1]) (ws' := (wd_X5_goToSmooth cI a_t a_row a_work a_rest a_bag a_smooth a_text a_saves a_bag_often a_row_signs a_saves_slots a_smooth_madeFor a_smooth_weight a_smooth_inCell a_smooth_all a_smooth_starting a_work_signs c_gone r6.2.1 r6.2.2.1 c_row_length c_row_signs c_saves_held c_saves_slots r6.2.2.2.1 r6.2.2.2.2.1 r6.2.2.2.2.2.1 r6.2.2.2.2.2.2.1 r6.2.2.2.2.2.2.2 c_work_length c_work_signs)) ⟨hx, hb, hml, hown, hts⟩ (c_X5_allSmooth l D cI a_t a_row a_work a_rest a_bag a_smooth a_text a_saves a_bag_often a_row_signs a_smooth_madeFor a_smooth_weight a_smooth_inCell a_smooth_all a_smooth_starting H.size c_gone c_bag_total c_bag_often c_row_length c_row_signs c_smooth_all c_smooth_inCell c_smooth_madeFor c_smooth_starting c_smooth_weight  r6 hr6) (cwV 0 hts mw_X5_86 rfl rfl rfl hd_X5_allSmooth ⟨Nat.le_of_ble_eq_true rfl, Nat.le_of_ble_eq_true rfl⟩) hS hA hG hK hP hD [0, 1, 2, 3, 4, 7, 8, 9, 10, 11, 12] rfl rfl rfl rfl rfl ⟨Nat.zero_le _, Nat.zero_le _⟩ 5 0 rfl rfl rfl rfl hl.1 rfl (Nat.le_of_ble_eq_true rfl) dX5_goToSmooth_6 (fun H locs hP hD hS => ?_)
    refine lv_icmp_lt (tgt := 22) hx hb dX5_goToSmooth_9 (by decide) (fun k9 => ?_) (fun k9 => ?_)
    · replace hF := (if_pos k9).symm.trans hF
      exact nos hF
    · replace hF := (if_neg k9).symm.trans hF
      have ho := Option.some.inj hF
      exact hnew H locs ls 12 97 101 99 "there is no such smooth rank" 1 _ hP hS (by rw [← ho]) (by rw [← ho]) TX_1 hl.1 (by decide) ⟨dX5_goToSmooth_12, dX5_goToSmooth_15, Or.inl ⟨dX5_goToSmooth_16, dX5_goToSmooth_18, dX5_goToSmooth_21⟩⟩
def rm_X5_swap_T : Room := { frames := 7, cells := 1, slots := 6, locals := 111 }
set_option maxHeartbeats 4000000 in
set_option maxRecDepth 100000 in
theorem c_X5_swap_T (l : Launch) (D : va_G) (cI : ClassId) (hl0 : l.stackTraces = false) (a_t a_row a_work a_rest a_bag a_smooth a_text a_saves a_bag_often a_row_signs a_saves_slots : Nat) (sz : Nat) (c_gone : Int32) (c_bag_total : Int32) (c_bag_often : Nat → Int32) (c_row_length : Int32) (c_row_signs : Nat → Int32) (c_saves_held : Int32) (c_saves_slots : Nat → Int32) (x1 : Int32) (x2 : Int32) (o : Nat × Int32 × (Nat → Int32) × (Nat → Int32) × Int32 × (Nat → Int32)) (hF : F_X5_swap_T c_gone c_bag_total c_bag_often c_row_length c_row_signs c_saves_held c_saves_slots x1 x2 = some o) : vx_Met l yX5_swap (Cond.code yX5_swap cX5_swap 3 (some .int) :: WL) rm_X5_swap_T (preM D [(cI, .int)] (wd_X5_swap cI a_t a_row a_work a_rest a_bag a_smooth a_text a_saves a_bag_often a_row_signs a_saves_slots c_gone c_bag_total c_bag_often c_row_length c_row_signs c_saves_held c_saves_slots) sz [.ref a_t, .int x1, .int x2]) noQ (postX D o.1 (wd_X5_swap cI a_t a_row a_work a_rest a_bag a_smooth a_text a_saves a_bag_often a_row_signs a_saves_slots c_gone o.2.1 o.2.2.1 c_row_length o.2.2.2.1 o.2.2.2.2.1 o.2.2.2.2.2) (wd_X5_swap cI a_t a_row a_work a_rest a_bag a_smooth a_text a_saves a_bag_often a_row_signs a_saves_slots c_gone c_bag_total c_bag_often c_row_length c_row_signs c_saves_held c_saves_slots) sz) 1 6 (va_A (wd_X5_swap cI a_t a_row a_work a_rest a_bag a_smooth a_text a_saves a_bag_often a_row_signs a_saves_slots c_gone c_bag_total c_bag_often c_row_length c_row_signs c_saves_held c_saves_slots) sz) := by
  refine mofT hl0 rfl (Nat.le_of_ble_eq_true rfl) (Nat.le_of_ble_eq_true rfl) (Nat.le_of_ble_eq_true rfl) (Nat.le_of_ble_eq_true rfl) (by decide +kernel) (Nat.le_of_ble_eq_true rfl) ?_
  intro p e s m args below meth c Q A ls hx hb hml hown hts hK hP hD hS hA hG hl hout hnew hsz0
  have hl : lv_has ls 3 [(0, .ref a_t), (1, .int x1), (2, .int x2)] := hl
  unfold F_X5_swap_T at hF
  have hP : va_P D vwCl (wd_X5_swap cI a_t a_row a_work a_rest a_bag a_smooth a_text a_saves a_bag_often a_row_signs a_saves_slots c_gone c_bag_total c_bag_often c_row_length c_row_signs c_saves_held c_saves_slots) s.heap := hP
  obtain ⟨H, hH⟩ : ∃ H, H = s.heap := ⟨_, rfl⟩
  rw [← hH]
  rw [← hH] at hP
  obtain ⟨locs, hlo⟩ : ∃ z : List Loc, z = [] := ⟨_, rfl⟩
  rw [← hlo]
  have hS : va_S A s.heap H locs := by rw [hH, hlo]; exact hS
  refine lv_aload_n hx hb dX5_swap_0 rfl (lv_at hl 0 rfl) ?_
  refine lv_iload_n hx hb dX5_swap_1 rfl (lv_at hl 1 rfl) ?_
  rcases opcb hF with ⟨q2, hq2, hF⟩ | hF
  · refine kVT (As := [.int x1]) (rest := []) (ws' := (wd_X5_swap cI a_t a_row a_work a_rest a_bag a_smooth a_text a_saves a_bag_often a_row_signs a_saves_slots c_gone c_bag_total c_bag_often c_row_length c_row_signs c_saves_held c_saves_slots)) ⟨hx, hb, hml, hown, hts⟩ (c_X5_needPlace_T l D cI hl0 a_t a_row a_work a_rest a_bag a_smooth a_text a_saves a_row_signs H.size c_gone c_row_length x1 q2 hq2) (cwV 1 hts mw_X5_102 rfl rfl rfl hd_X5_needPlace ⟨Nat.le_of_ble_eq_true rfl, Nat.le_of_ble_eq_true rfl⟩) hS hA hG hK hP hD [0, 3] rfl rfl rfl rfl rfl ⟨Nat.le_of_ble_eq_true rfl, Nat.le_of_ble_eq_true rfl⟩ 5 0 rfl rfl rfl rfl hl.1 rfl (Nat.le_of_ble_eq_true rfl) dX5_swap_2 (fun H locs q9 ce hP hD hS hce hcv hcl => ?_)
    have ho := Option.some.inj hF
    exact hout H locs ls 2 _ q9 ce q2 _ hP hS (by rw [← ho]) (by rw [← ho]) hce hcv hcl
  · skip
    obtain ⟨r2, hr2, hF⟩ := opb hF
    refine kVV (As := [.int x1]) (rest := []) (ws' := (wd_X5_swap cI a_t a_row a_work a_rest a_bag a_smooth a_text a_saves a_bag_often a_row_signs a_saves_slots c_gone c_bag_total c_bag_often c_row_length c_row_signs c_saves_held c_saves_slots)) ⟨hx, hb, hml, hown, hts⟩ (c_X5_needPlace l D cI a_t a_row a_work a_rest a_bag a_smooth a_text a_saves a_row_signs H.size c_gone c_row_length x1 r2 hr2) (cwV 1 hts mw_X5_102 rfl rfl rfl hd_X5_needPlace ⟨Nat.le_of_ble_eq_true rfl, Nat.le_of_ble_eq_true rfl⟩) hS hA hG hK hP hD [0, 3] rfl rfl rfl rfl rfl ⟨Nat.zero_le _, Nat.zero_le _⟩ 5 0 rfl rfl rfl rfl hl.1 rfl (Nat.le_of_ble_eq_true rfl) dX5_swap_2 (fun H locs hP hD hS => ?_)
    refine lv_aload_n hx hb dX5_swap_5 rfl (lv_at hl 0 rfl) ?_
    refine lv_iload_n hx hb dX5_swap_6 rfl (lv_at hl 2 rfl) ?_
    rcases opcb hF with ⟨q7, hq7, hF⟩ | hF
    · refine kVT (As := [.int x2]) (rest := []) (ws' := (wd_X5_swap cI a_t a_row a_work a_rest a_bag a_smooth a_text a_saves a_bag_often a_row_signs a_saves_slots c_gone c_bag_total c_bag_often c_row_length c_row_signs c_saves_held c_saves_slots)) ⟨hx, hb, hml, hown, hts⟩ (c_X5_needPlace_T l D cI hl0 a_t a_row a_work a_rest a_bag a_smooth a_text a_saves a_row_signs H.size c_gone c_row_length x2 q7 hq7) (cwV 1 hts mw_X5_102 rfl rfl rfl hd_X5_needPlace ⟨Nat.le_of_ble_eq_true rfl, Nat.le_of_ble_eq_true rfl⟩) hS hA hG hK hP hD [0, 3] rfl rfl rfl rfl rfl ⟨Nat.le_of_ble_eq_true rfl, Nat.le_of_ble_eq_true rfl⟩ 5 0 rfl rfl rfl rfl hl.1 rfl (Nat.le_of_ble_eq_true rfl) dX5_swap_7 (fun H locs q9 ce hP hD hS hce hcv hcl => ?_)
      have ho := Option.some.inj hF
      exact hout H locs ls 7 _ q9 ce q7 _ hP hS (by rw [← ho]) (by rw [← ho]) hce hcv hcl
    · exact nos hF
def rm_X5_turn_T : Room := { frames := 7, cells := 1, slots := 6, locals := 111 }
set_option maxHeartbeats 4000000 in
set_option maxRecDepth 100000 in
theorem c_X5_turn_T (l : Launch) (D : va_G) (cI : ClassId) (hl0 : l.stackTraces = false) (a_t a_row a_work a_rest a_bag a_smooth a_text a_saves a_bag_often a_row_signs a_saves_slots : Nat) (sz : Nat) (c_gone : Int32) (c_bag_total : Int32) (c_bag_often : Nat → Int32) (c_row_length : Int32) (c_row_signs : Nat → Int32) (c_saves_held : Int32) (c_saves_slots : Nat → Int32) (x1 : Int32) (x2 : Int32) (o : Nat × Int32 × (Nat → Int32) × (Nat → Int32) × Int32 × (Nat → Int32)) (hF : F_X5_turn_T c_gone c_bag_total c_bag_often c_row_length c_row_signs c_saves_held c_saves_slots x1 x2 = some o) : vx_Met l yX5_turn (Cond.code yX5_turn cX5_turn 3 (some .int) :: WL) rm_X5_turn_T (preM D [(cI, .int)] (wd_X5_turn cI a_t a_row a_work a_rest a_bag a_smooth a_text a_saves a_bag_often a_row_signs a_saves_slots c_gone c_bag_total c_bag_often c_row_length c_row_signs c_saves_held c_saves_slots) sz [.ref a_t, .int x1, .int x2]) noQ (postX D o.1 (wd_X5_turn cI a_t a_row a_work a_rest a_bag a_smooth a_text a_saves a_bag_often a_row_signs a_saves_slots c_gone o.2.1 o.2.2.1 c_row_length o.2.2.2.1 o.2.2.2.2.1 o.2.2.2.2.2) (wd_X5_turn cI a_t a_row a_work a_rest a_bag a_smooth a_text a_saves a_bag_often a_row_signs a_saves_slots c_gone c_bag_total c_bag_often c_row_length c_row_signs c_saves_held c_saves_slots) sz) 1 6 (va_A (wd_X5_turn cI a_t a_row a_work a_rest a_bag a_smooth a_text a_saves a_bag_often a_row_signs a_saves_slots c_gone c_bag_total c_bag_often c_row_length c_row_signs c_saves_held c_saves_slots) sz) := by
  refine mofT hl0 rfl (Nat.le_of_ble_eq_true rfl) (Nat.le_of_ble_eq_true rfl) (Nat.le_of_ble_eq_true rfl) (Nat.le_of_ble_eq_true rfl) (by decide +kernel) (Nat.le_of_ble_eq_true rfl) ?_
  intro p e s m args below meth c Q A ls hx hb hml hown hts hK hP hD hS hA hG hl hout hnew hsz0
  have hl : lv_has ls 3 [(0, .ref a_t), (1, .int x1), (2, .int x2)] := hl
  have K20 : ∀ (c_bag_total : Int32) (c_bag_often : Nat → Int32) (c_row_signs : Nat → Int32) (c_saves_held : Int32) (c_saves_slots : Nat → Int32) (v0 : Int32)  (H : Heap) (locs : List Loc) (ls : Array Slot), va_P D vwCl (wd_X5_turn cI a_t a_row a_work a_rest a_bag a_smooth a_text a_saves a_bag_often a_row_signs a_saves_slots c_gone c_bag_total c_bag_often c_row_length c_row_signs c_saves_held c_saves_slots) H → va_D A (wd_X5_turn cI a_t a_row a_work a_rest a_bag a_smooth a_text a_saves a_bag_often a_row_signs a_saves_slots c_gone c_bag_total c_bag_often c_row_length c_row_signs c_saves_held c_saves_slots) → va_S A s.heap H locs → lv_has ls 3 [(0, .ref a_t), (1, .int x1), (2, .int x2)] → F_X5_turn_T_J20 c_gone c_row_length x1 x2 c_bag_total c_bag_often c_row_signs c_saves_held c_saves_slots v0 = some o → W p l e rm_X5_turn_T s m args below meth c H locs 0 0 Q (F0 m 20 ls [.int v0]) := by
    intro c_bag_total c_bag_often c_row_signs c_saves_held c_saves_slots v0 H locs ls hP hD hS hl hF
    unfold F_X5_turn_T_J20 at hF
    rcases opcb hF with ⟨q20, hq20, hF⟩ | hF
    · refine kST (As := [.int v0]) (rest := []) (ws' := (wd_X5_turn cI a_t a_row a_work a_rest a_bag a_smooth a_text a_saves a_bag_often a_row_signs a_saves_slots c_gone c_bag_total c_bag_often c_row_length c_row_signs c_saves_held c_saves_slots)) ⟨hx, hb, hml, hown, hts⟩ (c_X5_need_T l D cI hl0  H.size  v0 q20 hq20) (va_cwS 1 hts mw_X5_112 rfl rfl rfl hd_X5_need ⟨Nat.le_of_ble_eq_true rfl, Nat.le_of_ble_eq_true rfl⟩) hS hA hG hK hP hD [] rfl rfl rfl rfl rfl ⟨Nat.le_of_ble_eq_true rfl, Nat.le_of_ble_eq_true rfl⟩ rfl hl.1 rfl (Nat.le_of_ble_eq_true rfl) dX5_turn_20 (fun H locs q9 ce hP hD hS hce hcv hcl => ?_)
      have ho := Option.some.inj hF
      exact hout H locs ls 20 _ q9 ce q20 _ hP hS (by rw [← ho]) (by rw [← ho]) hce hcv hcl
    · exact nos hF
  unfold F_X5_turn_T at hF
  have hP : va_P D vwCl (wd_X5_turn cI a_t a_row a_work a_rest a_bag a_smooth a_text a_saves a_bag_often a_row_signs a_saves_slots c_gone c_bag_total c_bag_often c_row_length c_row_signs c_saves_held c_saves_slots) s.heap := hP
  obtain ⟨H, hH⟩ : ∃ H, H = s.heap := ⟨_, rfl⟩
  rw [← hH]
  rw [← hH] at hP
  obtain ⟨locs, hlo⟩ : ∃ z : List Loc, z = [] := ⟨_, rfl⟩
  rw [← hlo]
  have hS : va_S A s.heap H locs := by rw [hH, hlo]; exact hS
  refine lv_aload_n hx hb dX5_turn_0 rfl (lv_at hl 0 rfl) ?_
  refine lv_iload_n hx hb dX5_turn_1 rfl (lv_at hl 1 rfl) ?_
  rcases opcb hF with ⟨q2, hq2, hF⟩ | hF
  · refine kVT (As := [.int x1]) (rest := []) (ws' := (wd_X5_turn cI a_t a_row a_work a_rest a_bag a_smooth a_text a_saves a_bag_often a_row_signs a_saves_slots c_gone c_bag_total c_bag_often c_row_length c_row_signs c_saves_held c_saves_slots)) ⟨hx, hb, hml, hown, hts⟩ (c_X5_needPlace_T l D cI hl0 a_t a_row a_work a_rest a_bag a_smooth a_text a_saves a_row_signs H.size c_gone c_row_length x1 q2 hq2) (cwV 1 hts mw_X5_102 rfl rfl rfl hd_X5_needPlace ⟨Nat.le_of_ble_eq_true rfl, Nat.le_of_ble_eq_true rfl⟩) hS hA hG hK hP hD [0, 3] rfl rfl rfl rfl rfl ⟨Nat.le_of_ble_eq_true rfl, Nat.le_of_ble_eq_true rfl⟩ 5 0 rfl rfl rfl rfl hl.1 rfl (Nat.le_of_ble_eq_true rfl) dX5_turn_2 (fun H locs q9 ce hP hD hS hce hcv hcl => ?_)
    have ho := Option.some.inj hF
    exact hout H locs ls 2 _ q9 ce q2 _ hP hS (by rw [← ho]) (by rw [← ho]) hce hcv hcl
  · skip
    obtain ⟨r2, hr2, hF⟩ := opb hF
    refine kVV (As := [.int x1]) (rest := []) (ws' := (wd_X5_turn cI a_t a_row a_work a_rest a_bag a_smooth a_text a_saves a_bag_often a_row_signs a_saves_slots c_gone c_bag_total c_bag_often c_row_length c_row_signs c_saves_held c_saves_slots)) ⟨hx, hb, hml, hown, hts⟩ (c_X5_needPlace l D cI a_t a_row a_work a_rest a_bag a_smooth a_text a_saves a_row_signs H.size c_gone c_row_length x1 r2 hr2) (cwV 1 hts mw_X5_102 rfl rfl rfl hd_X5_needPlace ⟨Nat.le_of_ble_eq_true rfl, Nat.le_of_ble_eq_true rfl⟩) hS hA hG hK hP hD [0, 3] rfl rfl rfl rfl rfl ⟨Nat.zero_le _, Nat.zero_le _⟩ 5 0 rfl rfl rfl rfl hl.1 rfl (Nat.le_of_ble_eq_true rfl) dX5_turn_2 (fun H locs hP hD hS => ?_)
    refine lv_aload_n hx hb dX5_turn_5 rfl (lv_at hl 0 rfl) ?_
    refine lv_iload_n hx hb dX5_turn_6 rfl (lv_at hl 2 rfl) ?_
    rcases opcb hF with ⟨q7, hq7, hF⟩ | hF
    · refine kVT (As := [.int x2]) (rest := []) (ws' := (wd_X5_turn cI a_t a_row a_work a_rest a_bag a_smooth a_text a_saves a_bag_often a_row_signs a_saves_slots c_gone c_bag_total c_bag_often c_row_length c_row_signs c_saves_held c_saves_slots)) ⟨hx, hb, hml, hown, hts⟩ (c_X5_needPlace_T l D cI hl0 a_t a_row a_work a_rest a_bag a_smooth a_text a_saves a_row_signs H.size c_gone c_row_length x2 q7 hq7) (cwV 1 hts mw_X5_102 rfl rfl rfl hd_X5_needPlace ⟨Nat.le_of_ble_eq_true rfl, Nat.le_of_ble_eq_true rfl⟩) hS hA hG hK hP hD [0, 3] rfl rfl rfl rfl rfl ⟨Nat.le_of_ble_eq_true rfl, Nat.le_of_ble_eq_true rfl⟩ 5 0 rfl rfl rfl rfl hl.1 rfl (Nat.le_of_ble_eq_true rfl) dX5_turn_7 (fun H locs q9 ce hP hD hS hce hcv hcl => ?_)
      have ho := Option.some.inj hF
      exact hout H locs ls 7 _ q9 ce q7 _ hP hS (by rw [← ho]) (by rw [← ho]) hce hcv hcl
    · skip
      obtain ⟨r7, hr7, hF⟩ := opb hF
      refine kVV (As := [.int x2]) (rest := []) (ws' := (wd_X5_turn cI a_t a_row a_work a_rest a_bag a_smooth a_text a_saves a_bag_often a_row_signs a_saves_slots c_gone c_bag_total c_bag_often c_row_length c_row_signs c_saves_held c_saves_slots)) ⟨hx, hb, hml, hown, hts⟩ (c_X5_needPlace l D cI a_t a_row a_work a_rest a_bag a_smooth a_text a_saves a_row_signs H.size c_gone c_row_length x2 r7 hr7) (cwV 1 hts mw_X5_102 rfl rfl rfl hd_X5_needPlace ⟨Nat.le_of_ble_eq_true rfl, Nat.le_of_ble_eq_true rfl⟩) hS hA hG hK hP hD [0, 3] rfl rfl rfl rfl rfl ⟨Nat.zero_le _, Nat.zero_le _⟩ 5 0 rfl rfl rfl rfl hl.1 rfl (Nat.le_of_ble_eq_true rfl) dX5_turn_7 (fun H locs hP hD hS => ?_)
      refine lv_iload_n hx hb dX5_turn_10 rfl (lv_at hl 1 rfl) ?_
      refine lv_iload_n hx hb dX5_turn_11 rfl (lv_at hl 2 rfl) ?_
      refine lv_icmp_gt (tgt := 19) hx hb dX5_turn_12 (by decide) (fun k12 => ?_) (fun k12 => ?_)
      · (try simp only [if_pos k12] at hF)
        refine lv_iconst (v := 0) hx hb dX5_turn_19 (by decide) ?_
        exact K20 c_bag_total c_bag_often c_row_signs c_saves_held c_saves_slots (0 : Int32) H locs ls hP hD hS (lv_sub hl [0, 1, 2] rfl) hF
      · (try simp only [if_neg k12] at hF)
        refine lv_iconst (v := 1) hx hb dX5_turn_15 (by decide) ?_
        refine lv_goto (tgt := 20) hx hb dX5_turn_16 (by decide) ?_
        exact K20 c_bag_total c_bag_often c_row_signs c_saves_held c_saves_slots (1 : Int32) H locs ls hP hD hS (lv_sub hl [0, 1, 2] rfl) hF
def rm_X5_carry_T : Room := { frames := 7, cells := 1, slots := 6, locals := 111 }
set_option maxHeartbeats 4000000 in
set_option maxRecDepth 100000 in
theorem c_X5_carry_T (l : Launch) (D : va_G) (cI : ClassId) (hl0 : l.stackTraces = false) (a_t a_row a_work a_rest a_bag a_smooth a_text a_saves a_row_signs a_saves_slots : Nat) (sz : Nat) (c_gone : Int32) (c_row_length : Int32) (c_row_signs : Nat → Int32) (c_saves_held : Int32) (c_saves_slots : Nat → Int32) (x1 : Int32) (x2 : Int32) (o : Nat × (Nat → Int32) × Int32 × (Nat → Int32)) (hF : F_X5_carry_T c_gone c_row_length c_row_signs c_saves_held c_saves_slots x1 x2 = some o) : vx_Met l yX5_carry (Cond.code yX5_carry cX5_carry 5 (some .int) :: WL) rm_X5_carry_T (preM D [(cI, .int)] (wd_X5_carry cI a_t a_row a_work a_rest a_bag a_smooth a_text a_saves a_row_signs a_saves_slots c_gone c_row_length c_row_signs c_saves_held c_saves_slots) sz [.ref a_t, .int x1, .int x2]) noQ (postX D o.1 (wd_X5_carry cI a_t a_row a_work a_rest a_bag a_smooth a_text a_saves a_row_signs a_saves_slots c_gone c_row_length o.2.1 o.2.2.1 o.2.2.2) (wd_X5_carry cI a_t a_row a_work a_rest a_bag a_smooth a_text a_saves a_row_signs a_saves_slots c_gone c_row_length c_row_signs c_saves_held c_saves_slots) sz) 1 6 (va_A (wd_X5_carry cI a_t a_row a_work a_rest a_bag a_smooth a_text a_saves a_row_signs a_saves_slots c_gone c_row_length c_row_signs c_saves_held c_saves_slots) sz) := by
  refine mofT hl0 rfl (Nat.le_of_ble_eq_true rfl) (Nat.le_of_ble_eq_true rfl) (Nat.le_of_ble_eq_true rfl) (Nat.le_of_ble_eq_true rfl) (by decide +kernel) (Nat.le_of_ble_eq_true rfl) ?_
  intro p e s m args below meth c Q A ls hx hb hml hown hts hK hP hD hS hA hG hl hout hnew hsz0
  have hl : lv_has ls 5 [(0, .ref a_t), (1, .int x1), (2, .int x2)] := hl
  have K20 : ∀ (c_row_signs : Nat → Int32) (c_saves_held : Int32) (c_saves_slots : Nat → Int32) (v0 : Int32)  (H : Heap) (locs : List Loc) (ls : Array Slot), va_P D vwCl (wd_X5_carry cI a_t a_row a_work a_rest a_bag a_smooth a_text a_saves a_row_signs a_saves_slots c_gone c_row_length c_row_signs c_saves_held c_saves_slots) H → va_D A (wd_X5_carry cI a_t a_row a_work a_rest a_bag a_smooth a_text a_saves a_row_signs a_saves_slots c_gone c_row_length c_row_signs c_saves_held c_saves_slots) → va_S A s.heap H locs → lv_has ls 5 [(0, .ref a_t), (1, .int x1), (2, .int x2)] → F_X5_carry_T_J20 c_gone c_row_length x1 x2 c_row_signs c_saves_held c_saves_slots v0 = some o → W p l e rm_X5_carry_T s m args below meth c H locs 0 0 Q (F0 m 20 ls [.int v0]) := by
    intro c_row_signs c_saves_held c_saves_slots v0 H locs ls hP hD hS hl hF
    unfold F_X5_carry_T_J20 at hF
    rcases opcb hF with ⟨q20, hq20, hF⟩ | hF
    · refine kST (As := [.int v0]) (rest := []) (ws' := (wd_X5_carry cI a_t a_row a_work a_rest a_bag a_smooth a_text a_saves a_row_signs a_saves_slots c_gone c_row_length c_row_signs c_saves_held c_saves_slots)) ⟨hx, hb, hml, hown, hts⟩ (c_X5_need_T l D cI hl0  H.size  v0 q20 hq20) (va_cwS 1 hts mw_X5_112 rfl rfl rfl hd_X5_need ⟨Nat.le_of_ble_eq_true rfl, Nat.le_of_ble_eq_true rfl⟩) hS hA hG hK hP hD [] rfl rfl rfl rfl rfl ⟨Nat.le_of_ble_eq_true rfl, Nat.le_of_ble_eq_true rfl⟩ rfl hl.1 rfl (Nat.le_of_ble_eq_true rfl) dX5_carry_20 (fun H locs q9 ce hP hD hS hce hcv hcl => ?_)
      have ho := Option.some.inj hF
      exact hout H locs ls 20 _ q9 ce q20 _ hP hS (by rw [← ho]) (by rw [← ho]) hce hcv hcl
    · exact nos hF
  unfold F_X5_carry_T at hF
  have hP : va_P D vwCl (wd_X5_carry cI a_t a_row a_work a_rest a_bag a_smooth a_text a_saves a_row_signs a_saves_slots c_gone c_row_length c_row_signs c_saves_held c_saves_slots) s.heap := hP
  obtain ⟨H, hH⟩ : ∃ H, H = s.heap := ⟨_, rfl⟩
  rw [← hH]
  rw [← hH] at hP
  obtain ⟨locs, hlo⟩ : ∃ z : List Loc, z = [] := ⟨_, rfl⟩
  rw [← hlo]
  have hS : va_S A s.heap H locs := by rw [hH, hlo]; exact hS
  refine lv_aload_n hx hb dX5_carry_0 rfl (lv_at hl 0 rfl) ?_
  refine lv_iload_n hx hb dX5_carry_1 rfl (lv_at hl 1 rfl) ?_
  rcases opcb hF with ⟨q2, hq2, hF⟩ | hF
  · refine kVT (As := [.int x1]) (rest := []) (ws' := (wd_X5_carry cI a_t a_row a_work a_rest a_bag a_smooth a_text a_saves a_row_signs a_saves_slots c_gone c_row_length c_row_signs c_saves_held c_saves_slots)) ⟨hx, hb, hml, hown, hts⟩ (c_X5_needPlace_T l D cI hl0 a_t a_row a_work a_rest a_bag a_smooth a_text a_saves a_row_signs H.size c_gone c_row_length x1 q2 hq2) (cwV 1 hts mw_X5_102 rfl rfl rfl hd_X5_needPlace ⟨Nat.le_of_ble_eq_true rfl, Nat.le_of_ble_eq_true rfl⟩) hS hA hG hK hP hD [0, 1] rfl rfl rfl rfl rfl ⟨Nat.le_of_ble_eq_true rfl, Nat.le_of_ble_eq_true rfl⟩ 5 0 rfl rfl rfl rfl hl.1 rfl (Nat.le_of_ble_eq_true rfl) dX5_carry_2 (fun H locs q9 ce hP hD hS hce hcv hcl => ?_)
    have ho := Option.some.inj hF
    exact hout H locs ls 2 _ q9 ce q2 _ hP hS (by rw [← ho]) (by rw [← ho]) hce hcv hcl
  · skip
    obtain ⟨r2, hr2, hF⟩ := opb hF
    refine kVV (As := [.int x1]) (rest := []) (ws' := (wd_X5_carry cI a_t a_row a_work a_rest a_bag a_smooth a_text a_saves a_row_signs a_saves_slots c_gone c_row_length c_row_signs c_saves_held c_saves_slots)) ⟨hx, hb, hml, hown, hts⟩ (c_X5_needPlace l D cI a_t a_row a_work a_rest a_bag a_smooth a_text a_saves a_row_signs H.size c_gone c_row_length x1 r2 hr2) (cwV 1 hts mw_X5_102 rfl rfl rfl hd_X5_needPlace ⟨Nat.le_of_ble_eq_true rfl, Nat.le_of_ble_eq_true rfl⟩) hS hA hG hK hP hD [0, 1] rfl rfl rfl rfl rfl ⟨Nat.zero_le _, Nat.zero_le _⟩ 5 0 rfl rfl rfl rfl hl.1 rfl (Nat.le_of_ble_eq_true rfl) dX5_carry_2 (fun H locs hP hD hS => ?_)
    refine lv_iload_n hx hb dX5_carry_5 rfl (lv_at hl 2 rfl) ?_
    refine lv_if_lt (tgt := 19) hx hb dX5_carry_6 (by decide) (fun k6 => ?_) (fun k6 => ?_)
    · (try simp only [if_pos k6] at hF)
      refine lv_iconst (v := 0) hx hb dX5_carry_19 (by decide) ?_
      exact K20 c_row_signs c_saves_held c_saves_slots (0 : Int32) H locs ls hP hD hS (lv_sub hl [0, 1, 2] rfl) hF
    · (try simp only [if_neg k6] at hF)
      refine lv_iload_n hx hb dX5_carry_9 rfl (lv_at hl 2 rfl) ?_
      refine lv_bipush (v := 20) hx hb dX5_carry_10 (by decide) ?_
      refine lv_icmp_gt (tgt := 19) hx hb dX5_carry_12 (by decide) (fun k12 => ?_) (fun k12 => ?_)
      · (try simp only [if_pos k12] at hF)
        refine lv_iconst (v := 0) hx hb dX5_carry_19 (by decide) ?_
        exact K20 c_row_signs c_saves_held c_saves_slots (0 : Int32) H locs ls hP hD hS (lv_sub hl [0, 1, 2] rfl) hF
      · (try simp only [if_neg k12] at hF)
        refine lv_iconst (v := 1) hx hb dX5_carry_15 (by decide) ?_
        refine lv_goto (tgt := 20) hx hb dX5_carry_16 (by decide) ?_
        exact K20 c_row_signs c_saves_held c_saves_slots (1 : Int32) H locs ls hP hD hS (lv_sub hl [0, 1, 2] rfl) hF
def rm_X5_put_T : Room := { frames := 8, cells := 1, slots := 6, locals := 130 }
set_option maxHeartbeats 4000000 in
set_option maxRecDepth 100000 in
theorem c_X5_put_T (l : Launch) (D : va_G) (cI : ClassId) (hl0 : l.stackTraces = false) (a_t a_row a_work a_rest a_bag a_smooth a_text a_saves a_bag_often a_row_signs a_saves_slots : Nat) (sz : Nat) (c_gone : Int32) (c_bag_total : Int32) (c_bag_often : Nat → Int32) (c_row_length : Int32) (c_row_signs : Nat → Int32) (c_saves_held : Int32) (c_saves_slots : Nat → Int32) (x1 : Int32) (x2 : Int32) (o : Nat × Int32 × (Nat → Int32) × Int32 × (Nat → Int32) × Int32 × (Nat → Int32)) (hF : F_X5_put_T c_gone c_bag_total c_bag_often c_row_length c_row_signs c_saves_held c_saves_slots x1 x2 = some o) : vx_Met l yX5_put (Cond.code yX5_put cX5_put 3 (some .int) :: WL) rm_X5_put_T (preM D [(cI, .int)] (wd_X5_put cI a_t a_row a_work a_rest a_bag a_smooth a_text a_saves a_bag_often a_row_signs a_saves_slots c_gone c_bag_total c_bag_often c_row_length c_row_signs c_saves_held c_saves_slots) sz [.ref a_t, .int x1, .int x2]) noQ (postX D o.1 (wd_X5_put cI a_t a_row a_work a_rest a_bag a_smooth a_text a_saves a_bag_often a_row_signs a_saves_slots c_gone o.2.1 o.2.2.1 o.2.2.2.1 o.2.2.2.2.1 o.2.2.2.2.2.1 o.2.2.2.2.2.2) (wd_X5_put cI a_t a_row a_work a_rest a_bag a_smooth a_text a_saves a_bag_often a_row_signs a_saves_slots c_gone c_bag_total c_bag_often c_row_length c_row_signs c_saves_held c_saves_slots) sz) 1 6 (va_A (wd_X5_put cI a_t a_row a_work a_rest a_bag a_smooth a_text a_saves a_bag_often a_row_signs a_saves_slots c_gone c_bag_total c_bag_often c_row_length c_row_signs c_saves_held c_saves_slots) sz) := by
  refine mofT hl0 rfl (Nat.le_of_ble_eq_true rfl) (Nat.le_of_ble_eq_true rfl) (Nat.le_of_ble_eq_true rfl) (Nat.le_of_ble_eq_true rfl) (by decide +kernel) (Nat.le_of_ble_eq_true rfl) ?_
  intro p e s m args below meth c Q A ls hx hb hml hown hts hK hP hD hS hA hG hl hout hnew hsz0
  have hl : lv_has ls 3 [(0, .ref a_t), (1, .int x1), (2, .int x2)] := hl
  unfold F_X5_put_T at hF
  have hP : va_P D vwCl (wd_X5_put cI a_t a_row a_work a_rest a_bag a_smooth a_text a_saves a_bag_often a_row_signs a_saves_slots c_gone c_bag_total c_bag_often c_row_length c_row_signs c_saves_held c_saves_slots) s.heap := hP
  obtain ⟨H, hH⟩ : ∃ H, H = s.heap := ⟨_, rfl⟩
  rw [← hH]
  rw [← hH] at hP
  obtain ⟨locs, hlo⟩ : ∃ z : List Loc, z = [] := ⟨_, rfl⟩
  rw [← hlo]
  have hS : va_S A s.heap H locs := by rw [hH, hlo]; exact hS
  refine lv_iload_n hx hb dX5_put_0 rfl (lv_at hl 1 rfl) ?_
  refine lv_if_lt (tgt := 15) hx hb dX5_put_1 (by decide) (fun k1 => ?_) (fun k1 => ?_)
  · replace hF := (if_pos k1).symm.trans hF
    have ho := Option.some.inj hF
    exact hnew H locs ls 15 122 126 124 "there is no such place" 3 _ hP hS (by rw [← ho]) (by rw [← ho]) TX_3 hl.1 (by decide) ⟨dX5_put_15, dX5_put_18, Or.inl ⟨dX5_put_19, dX5_put_21, dX5_put_24⟩⟩
  · replace hF := (if_neg k1).symm.trans hF
    refine lv_iload_n hx hb dX5_put_4 rfl (lv_at hl 1 rfl) ?_
    refine lv_aload_n hx hb dX5_put_5 rfl (lv_at hl 0 rfl) ?_
    refine get_X5_10 hx hb hts hown hK hP 0 rfl rfl dX5_put_6 ?_
    obtain ⟨r9, hr9, hF⟩ := opb hF
    refine kVI (As := []) (rest := [.int x1]) (ws' := (wd_X5_put cI a_t a_row a_work a_rest a_bag a_smooth a_text a_saves a_bag_often a_row_signs a_saves_slots c_gone c_bag_total c_bag_often c_row_length c_row_signs c_saves_held c_saves_slots)) ⟨hx, hb, hml, hown, hts⟩ (c_X1_length l D cI a_row a_row_signs H.size c_row_length  r9 hr9) (cwV 0 hts mw_X5_79 rfl rfl rfl hd_X1_length ⟨Nat.le_of_ble_eq_true rfl, Nat.le_of_ble_eq_true rfl⟩) hS hA hG hK hP hD [3] rfl rfl rfl rfl rfl ⟨Nat.zero_le _, Nat.zero_le _⟩ 1 3 rfl rfl rfl rfl hl.1 rfl (Nat.le_of_ble_eq_true rfl) dX5_put_9 (fun H locs hP hD hS => ?_)
    refine lv_icmp_le (tgt := 25) hx hb dX5_put_12 (by decide) (fun k12 => ?_) (fun k12 => ?_)
    · replace hF := (if_pos k12).symm.trans hF
      refine lv_iload_n hx hb dX5_put_25 rfl (lv_at hl 2 rfl) ?_
      rcases opcb hF with ⟨q26, hq26, hF⟩ | hF
      · refine kST (As := [.int x2]) (rest := []) (ws' := (wd_X5_put cI a_t a_row a_work a_rest a_bag a_smooth a_text a_saves a_bag_often a_row_signs a_saves_slots c_gone c_bag_total c_bag_often c_row_length c_row_signs c_saves_held c_saves_slots)) ⟨hx, hb, hml, hown, hts⟩ (c_X5_needSign_T l D cI hl0  H.size  x2 q26 hq26) (va_cwS 1 hts mw_X5_127 rfl rfl rfl hd_X5_needSign ⟨Nat.le_of_ble_eq_true rfl, Nat.le_of_ble_eq_true rfl⟩) hS hA hG hK hP hD [] rfl rfl rfl rfl rfl ⟨Nat.le_of_ble_eq_true rfl, Nat.le_of_ble_eq_true rfl⟩ rfl hl.1 rfl (Nat.le_of_ble_eq_true rfl) dX5_put_26 (fun H locs q9 ce hP hD hS hce hcv hcl => ?_)
        have ho := Option.some.inj hF
        exact hout H locs ls 26 _ q9 ce q26 _ hP hS (by rw [← ho]) (by rw [← ho]) hce hcv hcl
      · skip
        obtain ⟨r26, hr26, hF⟩ := opb hF
        refine kSV (As := [.int x2]) (rest := []) (ws' := (wd_X5_put cI a_t a_row a_work a_rest a_bag a_smooth a_text a_saves a_bag_often a_row_signs a_saves_slots c_gone c_bag_total c_bag_often c_row_length c_row_signs c_saves_held c_saves_slots)) ⟨hx, hb, hml, hown, hts⟩ (c_X5_needSign l D cI  H.size  x2 r26 hr26) (va_cwS 1 hts mw_X5_127 rfl rfl rfl hd_X5_needSign ⟨Nat.le_of_ble_eq_true rfl, Nat.le_of_ble_eq_true rfl⟩) hS hA hG hK hP hD [] rfl rfl rfl rfl rfl ⟨Nat.zero_le _, Nat.zero_le _⟩ rfl hl.1 rfl (Nat.le_of_ble_eq_true rfl) dX5_put_26 (fun H locs hP hD hS => ?_)
        refine lv_aload_n hx hb dX5_put_29 rfl (lv_at hl 0 rfl) ?_
        refine get_X5_10 hx hb hts hown hK hP 0 rfl rfl dX5_put_30 ?_
        obtain ⟨r33, hr33, hF⟩ := opb hF
        refine kVI (As := []) (rest := []) (ws' := (wd_X5_put cI a_t a_row a_work a_rest a_bag a_smooth a_text a_saves a_bag_often a_row_signs a_saves_slots c_gone c_bag_total c_bag_often c_row_length c_row_signs c_saves_held c_saves_slots)) ⟨hx, hb, hml, hown, hts⟩ (c_X1_length l D cI a_row a_row_signs H.size c_row_length  r33 hr33) (cwV 0 hts mw_X5_79 rfl rfl rfl hd_X1_length ⟨Nat.le_of_ble_eq_true rfl, Nat.le_of_ble_eq_true rfl⟩) hS hA hG hK hP hD [3] rfl rfl rfl rfl rfl ⟨Nat.zero_le _, Nat.zero_le _⟩ 1 3 rfl rfl rfl rfl hl.1 rfl (Nat.le_of_ble_eq_true rfl) dX5_put_33 (fun H locs hP hD hS => ?_)
        refine lv_bipush (v := 11) hx hb dX5_put_36 (by decide) ?_
        refine lv_icmp_lt (tgt := 51) hx hb dX5_put_38 (by decide) (fun k38 => ?_) (fun k38 => ?_)
        · replace hF := (if_pos k38).symm.trans hF
          exact nos hF
        · replace hF := (if_neg k38).symm.trans hF
          have ho := Option.some.inj hF
          exact hnew H locs ls 41 69 73 130 "there are as many signs as there may be" 2 _ hP hS (by rw [← ho]) (by rw [← ho]) TX_2 hl.1 (by decide) ⟨dX5_put_41, dX5_put_44, Or.inl ⟨dX5_put_45, dX5_put_47, dX5_put_50⟩⟩
    · replace hF := (if_neg k12).symm.trans hF
      have ho := Option.some.inj hF
      exact hnew H locs ls 15 122 126 124 "there is no such place" 3 _ hP hS (by rw [← ho]) (by rw [← ho]) TX_3 hl.1 (by decide) ⟨dX5_put_15, dX5_put_18, Or.inl ⟨dX5_put_19, dX5_put_21, dX5_put_24⟩⟩
def rm_X5_take_T : Room := { frames := 7, cells := 1, slots := 6, locals := 111 }
set_option maxHeartbeats 4000000 in
set_option maxRecDepth 100000 in
theorem c_X5_take_T (l : Launch) (D : va_G) (cI : ClassId) (hl0 : l.stackTraces = false) (a_t a_row a_work a_rest a_bag a_smooth a_text a_saves a_row_signs a_saves_slots : Nat) (sz : Nat) (c_gone : Int32) (c_row_length : Int32) (c_row_signs : Nat → Int32) (c_saves_held : Int32) (c_saves_slots : Nat → Int32) (x1 : Int32) (o : Nat × Int32 × (Nat → Int32) × Int32 × (Nat → Int32)) (hF : F_X5_take_T c_gone c_row_length c_row_signs c_saves_held c_saves_slots x1 = some o) : vx_Met l yX5_take (Cond.code yX5_take cX5_take 3 (some .int) :: WL) rm_X5_take_T (preM D [(cI, .int)] (wd_X5_take cI a_t a_row a_work a_rest a_bag a_smooth a_text a_saves a_row_signs a_saves_slots c_gone c_row_length c_row_signs c_saves_held c_saves_slots) sz [.ref a_t, .int x1]) noQ (postX D o.1 (wd_X5_take cI a_t a_row a_work a_rest a_bag a_smooth a_text a_saves a_row_signs a_saves_slots c_gone o.2.1 o.2.2.1 o.2.2.2.1 o.2.2.2.2) (wd_X5_take cI a_t a_row a_work a_rest a_bag a_smooth a_text a_saves a_row_signs a_saves_slots c_gone c_row_length c_row_signs c_saves_held c_saves_slots) sz) 1 6 (va_A (wd_X5_take cI a_t a_row a_work a_rest a_bag a_smooth a_text a_saves a_row_signs a_saves_slots c_gone c_row_length c_row_signs c_saves_held c_saves_slots) sz) := by
  refine mofT hl0 rfl (Nat.le_of_ble_eq_true rfl) (Nat.le_of_ble_eq_true rfl) (Nat.le_of_ble_eq_true rfl) (Nat.le_of_ble_eq_true rfl) (by decide +kernel) (Nat.le_of_ble_eq_true rfl) ?_
  intro p e s m args below meth c Q A ls hx hb hml hown hts hK hP hD hS hA hG hl hout hnew hsz0
  have hl : lv_has ls 3 [(0, .ref a_t), (1, .int x1)] := hl
  unfold F_X5_take_T at hF
  have hP : va_P D vwCl (wd_X5_take cI a_t a_row a_work a_rest a_bag a_smooth a_text a_saves a_row_signs a_saves_slots c_gone c_row_length c_row_signs c_saves_held c_saves_slots) s.heap := hP
  obtain ⟨H, hH⟩ : ∃ H, H = s.heap := ⟨_, rfl⟩
  rw [← hH]
  rw [← hH] at hP
  obtain ⟨locs, hlo⟩ : ∃ z : List Loc, z = [] := ⟨_, rfl⟩
  rw [← hlo]
  have hS : va_S A s.heap H locs := by rw [hH, hlo]; exact hS
  refine lv_aload_n hx hb dX5_take_0 rfl (lv_at hl 0 rfl) ?_
  refine lv_iload_n hx hb dX5_take_1 rfl (lv_at hl 1 rfl) ?_
  rcases opcb hF with ⟨q2, hq2, hF⟩ | hF
  · refine kVT (As := [.int x1]) (rest := []) (ws' := (wd_X5_take cI a_t a_row a_work a_rest a_bag a_smooth a_text a_saves a_row_signs a_saves_slots c_gone c_row_length c_row_signs c_saves_held c_saves_slots)) ⟨hx, hb, hml, hown, hts⟩ (c_X5_needPlace_T l D cI hl0 a_t a_row a_work a_rest a_bag a_smooth a_text a_saves a_row_signs H.size c_gone c_row_length x1 q2 hq2) (cwV 1 hts mw_X5_102 rfl rfl rfl hd_X5_needPlace ⟨Nat.le_of_ble_eq_true rfl, Nat.le_of_ble_eq_true rfl⟩) hS hA hG hK hP hD [0, 1] rfl rfl rfl rfl rfl ⟨Nat.le_of_ble_eq_true rfl, Nat.le_of_ble_eq_true rfl⟩ 5 0 rfl rfl rfl rfl hl.1 rfl (Nat.le_of_ble_eq_true rfl) dX5_take_2 (fun H locs q9 ce hP hD hS hce hcv hcl => ?_)
    have ho := Option.some.inj hF
    exact hout H locs ls 2 _ q9 ce q2 _ hP hS (by rw [← ho]) (by rw [← ho]) hce hcv hcl
  · skip
    obtain ⟨r2, hr2, hF⟩ := opb hF
    refine kVV (As := [.int x1]) (rest := []) (ws' := (wd_X5_take cI a_t a_row a_work a_rest a_bag a_smooth a_text a_saves a_row_signs a_saves_slots c_gone c_row_length c_row_signs c_saves_held c_saves_slots)) ⟨hx, hb, hml, hown, hts⟩ (c_X5_needPlace l D cI a_t a_row a_work a_rest a_bag a_smooth a_text a_saves a_row_signs H.size c_gone c_row_length x1 r2 hr2) (cwV 1 hts mw_X5_102 rfl rfl rfl hd_X5_needPlace ⟨Nat.le_of_ble_eq_true rfl, Nat.le_of_ble_eq_true rfl⟩) hS hA hG hK hP hD [0, 1] rfl rfl rfl rfl rfl ⟨Nat.zero_le _, Nat.zero_le _⟩ 5 0 rfl rfl rfl rfl hl.1 rfl (Nat.le_of_ble_eq_true rfl) dX5_take_2 (fun H locs hP hD hS => ?_)
    refine lv_aload_n hx hb dX5_take_5 rfl (lv_at hl 0 rfl) ?_
    refine get_X5_10 hx hb hts hown hK hP 0 rfl rfl dX5_take_6 ?_
    obtain ⟨r9, hr9, hF⟩ := opb hF
    refine kVI (As := []) (rest := []) (ws' := (wd_X5_take cI a_t a_row a_work a_rest a_bag a_smooth a_text a_saves a_row_signs a_saves_slots c_gone c_row_length c_row_signs c_saves_held c_saves_slots)) ⟨hx, hb, hml, hown, hts⟩ (c_X1_length l D cI a_row a_row_signs H.size c_row_length  r9 hr9) (cwV 0 hts mw_X5_79 rfl rfl rfl hd_X1_length ⟨Nat.le_of_ble_eq_true rfl, Nat.le_of_ble_eq_true rfl⟩) hS hA hG hK hP hD [1] rfl rfl rfl rfl rfl ⟨Nat.zero_le _, Nat.zero_le _⟩ 1 1 rfl rfl rfl rfl hl.1 rfl (Nat.le_of_ble_eq_true rfl) dX5_take_9 (fun H locs hP hD hS => ?_)
    refine lv_iconst (v := 1) hx hb dX5_take_12 (by decide) ?_
    refine lv_icmp_gt (tgt := 26) hx hb dX5_take_13 (by decide) (fun k13 => ?_) (fun k13 => ?_)
    · replace hF := (if_pos k13).symm.trans hF
      exact nos hF
    · replace hF := (if_neg k13).symm.trans hF
      have ho := Option.some.inj hF
      exact hnew H locs ls 16 69 73 135 "it is the only sign" 2 _ hP hS (by rw [← ho]) (by rw [← ho]) TX_2 hl.1 (by decide) ⟨dX5_take_16, dX5_take_19, Or.inl ⟨dX5_take_20, dX5_take_22, dX5_take_25⟩⟩
def rm_X5_append_T : Room := { frames := 7, cells := 1, slots := 6, locals := 110 }
set_option maxHeartbeats 4000000 in
set_option maxRecDepth 100000 in
theorem c_X5_append_T (l : Launch) (D : va_G) (cI : ClassId) (hl0 : l.stackTraces = false) (a_t a_row a_work a_rest a_bag a_smooth a_text a_saves a_text_codes : Nat) (sz : Nat) (c_gone : Int32) (c_text_length : Int32) (c_text_codes : Nat → Int32) (x1 : Int32) (o : Nat × Int32 × (Nat → Int32)) (hF : F_X5_append_T c_text_length c_text_codes x1 = some o) : vx_Met l yX5_append (Cond.code yX5_append cX5_append 2 (some .int) :: WL) rm_X5_append_T (preM D [(cI, .int)] (wd_X5_append cI a_t a_row a_work a_rest a_bag a_smooth a_text a_saves a_text_codes c_gone c_text_length c_text_codes) sz [.ref a_t, .int x1]) noQ (postX D o.1 (wd_X5_append cI a_t a_row a_work a_rest a_bag a_smooth a_text a_saves a_text_codes c_gone o.2.1 o.2.2) (wd_X5_append cI a_t a_row a_work a_rest a_bag a_smooth a_text a_saves a_text_codes c_gone c_text_length c_text_codes) sz) 1 6 (va_A (wd_X5_append cI a_t a_row a_work a_rest a_bag a_smooth a_text a_saves a_text_codes c_gone c_text_length c_text_codes) sz) := by
  refine mofT hl0 rfl (Nat.le_of_ble_eq_true rfl) (Nat.le_of_ble_eq_true rfl) (Nat.le_of_ble_eq_true rfl) (Nat.le_of_ble_eq_true rfl) (by decide +kernel) (Nat.le_of_ble_eq_true rfl) ?_
  intro p e s m args below meth c Q A ls hx hb hml hown hts hK hP hD hS hA hG hl hout hnew hsz0
  have hl : lv_has ls 2 [(0, .ref a_t), (1, .int x1)] := hl
  have K17 : ∀ (c_text_length : Int32) (c_text_codes : Nat → Int32) (v0 : Int32)  (H : Heap) (locs : List Loc) (ls : Array Slot), va_P D vwCl (wd_X5_append cI a_t a_row a_work a_rest a_bag a_smooth a_text a_saves a_text_codes c_gone c_text_length c_text_codes) H → va_D A (wd_X5_append cI a_t a_row a_work a_rest a_bag a_smooth a_text a_saves a_text_codes c_gone c_text_length c_text_codes) → va_S A s.heap H locs → lv_has ls 2 [(0, .ref a_t), (1, .int x1)] → F_X5_append_T_J17 x1 c_text_length c_text_codes v0 = some o → W p l e rm_X5_append_T s m args below meth c H locs 0 0 Q (F0 m 17 ls [.int v0]) := by
    intro c_text_length c_text_codes v0 H locs ls hP hD hS hl hF
    unfold F_X5_append_T_J17 at hF
    rcases opcb hF with ⟨q17, hq17, hF⟩ | hF
    · refine kST (As := [.int v0]) (rest := []) (ws' := (wd_X5_append cI a_t a_row a_work a_rest a_bag a_smooth a_text a_saves a_text_codes c_gone c_text_length c_text_codes)) ⟨hx, hb, hml, hown, hts⟩ (c_X5_need_T l D cI hl0  H.size  v0 q17 hq17) (va_cwS 1 hts mw_X5_112 rfl rfl rfl hd_X5_need ⟨Nat.le_of_ble_eq_true rfl, Nat.le_of_ble_eq_true rfl⟩) hS hA hG hK hP hD [] rfl rfl rfl rfl rfl ⟨Nat.le_of_ble_eq_true rfl, Nat.le_of_ble_eq_true rfl⟩ rfl hl.1 rfl (Nat.le_of_ble_eq_true rfl) dX5_append_17 (fun H locs q9 ce hP hD hS hce hcv hcl => ?_)
      have ho := Option.some.inj hF
      exact hout H locs ls 17 _ q9 ce q17 _ hP hS (by rw [← ho]) (by rw [← ho]) hce hcv hcl
    · skip
      obtain ⟨r17, hr17, hF⟩ := opb hF
      refine kSV (As := [.int v0]) (rest := []) (ws' := (wd_X5_append cI a_t a_row a_work a_rest a_bag a_smooth a_text a_saves a_text_codes c_gone c_text_length c_text_codes)) ⟨hx, hb, hml, hown, hts⟩ (c_X5_need l D cI  H.size  v0 r17 hr17) (va_cwS 1 hts mw_X5_112 rfl rfl rfl hd_X5_need ⟨Nat.le_of_ble_eq_true rfl, Nat.le_of_ble_eq_true rfl⟩) hS hA hG hK hP hD [] rfl rfl rfl rfl rfl ⟨Nat.zero_le _, Nat.zero_le _⟩ rfl hl.1 rfl (Nat.le_of_ble_eq_true rfl) dX5_append_17 (fun H locs hP hD hS => ?_)
      refine lv_aload_n hx hb dX5_append_20 rfl (lv_at hl 0 rfl) ?_
      refine get_X5_39 hx hb hts hown hK hP 0 rfl rfl dX5_append_21 ?_
      obtain ⟨r24, hr24, hF⟩ := opb hF
      refine kVI (As := []) (rest := []) (ws' := (wd_X5_append cI a_t a_row a_work a_rest a_bag a_smooth a_text a_saves a_text_codes c_gone c_text_length c_text_codes)) ⟨hx, hb, hml, hown, hts⟩ (c_X4_length l D cI a_text a_text_codes H.size c_text_length  r24 hr24) (cwV 0 hts mw_X5_143 rfl rfl rfl hd_X4_length ⟨Nat.le_of_ble_eq_true rfl, Nat.le_of_ble_eq_true rfl⟩) hS hA hG hK hP hD [1] rfl rfl rfl rfl rfl ⟨Nat.zero_le _, Nat.zero_le _⟩ 4 1 rfl rfl rfl rfl hl.1 rfl (Nat.le_of_ble_eq_true rfl) dX5_append_24 (fun H locs hP hD hS => ?_)
      refine lv_bipush (v := 60) hx hb dX5_append_27 (by decide) ?_
      refine lv_icmp_lt (tgt := 42) hx hb dX5_append_29 (by decide) (fun k29 => ?_) (fun k29 => ?_)
      · replace hF := (if_pos k29).symm.trans hF
        exact nos hF
      · replace hF := (if_neg k29).symm.trans hF
        have ho := Option.some.inj hF
        exact hnew H locs ls 32 69 73 144 "the buffer is full" 2 _ hP hS (by rw [← ho]) (by rw [← ho]) TX_2 hl.1 (by decide) ⟨dX5_append_32, dX5_append_35, Or.inl ⟨dX5_append_36, dX5_append_38, dX5_append_41⟩⟩
  unfold F_X5_append_T at hF
  have hP : va_P D vwCl (wd_X5_append cI a_t a_row a_work a_rest a_bag a_smooth a_text a_saves a_text_codes c_gone c_text_length c_text_codes) s.heap := hP
  obtain ⟨H, hH⟩ : ∃ H, H = s.heap := ⟨_, rfl⟩
  rw [← hH]
  rw [← hH] at hP
  obtain ⟨locs, hlo⟩ : ∃ z : List Loc, z = [] := ⟨_, rfl⟩
  rw [← hlo]
  have hS : va_S A s.heap H locs := by rw [hH, hlo]; exact hS
  refine lv_iload_n hx hb dX5_append_0 rfl (lv_at hl 1 rfl) ?_
  refine lv_bipush (v := 33) hx hb dX5_append_1 (by decide) ?_
  refine lv_icmp_lt (tgt := 16) hx hb dX5_append_3 (by decide) (fun k3 => ?_) (fun k3 => ?_)
  · (try simp only [if_pos k3] at hF)
    refine lv_iconst (v := 0) hx hb dX5_append_16 (by decide) ?_
    exact K17 c_text_length c_text_codes (0 : Int32) H locs ls hP hD hS (lv_sub hl [0, 1] rfl) hF
  · (try simp only [if_neg k3] at hF)
    refine lv_iload_n hx hb dX5_append_6 rfl (lv_at hl 1 rfl) ?_
    refine lv_bipush (v := 126) hx hb dX5_append_7 (by decide) ?_
    refine lv_icmp_gt (tgt := 16) hx hb dX5_append_9 (by decide) (fun k9 => ?_) (fun k9 => ?_)
    · (try simp only [if_pos k9] at hF)
      refine lv_iconst (v := 0) hx hb dX5_append_16 (by decide) ?_
      exact K17 c_text_length c_text_codes (0 : Int32) H locs ls hP hD hS (lv_sub hl [0, 1] rfl) hF
    · (try simp only [if_neg k9] at hF)
      refine lv_iconst (v := 1) hx hb dX5_append_12 (by decide) ?_
      refine lv_goto (tgt := 17) hx hb dX5_append_13 (by decide) ?_
      exact K17 c_text_length c_text_codes (1 : Int32) H locs ls hP hD hS (lv_sub hl [0, 1] rfl) hF
def rm_X5_read_T : Room := { frames := 6, cells := 1, slots := 6, locals := 91 }
set_option maxHeartbeats 4000000 in
set_option maxRecDepth 100000 in
theorem c_X5_read_T (l : Launch) (D : va_G) (cI : ClassId) (hl0 : l.stackTraces = false) (a_t a_row a_work a_rest a_bag a_smooth a_text a_saves a_bag_often a_row_signs a_saves_slots a_text_codes : Nat) (sz : Nat) (c_gone : Int32) (c_bag_total : Int32) (c_bag_often : Nat → Int32) (c_row_length : Int32) (c_row_signs : Nat → Int32) (c_saves_held : Int32) (c_saves_slots : Nat → Int32) (c_text_length : Int32) (c_text_codes : Nat → Int32) (o : Nat × Int32 × (Nat → Int32) × Int32 × (Nat → Int32) × Int32 × (Nat → Int32) × Int32) (hF : F_X5_read_T c_gone c_bag_total c_bag_often c_row_length c_row_signs c_saves_held c_saves_slots c_text_length c_text_codes = some o) : vx_Met l yX5_read (Cond.code yX5_read cX5_read 1 (some .int) :: WL) rm_X5_read_T (preM D [(cI, .int)] (wd_X5_read cI a_t a_row a_work a_rest a_bag a_smooth a_text a_saves a_bag_often a_row_signs a_saves_slots a_text_codes c_gone c_bag_total c_bag_often c_row_length c_row_signs c_saves_held c_saves_slots c_text_length c_text_codes) sz [.ref a_t]) noQ (postX D o.1 (wd_X5_read cI a_t a_row a_work a_rest a_bag a_smooth a_text a_saves a_bag_often a_row_signs a_saves_slots a_text_codes c_gone o.2.1 o.2.2.1 o.2.2.2.1 o.2.2.2.2.1 o.2.2.2.2.2.1 o.2.2.2.2.2.2.1 o.2.2.2.2.2.2.2 c_text_codes) (wd_X5_read cI a_t a_row a_work a_rest a_bag a_smooth a_text a_saves a_bag_often a_row_signs a_saves_slots a_text_codes c_gone c_bag_total c_bag_often c_row_length c_row_signs c_saves_held c_saves_slots c_text_length c_text_codes) sz) 1 6 (va_A (wd_X5_read cI a_t a_row a_work a_rest a_bag a_smooth a_text a_saves a_bag_often a_row_signs a_saves_slots a_text_codes c_gone c_bag_total c_bag_often c_row_length c_row_signs c_saves_held c_saves_slots c_text_length c_text_codes) sz) := by
  refine mofT hl0 rfl (Nat.le_of_ble_eq_true rfl) (Nat.le_of_ble_eq_true rfl) (Nat.le_of_ble_eq_true rfl) (Nat.le_of_ble_eq_true rfl) (by decide +kernel) (Nat.le_of_ble_eq_true rfl) ?_
  intro p e s m args below meth c Q A ls hx hb hml hown hts hK hP hD hS hA hG hl hout hnew hsz0
  have hl : lv_has ls 1 [(0, .ref a_t)] := hl
  unfold F_X5_read_T at hF
  have hP : va_P D vwCl (wd_X5_read cI a_t a_row a_work a_rest a_bag a_smooth a_text a_saves a_bag_often a_row_signs a_saves_slots a_text_codes c_gone c_bag_total c_bag_often c_row_length c_row_signs c_saves_held c_saves_slots c_text_length c_text_codes) s.heap := hP
  obtain ⟨H, hH⟩ : ∃ H, H = s.heap := ⟨_, rfl⟩
  rw [← hH]
  rw [← hH] at hP
  obtain ⟨locs, hlo⟩ : ∃ z : List Loc, z = [] := ⟨_, rfl⟩
  rw [← hlo]
  have hS : va_S A s.heap H locs := by rw [hH, hlo]; exact hS
  refine lv_aload_n hx hb dX5_read_0 rfl (lv_at hl 0 rfl) ?_
  refine get_X5_39 hx hb hts hown hK hP 0 rfl rfl dX5_read_1 ?_
  obtain ⟨r4, hr4, hF⟩ := opb hF
  refine kVI (As := []) (rest := []) (ws' := (wd_X5_read cI a_t a_row a_work a_rest a_bag a_smooth a_text a_saves a_bag_often a_row_signs a_saves_slots a_text_codes c_gone c_bag_total c_bag_often c_row_length c_row_signs c_saves_held c_saves_slots c_text_length c_text_codes)) ⟨hx, hb, hml, hown, hts⟩ (c_X4_length l D cI a_text a_text_codes H.size c_text_length  r4 hr4) (cwV 0 hts mw_X5_143 rfl rfl rfl hd_X4_length ⟨Nat.le_of_ble_eq_true rfl, Nat.le_of_ble_eq_true rfl⟩) hS hA hG hK hP hD [7] rfl rfl rfl rfl rfl ⟨Nat.zero_le _, Nat.zero_le _⟩ 4 7 rfl rfl rfl rfl hl.1 rfl (Nat.le_of_ble_eq_true rfl) dX5_read_4 (fun H locs hP hD hS => ?_)
  refine lv_if_eq (tgt := 27) hx hb dX5_read_7 (by decide) (fun k7 => ?_) (fun k7 => ?_)
  · replace hF := (if_pos k7).symm.trans hF
    have ho := Option.some.inj hF
    exact hnew H locs ls 27 97 101 153 "the buffer is not a complete arrangement" 1 _ hP hS (by rw [← ho]) (by rw [← ho]) TX_1 hl.1 (by decide) ⟨dX5_read_27, dX5_read_30, Or.inl ⟨dX5_read_31, dX5_read_33, dX5_read_36⟩⟩
  · replace hF := (if_neg k7).symm.trans hF
    refine lv_aload_n hx hb dX5_read_10 rfl (lv_at hl 0 rfl) ?_
    refine get_X5_39 hx hb hts hown hK hP 0 rfl rfl dX5_read_11 ?_
    obtain ⟨r14, hr14, hF⟩ := opb hF
    refine kVI (As := []) (rest := []) (ws' := (wd_X5_read cI a_t a_row a_work a_rest a_bag a_smooth a_text a_saves a_bag_often a_row_signs a_saves_slots a_text_codes c_gone c_bag_total c_bag_often c_row_length c_row_signs c_saves_held c_saves_slots c_text_length c_text_codes)) ⟨hx, hb, hml, hown, hts⟩ (c_X4_firstBad l D cI a_text a_text_codes H.size c_text_length c_text_codes  r14 hr14) (cwV 0 hts mw_X5_150 rfl rfl rfl hd_X4_firstBad ⟨Nat.le_of_ble_eq_true rfl, Nat.le_of_ble_eq_true rfl⟩) hS hA hG hK hP hD [7, 8] rfl rfl rfl rfl rfl ⟨Nat.zero_le _, Nat.zero_le _⟩ 4 7 rfl rfl rfl rfl hl.1 rfl (Nat.le_of_ble_eq_true rfl) dX5_read_14 (fun H locs hP hD hS => ?_)
    refine lv_aload_n hx hb dX5_read_17 rfl (lv_at hl 0 rfl) ?_
    refine get_X5_39 hx hb hts hown hK hP 0 rfl rfl dX5_read_18 ?_
    obtain ⟨r21, hr21, hF⟩ := opb hF
    refine kVI (As := []) (rest := [.int r14]) (ws' := (wd_X5_read cI a_t a_row a_work a_rest a_bag a_smooth a_text a_saves a_bag_often a_row_signs a_saves_slots a_text_codes c_gone c_bag_total c_bag_often c_row_length c_row_signs c_saves_held c_saves_slots c_text_length c_text_codes)) ⟨hx, hb, hml, hown, hts⟩ (c_X4_length l D cI a_text a_text_codes H.size c_text_length  r21 hr21) (cwV 0 hts mw_X5_143 rfl rfl rfl hd_X4_length ⟨Nat.le_of_ble_eq_true rfl, Nat.le_of_ble_eq_true rfl⟩) hS hA hG hK hP hD [7] rfl rfl rfl rfl rfl ⟨Nat.zero_le _, Nat.zero_le _⟩ 4 7 rfl rfl rfl rfl hl.1 rfl (Nat.le_of_ble_eq_true rfl) dX5_read_21 (fun H locs hP hD hS => ?_)
    refine lv_icmp_ge (tgt := 37) hx hb dX5_read_24 (by decide) (fun k24 => ?_) (fun k24 => ?_)
    · replace hF := (if_pos k24).symm.trans hF
      exact nos hF
    · replace hF := (if_neg k24).symm.trans hF
      have ho := Option.some.inj hF
      exact hnew H locs ls 27 97 101 153 "the buffer is not a complete arrangement" 1 _ hP hS (by rw [← ho]) (by rw [← ho]) TX_1 hl.1 (by decide) ⟨dX5_read_27, dX5_read_30, Or.inl ⟨dX5_read_31, dX5_read_33, dX5_read_36⟩⟩
def rm_X5_undo_T : Room := { frames := 6, cells := 1, slots := 6, locals := 90 }
set_option maxHeartbeats 4000000 in
set_option maxRecDepth 100000 in
theorem c_X5_undo_T (l : Launch) (D : va_G) (cI : ClassId) (hl0 : l.stackTraces = false) (a_t a_row a_work a_rest a_bag a_smooth a_text a_saves a_row_signs a_saves_slots : Nat) (sz : Nat) (c_gone : Int32) (c_row_length : Int32) (c_row_signs : Nat → Int32) (c_saves_held : Int32) (c_saves_slots : Nat → Int32) (o : Nat × Int32 × Int32 × (Nat → Int32) × Int32) (hF : F_X5_undo_T c_gone c_row_length c_row_signs c_saves_held c_saves_slots = some o) : vx_Met l yX5_undo (Cond.code yX5_undo cX5_undo 1 (some .int) :: WL) rm_X5_undo_T (preM D [(cI, .int)] (wd_X5_undo cI a_t a_row a_work a_rest a_bag a_smooth a_text a_saves a_row_signs a_saves_slots c_gone c_row_length c_row_signs c_saves_held c_saves_slots) sz [.ref a_t]) noQ (postX D o.1 (wd_X5_undo cI a_t a_row a_work a_rest a_bag a_smooth a_text a_saves a_row_signs a_saves_slots o.2.1 o.2.2.1 o.2.2.2.1 o.2.2.2.2 c_saves_slots) (wd_X5_undo cI a_t a_row a_work a_rest a_bag a_smooth a_text a_saves a_row_signs a_saves_slots c_gone c_row_length c_row_signs c_saves_held c_saves_slots) sz) 1 6 (va_A (wd_X5_undo cI a_t a_row a_work a_rest a_bag a_smooth a_text a_saves a_row_signs a_saves_slots c_gone c_row_length c_row_signs c_saves_held c_saves_slots) sz) := by
  refine mofT hl0 rfl (Nat.le_of_ble_eq_true rfl) (Nat.le_of_ble_eq_true rfl) (Nat.le_of_ble_eq_true rfl) (Nat.le_of_ble_eq_true rfl) (by decide +kernel) (Nat.le_of_ble_eq_true rfl) ?_
  intro p e s m args below meth c Q A ls hx hb hml hown hts hK hP hD hS hA hG hl hout hnew hsz0
  have hl : lv_has ls 1 [(0, .ref a_t)] := hl
  unfold F_X5_undo_T at hF
  have hP : va_P D vwCl (wd_X5_undo cI a_t a_row a_work a_rest a_bag a_smooth a_text a_saves a_row_signs a_saves_slots c_gone c_row_length c_row_signs c_saves_held c_saves_slots) s.heap := hP
  obtain ⟨H, hH⟩ : ∃ H, H = s.heap := ⟨_, rfl⟩
  rw [← hH]
  rw [← hH] at hP
  obtain ⟨locs, hlo⟩ : ∃ z : List Loc, z = [] := ⟨_, rfl⟩
  rw [← hlo]
  have hS : va_S A s.heap H locs := by rw [hH, hlo]; exact hS
  refine lv_aload_n hx hb dX5_undo_0 rfl (lv_at hl 0 rfl) ?_
  refine get_X5_46 hx hb hts hown hK hP 0 rfl rfl dX5_undo_1 ?_
  obtain ⟨r4, hr4, hF⟩ := opb hF
  refine kVI (As := []) (rest := []) (ws' := (wd_X5_undo cI a_t a_row a_work a_rest a_bag a_smooth a_text a_saves a_row_signs a_saves_slots c_gone c_row_length c_row_signs c_saves_held c_saves_slots)) ⟨hx, hb, hml, hown, hts⟩ (c_X2_held l D cI a_saves a_saves_slots H.size c_saves_held  r4 hr4) (cwV 0 hts mw_X5_159 rfl rfl rfl hd_X2_held ⟨Nat.le_of_ble_eq_true rfl, Nat.le_of_ble_eq_true rfl⟩) hS hA hG hK hP hD [3] rfl rfl rfl rfl rfl ⟨Nat.zero_le _, Nat.zero_le _⟩ 2 3 rfl rfl rfl rfl hl.1 rfl (Nat.le_of_ble_eq_true rfl) dX5_undo_4 (fun H locs hP hD hS => ?_)
  refine lv_if_ne (tgt := 20) hx hb dX5_undo_7 (by decide) (fun k7 => ?_) (fun k7 => ?_)
  · replace hF := (if_neg k7).symm.trans hF
    exact nos hF
  · replace hF := (if_pos k7).symm.trans hF
    have ho := Option.some.inj hF
    exact hnew H locs ls 10 69 73 162 "there is no saved state" 2 _ hP hS (by rw [← ho]) (by rw [← ho]) TX_2 hl.1 (by decide) ⟨dX5_undo_10, dX5_undo_13, Or.inl ⟨dX5_undo_14, dX5_undo_16, dX5_undo_19⟩⟩
def rm_X5_sign_T : Room := { frames := 7, cells := 1, slots := 6, locals := 111 }
set_option maxHeartbeats 4000000 in
set_option maxRecDepth 100000 in
theorem c_X5_sign_T (l : Launch) (D : va_G) (cI : ClassId) (hl0 : l.stackTraces = false) (a_t a_row a_work a_rest a_bag a_smooth a_text a_saves a_row_signs : Nat) (sz : Nat) (c_gone : Int32) (c_row_length : Int32) (c_row_signs : Nat → Int32) (x1 : Int32) (o : Nat) (hF : F_X5_sign_T c_row_length c_row_signs x1 = some o) : vx_Met l yX5_sign (Cond.code yX5_sign cX5_sign 2 (some .int) :: WL) rm_X5_sign_T (preM D [(cI, .int)] (wd_X5_sign cI a_t a_row a_work a_rest a_bag a_smooth a_text a_saves a_row_signs c_gone c_row_length c_row_signs) sz [.ref a_t, .int x1]) noQ (postX D o (wd_X5_sign cI a_t a_row a_work a_rest a_bag a_smooth a_text a_saves a_row_signs c_gone c_row_length c_row_signs) (wd_X5_sign cI a_t a_row a_work a_rest a_bag a_smooth a_text a_saves a_row_signs c_gone c_row_length c_row_signs) sz) 1 6 (va_A (wd_X5_sign cI a_t a_row a_work a_rest a_bag a_smooth a_text a_saves a_row_signs c_gone c_row_length c_row_signs) sz) := by
  refine mofT hl0 rfl (Nat.le_of_ble_eq_true rfl) (Nat.le_of_ble_eq_true rfl) (Nat.le_of_ble_eq_true rfl) (Nat.le_of_ble_eq_true rfl) (by decide +kernel) (Nat.le_of_ble_eq_true rfl) ?_
  intro p e s m args below meth c Q A ls hx hb hml hown hts hK hP hD hS hA hG hl hout hnew hsz0
  have hl : lv_has ls 2 [(0, .ref a_t), (1, .int x1)] := hl
  unfold F_X5_sign_T at hF
  have hP : va_P D vwCl (wd_X5_sign cI a_t a_row a_work a_rest a_bag a_smooth a_text a_saves a_row_signs c_gone c_row_length c_row_signs) s.heap := hP
  obtain ⟨H, hH⟩ : ∃ H, H = s.heap := ⟨_, rfl⟩
  rw [← hH]
  rw [← hH] at hP
  obtain ⟨locs, hlo⟩ : ∃ z : List Loc, z = [] := ⟨_, rfl⟩
  rw [← hlo]
  have hS : va_S A s.heap H locs := by rw [hH, hlo]; exact hS
  refine lv_aload_n hx hb dX5_sign_0 rfl (lv_at hl 0 rfl) ?_
  refine lv_iload_n hx hb dX5_sign_1 rfl (lv_at hl 1 rfl) ?_
  rcases opcb hF with ⟨q2, hq2, hF⟩ | hF
  · refine kVT (As := [.int x1]) (rest := []) (ws' := (wd_X5_sign cI a_t a_row a_work a_rest a_bag a_smooth a_text a_saves a_row_signs c_gone c_row_length c_row_signs)) ⟨hx, hb, hml, hown, hts⟩ (c_X5_needPlace_T l D cI hl0 a_t a_row a_work a_rest a_bag a_smooth a_text a_saves a_row_signs H.size c_gone c_row_length x1 q2 hq2) (cwV 1 hts mw_X5_102 rfl rfl rfl hd_X5_needPlace ⟨Nat.le_of_ble_eq_true rfl, Nat.le_of_ble_eq_true rfl⟩) hS hA hG hK hP hD [0, 1] rfl rfl rfl rfl rfl ⟨Nat.le_of_ble_eq_true rfl, Nat.le_of_ble_eq_true rfl⟩ 5 0 rfl rfl rfl rfl hl.1 rfl (Nat.le_of_ble_eq_true rfl) dX5_sign_2 (fun H locs q9 ce hP hD hS hce hcv hcl => ?_)
    have ho := Option.some.inj hF
    exact hout H locs ls 2 _ q9 ce q2 _ hP hS rfl ho hce hcv hcl
  · exact nos hF
def rm_X5_digit_T : Room := { frames := 7, cells := 1, slots := 6, locals := 111 }
set_option maxHeartbeats 4000000 in
set_option maxRecDepth 100000 in
theorem c_X5_digit_T (l : Launch) (D : va_G) (cI : ClassId) (hl0 : l.stackTraces = false) (a_t a_row a_work a_rest a_bag a_smooth a_text a_saves a_bag_often a_row_signs : Nat) (sz : Nat) (c_gone : Int32) (c_bag_total : Int32) (c_bag_often : Nat → Int32) (c_row_length : Int32) (c_row_signs : Nat → Int32) (x1 : Int32) (o : Nat × Int32 × (Nat → Int32)) (hF : F_X5_digit_T c_bag_total c_bag_often c_row_length c_row_signs x1 = some o) : vx_Met l yX5_digit (Cond.code yX5_digit cX5_digit 2 (some .int) :: WL) rm_X5_digit_T (preM D [(cI, .int)] (wd_X5_digit cI a_t a_row a_work a_rest a_bag a_smooth a_text a_saves a_bag_often a_row_signs c_gone c_bag_total c_bag_often c_row_length c_row_signs) sz [.ref a_t, .int x1]) noQ (postX D o.1 (wd_X5_digit cI a_t a_row a_work a_rest a_bag a_smooth a_text a_saves a_bag_often a_row_signs c_gone o.2.1 o.2.2 c_row_length c_row_signs) (wd_X5_digit cI a_t a_row a_work a_rest a_bag a_smooth a_text a_saves a_bag_often a_row_signs c_gone c_bag_total c_bag_often c_row_length c_row_signs) sz) 1 6 (va_A (wd_X5_digit cI a_t a_row a_work a_rest a_bag a_smooth a_text a_saves a_bag_often a_row_signs c_gone c_bag_total c_bag_often c_row_length c_row_signs) sz) := by
  refine mofT hl0 rfl (Nat.le_of_ble_eq_true rfl) (Nat.le_of_ble_eq_true rfl) (Nat.le_of_ble_eq_true rfl) (Nat.le_of_ble_eq_true rfl) (by decide +kernel) (Nat.le_of_ble_eq_true rfl) ?_
  intro p e s m args below meth c Q A ls hx hb hml hown hts hK hP hD hS hA hG hl hout hnew hsz0
  have hl : lv_has ls 2 [(0, .ref a_t), (1, .int x1)] := hl
  unfold F_X5_digit_T at hF
  have hP : va_P D vwCl (wd_X5_digit cI a_t a_row a_work a_rest a_bag a_smooth a_text a_saves a_bag_often a_row_signs c_gone c_bag_total c_bag_often c_row_length c_row_signs) s.heap := hP
  obtain ⟨H, hH⟩ : ∃ H, H = s.heap := ⟨_, rfl⟩
  rw [← hH]
  rw [← hH] at hP
  obtain ⟨locs, hlo⟩ : ∃ z : List Loc, z = [] := ⟨_, rfl⟩
  rw [← hlo]
  have hS : va_S A s.heap H locs := by rw [hH, hlo]; exact hS
  refine lv_aload_n hx hb dX5_digit_0 rfl (lv_at hl 0 rfl) ?_
  refine lv_iload_n hx hb dX5_digit_1 rfl (lv_at hl 1 rfl) ?_
  rcases opcb hF with ⟨q2, hq2, hF⟩ | hF
  · refine kVT (As := [.int x1]) (rest := []) (ws' := (wd_X5_digit cI a_t a_row a_work a_rest a_bag a_smooth a_text a_saves a_bag_often a_row_signs c_gone c_bag_total c_bag_often c_row_length c_row_signs)) ⟨hx, hb, hml, hown, hts⟩ (c_X5_needPlace_T l D cI hl0 a_t a_row a_work a_rest a_bag a_smooth a_text a_saves a_row_signs H.size c_gone c_row_length x1 q2 hq2) (cwV 1 hts mw_X5_102 rfl rfl rfl hd_X5_needPlace ⟨Nat.le_of_ble_eq_true rfl, Nat.le_of_ble_eq_true rfl⟩) hS hA hG hK hP hD [0, 3] rfl rfl rfl rfl rfl ⟨Nat.le_of_ble_eq_true rfl, Nat.le_of_ble_eq_true rfl⟩ 5 0 rfl rfl rfl rfl hl.1 rfl (Nat.le_of_ble_eq_true rfl) dX5_digit_2 (fun H locs q9 ce hP hD hS hce hcv hcl => ?_)
    have ho := Option.some.inj hF
    exact hout H locs ls 2 _ q9 ce q2 _ hP hS (by rw [← ho]) (by rw [← ho]) hce hcv hcl
  · exact nos hF
def rm_X5_many_T : Room := { frames := 8, cells := 1, slots := 6, locals := 130 }
set_option maxHeartbeats 4000000 in
set_option maxRecDepth 100000 in
theorem c_X5_many_T (l : Launch) (D : va_G) (cI : ClassId) (hl0 : l.stackTraces = false) (a_t a_row a_work a_rest a_bag a_smooth a_text a_saves a_bag_often a_row_signs : Nat) (sz : Nat) (c_gone : Int32) (c_bag_total : Int32) (c_bag_often : Nat → Int32) (c_row_length : Int32) (c_row_signs : Nat → Int32) (x1 : Int32) (o : Nat × Int32 × (Nat → Int32)) (hF : F_X5_many_T c_bag_total c_bag_often c_row_length c_row_signs x1 = some o) : vx_Met l yX5_many (Cond.code yX5_many cX5_many 2 (some .int) :: WL) rm_X5_many_T (preM D [(cI, .int)] (wd_X5_many cI a_t a_row a_work a_rest a_bag a_smooth a_text a_saves a_bag_often a_row_signs c_gone c_bag_total c_bag_often c_row_length c_row_signs) sz [.ref a_t, .int x1]) noQ (postX D o.1 (wd_X5_many cI a_t a_row a_work a_rest a_bag a_smooth a_text a_saves a_bag_often a_row_signs c_gone o.2.1 o.2.2 c_row_length c_row_signs) (wd_X5_many cI a_t a_row a_work a_rest a_bag a_smooth a_text a_saves a_bag_often a_row_signs c_gone c_bag_total c_bag_often c_row_length c_row_signs) sz) 1 6 (va_A (wd_X5_many cI a_t a_row a_work a_rest a_bag a_smooth a_text a_saves a_bag_often a_row_signs c_gone c_bag_total c_bag_often c_row_length c_row_signs) sz) := by
  refine mofT hl0 rfl (Nat.le_of_ble_eq_true rfl) (Nat.le_of_ble_eq_true rfl) (Nat.le_of_ble_eq_true rfl) (Nat.le_of_ble_eq_true rfl) (by decide +kernel) (Nat.le_of_ble_eq_true rfl) ?_
  intro p e s m args below meth c Q A ls hx hb hml hown hts hK hP hD hS hA hG hl hout hnew hsz0
  have hl : lv_has ls 2 [(0, .ref a_t), (1, .int x1)] := hl
  unfold F_X5_many_T at hF
  have hP : va_P D vwCl (wd_X5_many cI a_t a_row a_work a_rest a_bag a_smooth a_text a_saves a_bag_often a_row_signs c_gone c_bag_total c_bag_often c_row_length c_row_signs) s.heap := hP
  obtain ⟨H, hH⟩ : ∃ H, H = s.heap := ⟨_, rfl⟩
  rw [← hH]
  rw [← hH] at hP
  obtain ⟨locs, hlo⟩ : ∃ z : List Loc, z = [] := ⟨_, rfl⟩
  rw [← hlo]
  have hS : va_S A s.heap H locs := by rw [hH, hlo]; exact hS
  refine lv_iload_n hx hb dX5_many_0 rfl (lv_at hl 1 rfl) ?_
  rcases opcb hF with ⟨q1, hq1, hF⟩ | hF
  · refine kST (As := [.int x1]) (rest := []) (ws' := (wd_X5_many cI a_t a_row a_work a_rest a_bag a_smooth a_text a_saves a_bag_often a_row_signs c_gone c_bag_total c_bag_often c_row_length c_row_signs)) ⟨hx, hb, hml, hown, hts⟩ (c_X5_needSign_T l D cI hl0  H.size  x1 q1 hq1) (va_cwS 1 hts mw_X5_127 rfl rfl rfl hd_X5_needSign ⟨Nat.le_of_ble_eq_true rfl, Nat.le_of_ble_eq_true rfl⟩) hS hA hG hK hP hD [] rfl rfl rfl rfl rfl ⟨Nat.le_of_ble_eq_true rfl, Nat.le_of_ble_eq_true rfl⟩ rfl hl.1 rfl (Nat.le_of_ble_eq_true rfl) dX5_many_1 (fun H locs q9 ce hP hD hS hce hcv hcl => ?_)
    have ho := Option.some.inj hF
    exact hout H locs ls 1 _ q9 ce q1 _ hP hS (by rw [← ho]) (by rw [← ho]) hce hcv hcl
  · exact nos hF
def rm_X5_block_T : Room := { frames := 7, cells := 1, slots := 6, locals := 113 }
set_option maxHeartbeats 4000000 in
set_option maxRecDepth 100000 in
theorem c_X5_block_T (l : Launch) (D : va_G) (cI : ClassId) (hl0 : l.stackTraces = false) (a_t a_row a_work a_rest a_bag a_smooth a_text a_saves a_bag_often a_row_signs a_smooth_madeFor a_smooth_weight a_smooth_inCell a_smooth_all a_smooth_starting : Nat) (sz : Nat) (c_gone : Int32) (c_bag_total : Int32) (c_bag_often : Nat → Int32) (c_row_length : Int32) (c_row_signs : Nat → Int32) (c_smooth_all : Nat → Int32) (c_smooth_inCell : Nat → Int32) (c_smooth_madeFor : Nat → Int32) (c_smooth_starting : Nat → Int32) (c_smooth_weight : Nat → Int32) (x1 : Int32) (x2 : Int32) (o : Nat × Int32 × (Nat → Int32) × (Nat → Int32) × (Nat → Int32) × (Nat → Int32) × (Nat → Int32) × (Nat → Int32)) (hF : F_X5_block_T c_bag_total c_bag_often c_row_length c_row_signs c_smooth_all c_smooth_inCell c_smooth_madeFor c_smooth_starting c_smooth_weight x1 x2 = some o) : vx_Met l yX5_block (Cond.code yX5_block cX5_block 3 (some .int) :: WL) rm_X5_block_T (preM D [(cI, .int)] (wd_X5_block cI a_t a_row a_work a_rest a_bag a_smooth a_text a_saves a_bag_often a_row_signs a_smooth_madeFor a_smooth_weight a_smooth_inCell a_smooth_all a_smooth_starting c_gone c_bag_total c_bag_often c_row_length c_row_signs c_smooth_all c_smooth_inCell c_smooth_madeFor c_smooth_starting c_smooth_weight) sz [.ref a_t, .int x1, .int x2]) noQ (postX D o.1 (wd_X5_block cI a_t a_row a_work a_rest a_bag a_smooth a_text a_saves a_bag_often a_row_signs a_smooth_madeFor a_smooth_weight a_smooth_inCell a_smooth_all a_smooth_starting c_gone o.2.1 o.2.2.1 c_row_length c_row_signs o.2.2.2.1 o.2.2.2.2.1 o.2.2.2.2.2.1 o.2.2.2.2.2.2.1 o.2.2.2.2.2.2.2) (wd_X5_block cI a_t a_row a_work a_rest a_bag a_smooth a_text a_saves a_bag_often a_row_signs a_smooth_madeFor a_smooth_weight a_smooth_inCell a_smooth_all a_smooth_starting c_gone c_bag_total c_bag_often c_row_length c_row_signs c_smooth_all c_smooth_inCell c_smooth_madeFor c_smooth_starting c_smooth_weight) sz) 1 6 (va_A (wd_X5_block cI a_t a_row a_work a_rest a_bag a_smooth a_text a_saves a_bag_often a_row_signs a_smooth_madeFor a_smooth_weight a_smooth_inCell a_smooth_all a_smooth_starting c_gone c_bag_total c_bag_often c_row_length c_row_signs c_smooth_all c_smooth_inCell c_smooth_madeFor c_smooth_starting c_smooth_weight) sz) := by
  refine mofT hl0 rfl (Nat.le_of_ble_eq_true rfl) (Nat.le_of_ble_eq_true rfl) (Nat.le_of_ble_eq_true rfl) (Nat.le_of_ble_eq_true rfl) (by decide +kernel) (Nat.le_of_ble_eq_true rfl) ?_
  intro p e s m args below meth c Q A ls hx hb hml hown hts hK hP hD hS hA hG hl hout hnew hsz0
  have hl : lv_has ls 3 [(0, .ref a_t), (1, .int x1), (2, .int x2)] := hl
  have K29 : ∀ (c_bag_total : Int32) (c_bag_often : Nat → Int32) (c_smooth_all : Nat → Int32) (c_smooth_inCell : Nat → Int32) (c_smooth_madeFor : Nat → Int32) (c_smooth_starting : Nat → Int32) (c_smooth_weight : Nat → Int32) (v0 : Int32)  (H : Heap) (locs : List Loc) (ls : Array Slot), va_P D vwCl (wd_X5_block cI a_t a_row a_work a_rest a_bag a_smooth a_text a_saves a_bag_often a_row_signs a_smooth_madeFor a_smooth_weight a_smooth_inCell a_smooth_all a_smooth_starting c_gone c_bag_total c_bag_often c_row_length c_row_signs c_smooth_all c_smooth_inCell c_smooth_madeFor c_smooth_starting c_smooth_weight) H → va_D A (wd_X5_block cI a_t a_row a_work a_rest a_bag a_smooth a_text a_saves a_bag_often a_row_signs a_smooth_madeFor a_smooth_weight a_smooth_inCell a_smooth_all a_smooth_starting c_gone c_bag_total c_bag_often c_row_length c_row_signs c_smooth_all c_smooth_inCell c_smooth_madeFor c_smooth_starting c_smooth_weight) → va_S A s.heap H locs → lv_has ls 3 [(0, .ref a_t), (1, .int x1), (2, .int x2)] → F_X5_block_T_J29 c_row_length c_row_signs x1 x2 c_bag_total c_bag_often c_smooth_all c_smooth_inCell c_smooth_madeFor c_smooth_starting c_smooth_weight v0 = some o → W p l e rm_X5_block_T s m args below meth c H locs 0 0 Q (F0 m 29 ls [.int v0]) := by
    intro c_bag_total c_bag_often c_smooth_all c_smooth_inCell c_smooth_madeFor c_smooth_starting c_smooth_weight v0 H locs ls hP hD hS hl hF
    unfold F_X5_block_T_J29 at hF
    rcases opcb hF with ⟨q29, hq29, hF⟩ | hF
    · refine kST (As := [.int v0]) (rest := []) (ws' := (wd_X5_block cI a_t a_row a_work a_rest a_bag a_smooth a_text a_saves a_bag_often a_row_signs a_smooth_madeFor a_smooth_weight a_smooth_inCell a_smooth_all a_smooth_starting c_gone c_bag_total c_bag_often c_row_length c_row_signs c_smooth_all c_smooth_inCell c_smooth_madeFor c_smooth_starting c_smooth_weight)) ⟨hx, hb, hml, hown, hts⟩ (c_X5_need_T l D cI hl0  H.size  v0 q29 hq29) (va_cwS 1 hts mw_X5_112 rfl rfl rfl hd_X5_need ⟨Nat.le_of_ble_eq_true rfl, Nat.le_of_ble_eq_true rfl⟩) hS hA hG hK hP hD [] rfl rfl rfl rfl rfl ⟨Nat.le_of_ble_eq_true rfl, Nat.le_of_ble_eq_true rfl⟩ rfl hl.1 rfl (Nat.le_of_ble_eq_true rfl) dX5_block_29 (fun H locs q9 ce hP hD hS hce hcv hcl => ?_)
      have ho := Option.some.inj hF
      exact hout H locs ls 29 _ q9 ce q29 _ hP hS (by rw [← ho]) (by rw [← ho]) hce hcv hcl
    · exact nos hF
  unfold F_X5_block_T at hF
  have hP : va_P D vwCl (wd_X5_block cI a_t a_row a_work a_rest a_bag a_smooth a_text a_saves a_bag_often a_row_signs a_smooth_madeFor a_smooth_weight a_smooth_inCell a_smooth_all a_smooth_starting c_gone c_bag_total c_bag_often c_row_length c_row_signs c_smooth_all c_smooth_inCell c_smooth_madeFor c_smooth_starting c_smooth_weight) s.heap := hP
  obtain ⟨H, hH⟩ : ∃ H, H = s.heap := ⟨_, rfl⟩
  rw [← hH]
  rw [← hH] at hP
  obtain ⟨locs, hlo⟩ : ∃ z : List Loc, z = [] := ⟨_, rfl⟩
  rw [← hlo]
  have hS : va_S A s.heap H locs := by rw [hH, hlo]; exact hS
  refine lv_iload_n hx hb dX5_block_0 rfl (lv_at hl 1 rfl) ?_
  refine lv_if_lt (tgt := 28) hx hb dX5_block_1 (by decide) (fun k1 => ?_) (fun k1 => ?_)
  · replace hF := (if_pos k1).symm.trans hF
    refine lv_iconst (v := 0) hx hb dX5_block_28 (by decide) ?_
    exact K29 c_bag_total c_bag_often c_smooth_all c_smooth_inCell c_smooth_madeFor c_smooth_starting c_smooth_weight (0 : Int32) H locs ls hP hD hS (lv_sub hl [0, 1, 2] rfl) hF
  · replace hF := (if_neg k1).symm.trans hF
    refine lv_iload_n hx hb dX5_block_4 rfl (lv_at hl 1 rfl) ?_
    refine lv_aload_n hx hb dX5_block_5 rfl (lv_at hl 0 rfl) ?_
    refine get_X5_10 hx hb hts hown hK hP 0 rfl rfl dX5_block_6 ?_
    obtain ⟨r9, hr9, hF⟩ := opb hF
    refine kVI (As := []) (rest := [.int x1]) (ws' := (wd_X5_block cI a_t a_row a_work a_rest a_bag a_smooth a_text a_saves a_bag_often a_row_signs a_smooth_madeFor a_smooth_weight a_smooth_inCell a_smooth_all a_smooth_starting c_gone c_bag_total c_bag_often c_row_length c_row_signs c_smooth_all c_smooth_inCell c_smooth_madeFor c_smooth_starting c_smooth_weight)) ⟨hx, hb, hml, hown, hts⟩ (c_X1_length l D cI a_row a_row_signs H.size c_row_length  r9 hr9) (cwV 0 hts mw_X5_79 rfl rfl rfl hd_X1_length ⟨Nat.le_of_ble_eq_true rfl, Nat.le_of_ble_eq_true rfl⟩) hS hA hG hK hP hD [3] rfl rfl rfl rfl rfl ⟨Nat.zero_le _, Nat.zero_le _⟩ 1 3 rfl rfl rfl rfl hl.1 rfl (Nat.le_of_ble_eq_true rfl) dX5_block_9 (fun H locs hP hD hS => ?_)
    refine lv_icmp_gt (tgt := 28) hx hb dX5_block_12 (by decide) (fun k12 => ?_) (fun k12 => ?_)
    · (try simp only [if_pos k12] at hF)
      refine lv_iconst (v := 0) hx hb dX5_block_28 (by decide) ?_
      exact K29 c_bag_total c_bag_often c_smooth_all c_smooth_inCell c_smooth_madeFor c_smooth_starting c_smooth_weight (0 : Int32) H locs ls hP hD hS (lv_sub hl [0, 1, 2] rfl) hF
    · (try simp only [if_neg k12] at hF)
      refine lv_iload_n hx hb dX5_block_15 rfl (lv_at hl 2 rfl) ?_
      refine lv_if_lt (tgt := 28) hx hb dX5_block_16 (by decide) (fun k16 => ?_) (fun k16 => ?_)
      · (try simp only [if_pos k16] at hF)
        refine lv_iconst (v := 0) hx hb dX5_block_28 (by decide) ?_
        exact K29 c_bag_total c_bag_often c_smooth_all c_smooth_inCell c_smooth_madeFor c_smooth_starting c_smooth_weight (0 : Int32) H locs ls hP hD hS (lv_sub hl [0, 1, 2] rfl) hF
      · (try simp only [if_neg k16] at hF)
        refine lv_iload_n hx hb dX5_block_19 rfl (lv_at hl 2 rfl) ?_
        refine lv_iconst (v := 3) hx hb dX5_block_20 (by decide) ?_
        refine lv_icmp_ge (tgt := 28) hx hb dX5_block_21 (by decide) (fun k21 => ?_) (fun k21 => ?_)
        · (try simp only [if_pos k21] at hF)
          refine lv_iconst (v := 0) hx hb dX5_block_28 (by decide) ?_
          exact K29 c_bag_total c_bag_often c_smooth_all c_smooth_inCell c_smooth_madeFor c_smooth_starting c_smooth_weight (0 : Int32) H locs ls hP hD hS (lv_sub hl [0, 1, 2] rfl) hF
        · (try simp only [if_neg k21] at hF)
          refine lv_iconst (v := 1) hx hb dX5_block_24 (by decide) ?_
          refine lv_goto (tgt := 29) hx hb dX5_block_25 (by decide) ?_
          exact K29 c_bag_total c_bag_often c_smooth_all c_smooth_inCell c_smooth_madeFor c_smooth_starting c_smooth_weight (1 : Int32) H locs ls hP hD hS (lv_sub hl [0, 1, 2] rfl) hF
def rm_X5_count_T : Room := { frames := 7, cells := 1, slots := 6, locals := 133 }
set_option maxHeartbeats 4000000 in
set_option maxRecDepth 100000 in
theorem c_X5_count_T (l : Launch) (D : va_G) (cI : ClassId) (hl0 : l.stackTraces = false) (a_t a_row a_work a_rest a_bag a_smooth a_text a_saves a_bag_often a_row_signs a_saves_slots a_smooth_madeFor a_smooth_weight a_smooth_inCell a_smooth_all a_smooth_starting a_work_signs : Nat) (sz : Nat) (c_gone : Int32) (c_bag_total : Int32) (c_bag_often : Nat → Int32) (c_row_length : Int32) (c_row_signs : Nat → Int32) (c_saves_held : Int32) (c_smooth_all : Nat → Int32) (c_smooth_inCell : Nat → Int32) (c_smooth_madeFor : Nat → Int32) (c_smooth_starting : Nat → Int32) (c_smooth_weight : Nat → Int32) (c_work_length : Int32) (c_work_signs : Nat → Int32) (x1 : Int32) (o : Nat × Int32 × (Nat → Int32) × (Nat → Int32) × (Nat → Int32) × (Nat → Int32) × (Nat → Int32) × (Nat → Int32) × Int32 × (Nat → Int32)) (hF : F_X5_count_T c_gone c_bag_total c_bag_often c_row_length c_row_signs c_saves_held c_smooth_all c_smooth_inCell c_smooth_madeFor c_smooth_starting c_smooth_weight c_work_length c_work_signs x1 = some o) : vx_Met l yX5_count (Cond.code yX5_count cX5_count 2 (some .int) :: WL) rm_X5_count_T (preM D [(cI, .int)] (wd_X5_count cI a_t a_row a_work a_rest a_bag a_smooth a_text a_saves a_bag_often a_row_signs a_saves_slots a_smooth_madeFor a_smooth_weight a_smooth_inCell a_smooth_all a_smooth_starting a_work_signs c_gone c_bag_total c_bag_often c_row_length c_row_signs c_saves_held c_smooth_all c_smooth_inCell c_smooth_madeFor c_smooth_starting c_smooth_weight c_work_length c_work_signs) sz [.ref a_t, .int x1]) noQ (postX D o.1 (wd_X5_count cI a_t a_row a_work a_rest a_bag a_smooth a_text a_saves a_bag_often a_row_signs a_saves_slots a_smooth_madeFor a_smooth_weight a_smooth_inCell a_smooth_all a_smooth_starting a_work_signs c_gone o.2.1 o.2.2.1 c_row_length c_row_signs c_saves_held o.2.2.2.1 o.2.2.2.2.1 o.2.2.2.2.2.1 o.2.2.2.2.2.2.1 o.2.2.2.2.2.2.2.1 o.2.2.2.2.2.2.2.2.1 o.2.2.2.2.2.2.2.2.2) (wd_X5_count cI a_t a_row a_work a_rest a_bag a_smooth a_text a_saves a_bag_often a_row_signs a_saves_slots a_smooth_madeFor a_smooth_weight a_smooth_inCell a_smooth_all a_smooth_starting a_work_signs c_gone c_bag_total c_bag_often c_row_length c_row_signs c_saves_held c_smooth_all c_smooth_inCell c_smooth_madeFor c_smooth_starting c_smooth_weight c_work_length c_work_signs) sz) 1 6 (va_A (wd_X5_count cI a_t a_row a_work a_rest a_bag a_smooth a_text a_saves a_bag_often a_row_signs a_saves_slots a_smooth_madeFor a_smooth_weight a_smooth_inCell a_smooth_all a_smooth_starting a_work_signs c_gone c_bag_total c_bag_often c_row_length c_row_signs c_saves_held c_smooth_all c_smooth_inCell c_smooth_madeFor c_smooth_starting c_smooth_weight c_work_length c_work_signs) sz) := by
  refine mofT hl0 rfl (Nat.le_of_ble_eq_true rfl) (Nat.le_of_ble_eq_true rfl) (Nat.le_of_ble_eq_true rfl) (Nat.le_of_ble_eq_true rfl) (by decide +kernel) (Nat.le_of_ble_eq_true rfl) ?_
  intro p e s m args below meth c Q A ls hx hb hml hown hts hK hP hD hS hA hG hl hout hnew hsz0
  have hl : lv_has ls 2 [(0, .ref a_t), (1, .int x1)] := hl
  have K15 : ∀ (c_bag_total : Int32) (c_bag_often : Nat → Int32) (c_smooth_all : Nat → Int32) (c_smooth_inCell : Nat → Int32) (c_smooth_madeFor : Nat → Int32) (c_smooth_starting : Nat → Int32) (c_smooth_weight : Nat → Int32) (c_work_length : Int32) (c_work_signs : Nat → Int32) (v0 : Int32)  (H : Heap) (locs : List Loc) (ls : Array Slot), va_P D vwCl (wd_X5_count cI a_t a_row a_work a_rest a_bag a_smooth a_text a_saves a_bag_often a_row_signs a_saves_slots a_smooth_madeFor a_smooth_weight a_smooth_inCell a_smooth_all a_smooth_starting a_work_signs c_gone c_bag_total c_bag_often c_row_length c_row_signs c_saves_held c_smooth_all c_smooth_inCell c_smooth_madeFor c_smooth_starting c_smooth_weight c_work_length c_work_signs) H → va_D A (wd_X5_count cI a_t a_row a_work a_rest a_bag a_smooth a_text a_saves a_bag_often a_row_signs a_saves_slots a_smooth_madeFor a_smooth_weight a_smooth_inCell a_smooth_all a_smooth_starting a_work_signs c_gone c_bag_total c_bag_often c_row_length c_row_signs c_saves_held c_smooth_all c_smooth_inCell c_smooth_madeFor c_smooth_starting c_smooth_weight c_work_length c_work_signs) → va_S A s.heap H locs → lv_has ls 2 [(0, .ref a_t), (1, .int x1)] → F_X5_count_T_J15 c_gone c_row_length c_row_signs c_saves_held x1 c_bag_total c_bag_often c_smooth_all c_smooth_inCell c_smooth_madeFor c_smooth_starting c_smooth_weight c_work_length c_work_signs v0 = some o → W p l e rm_X5_count_T s m args below meth c H locs 0 0 Q (F0 m 15 ls [.int v0]) := by
    intro c_bag_total c_bag_often c_smooth_all c_smooth_inCell c_smooth_madeFor c_smooth_starting c_smooth_weight c_work_length c_work_signs v0 H locs ls hP hD hS hl hF
    unfold F_X5_count_T_J15 at hF
    rcases opcb hF with ⟨q15, hq15, hF⟩ | hF
    · refine kST (As := [.int v0]) (rest := []) (ws' := (wd_X5_count cI a_t a_row a_work a_rest a_bag a_smooth a_text a_saves a_bag_often a_row_signs a_saves_slots a_smooth_madeFor a_smooth_weight a_smooth_inCell a_smooth_all a_smooth_starting a_work_signs c_gone c_bag_total c_bag_often c_row_length c_row_signs c_saves_held c_smooth_all c_smooth_inCell c_smooth_madeFor c_smooth_starting c_smooth_weight c_work_length c_work_signs)) ⟨hx, hb, hml, hown, hts⟩ (c_X5_need_T l D cI hl0  H.size  v0 q15 hq15) (va_cwS 1 hts mw_X5_112 rfl rfl rfl hd_X5_need ⟨Nat.le_of_ble_eq_true rfl, Nat.le_of_ble_eq_true rfl⟩) hS hA hG hK hP hD [] rfl rfl rfl rfl rfl ⟨Nat.le_of_ble_eq_true rfl, Nat.le_of_ble_eq_true rfl⟩ rfl hl.1 rfl (Nat.le_of_ble_eq_true rfl) dX5_count_15 (fun H locs q9 ce hP hD hS hce hcv hcl => ?_)
      have ho := Option.some.inj hF
      exact hout H locs ls 15 _ q9 ce q15 _ hP hS (by rw [← ho]) (by rw [← ho]) hce hcv hcl
    · exact nos hF
  unfold F_X5_count_T at hF
  have hP : va_P D vwCl (wd_X5_count cI a_t a_row a_work a_rest a_bag a_smooth a_text a_saves a_bag_often a_row_signs a_saves_slots a_smooth_madeFor a_smooth_weight a_smooth_inCell a_smooth_all a_smooth_starting a_work_signs c_gone c_bag_total c_bag_often c_row_length c_row_signs c_saves_held c_smooth_all c_smooth_inCell c_smooth_madeFor c_smooth_starting c_smooth_weight c_work_length c_work_signs) s.heap := hP
  obtain ⟨H, hH⟩ : ∃ H, H = s.heap := ⟨_, rfl⟩
  rw [← hH]
  rw [← hH] at hP
  obtain ⟨locs, hlo⟩ : ∃ z : List Loc, z = [] := ⟨_, rfl⟩
  rw [← hlo]
  have hS : va_S A s.heap H locs := by rw [hH, hlo]; exact hS
  refine lv_iload_n hx hb dX5_count_0 rfl (lv_at hl 1 rfl) ?_
  refine lv_if_lt (tgt := 14) hx hb dX5_count_1 (by decide) (fun k1 => ?_) (fun k1 => ?_)
  · (try simp only [if_pos k1] at hF)
    refine lv_iconst (v := 0) hx hb dX5_count_14 (by decide) ?_
    exact K15 c_bag_total c_bag_often c_smooth_all c_smooth_inCell c_smooth_madeFor c_smooth_starting c_smooth_weight c_work_length c_work_signs (0 : Int32) H locs ls hP hD hS (lv_sub hl [0, 1] rfl) hF
  · (try simp only [if_neg k1] at hF)
    refine lv_iload_n hx hb dX5_count_4 rfl (lv_at hl 1 rfl) ?_
    refine lv_bipush (v := 14) hx hb dX5_count_5 (by decide) ?_
    refine lv_icmp_ge (tgt := 14) hx hb dX5_count_7 (by decide) (fun k7 => ?_) (fun k7 => ?_)
    · (try simp only [if_pos k7] at hF)
      refine lv_iconst (v := 0) hx hb dX5_count_14 (by decide) ?_
      exact K15 c_bag_total c_bag_often c_smooth_all c_smooth_inCell c_smooth_madeFor c_smooth_starting c_smooth_weight c_work_length c_work_signs (0 : Int32) H locs ls hP hD hS (lv_sub hl [0, 1] rfl) hF
    · (try simp only [if_neg k7] at hF)
      refine lv_iconst (v := 1) hx hb dX5_count_10 (by decide) ?_
      refine lv_goto (tgt := 15) hx hb dX5_count_11 (by decide) ?_
      exact K15 c_bag_total c_bag_often c_smooth_all c_smooth_inCell c_smooth_madeFor c_smooth_starting c_smooth_weight c_work_length c_work_signs (1 : Int32) H locs ls hP hD hS (lv_sub hl [0, 1] rfl) hF
def rm_X5_ifSwapped_T : Room := { frames := 7, cells := 1, slots := 6, locals := 113 }
set_option maxHeartbeats 4000000 in
set_option maxRecDepth 100000 in
theorem c_X5_ifSwapped_T (l : Launch) (D : va_G) (cI : ClassId) (hl0 : l.stackTraces = false) (a_t a_row a_work a_rest a_bag a_smooth a_text a_saves a_bag_often a_row_signs a_work_signs : Nat) (sz : Nat) (c_gone : Int32) (c_bag_total : Int32) (c_bag_often : Nat → Int32) (c_row_length : Int32) (c_row_signs : Nat → Int32) (c_work_length : Int32) (c_work_signs : Nat → Int32) (x1 : Int32) (x2 : Int32) (o : Nat × Int32 × (Nat → Int32) × Int32 × (Nat → Int32)) (hF : F_X5_ifSwapped_T c_bag_total c_bag_often c_row_length c_row_signs c_work_length c_work_signs x1 x2 = some o) : vx_Met l yX5_ifSwapped (Cond.code yX5_ifSwapped cX5_ifSwapped 3 (some .int) :: WL) rm_X5_ifSwapped_T (preM D [(cI, .int)] (wd_X5_ifSwapped cI a_t a_row a_work a_rest a_bag a_smooth a_text a_saves a_bag_often a_row_signs a_work_signs c_gone c_bag_total c_bag_often c_row_length c_row_signs c_work_length c_work_signs) sz [.ref a_t, .int x1, .int x2]) noQ (postX D o.1 (wd_X5_ifSwapped cI a_t a_row a_work a_rest a_bag a_smooth a_text a_saves a_bag_often a_row_signs a_work_signs c_gone o.2.1 o.2.2.1 c_row_length c_row_signs o.2.2.2.1 o.2.2.2.2) (wd_X5_ifSwapped cI a_t a_row a_work a_rest a_bag a_smooth a_text a_saves a_bag_often a_row_signs a_work_signs c_gone c_bag_total c_bag_often c_row_length c_row_signs c_work_length c_work_signs) sz) 1 6 (va_A (wd_X5_ifSwapped cI a_t a_row a_work a_rest a_bag a_smooth a_text a_saves a_bag_often a_row_signs a_work_signs c_gone c_bag_total c_bag_often c_row_length c_row_signs c_work_length c_work_signs) sz) := by
  refine mofT hl0 rfl (Nat.le_of_ble_eq_true rfl) (Nat.le_of_ble_eq_true rfl) (Nat.le_of_ble_eq_true rfl) (Nat.le_of_ble_eq_true rfl) (by decide +kernel) (Nat.le_of_ble_eq_true rfl) ?_
  intro p e s m args below meth c Q A ls hx hb hml hown hts hK hP hD hS hA hG hl hout hnew hsz0
  have hl : lv_has ls 3 [(0, .ref a_t), (1, .int x1), (2, .int x2)] := hl
  unfold F_X5_ifSwapped_T at hF
  have hP : va_P D vwCl (wd_X5_ifSwapped cI a_t a_row a_work a_rest a_bag a_smooth a_text a_saves a_bag_often a_row_signs a_work_signs c_gone c_bag_total c_bag_often c_row_length c_row_signs c_work_length c_work_signs) s.heap := hP
  obtain ⟨H, hH⟩ : ∃ H, H = s.heap := ⟨_, rfl⟩
  rw [← hH]
  rw [← hH] at hP
  obtain ⟨locs, hlo⟩ : ∃ z : List Loc, z = [] := ⟨_, rfl⟩
  rw [← hlo]
  have hS : va_S A s.heap H locs := by rw [hH, hlo]; exact hS
  refine lv_aload_n hx hb dX5_ifSwapped_0 rfl (lv_at hl 0 rfl) ?_
  refine lv_iload_n hx hb dX5_ifSwapped_1 rfl (lv_at hl 1 rfl) ?_
  rcases opcb hF with ⟨q2, hq2, hF⟩ | hF
  · refine kVT (As := [.int x1]) (rest := []) (ws' := (wd_X5_ifSwapped cI a_t a_row a_work a_rest a_bag a_smooth a_text a_saves a_bag_often a_row_signs a_work_signs c_gone c_bag_total c_bag_often c_row_length c_row_signs c_work_length c_work_signs)) ⟨hx, hb, hml, hown, hts⟩ (c_X5_needPlace_T l D cI hl0 a_t a_row a_work a_rest a_bag a_smooth a_text a_saves a_row_signs H.size c_gone c_row_length x1 q2 hq2) (cwV 1 hts mw_X5_102 rfl rfl rfl hd_X5_needPlace ⟨Nat.le_of_ble_eq_true rfl, Nat.le_of_ble_eq_true rfl⟩) hS hA hG hK hP hD [0, 3] rfl rfl rfl rfl rfl ⟨Nat.le_of_ble_eq_true rfl, Nat.le_of_ble_eq_true rfl⟩ 5 0 rfl rfl rfl rfl hl.1 rfl (Nat.le_of_ble_eq_true rfl) dX5_ifSwapped_2 (fun H locs q9 ce hP hD hS hce hcv hcl => ?_)
    have ho := Option.some.inj hF
    exact hout H locs ls 2 _ q9 ce q2 _ hP hS (by rw [← ho]) (by rw [← ho]) hce hcv hcl
  · skip
    obtain ⟨r2, hr2, hF⟩ := opb hF
    refine kVV (As := [.int x1]) (rest := []) (ws' := (wd_X5_ifSwapped cI a_t a_row a_work a_rest a_bag a_smooth a_text a_saves a_bag_often a_row_signs a_work_signs c_gone c_bag_total c_bag_often c_row_length c_row_signs c_work_length c_work_signs)) ⟨hx, hb, hml, hown, hts⟩ (c_X5_needPlace l D cI a_t a_row a_work a_rest a_bag a_smooth a_text a_saves a_row_signs H.size c_gone c_row_length x1 r2 hr2) (cwV 1 hts mw_X5_102 rfl rfl rfl hd_X5_needPlace ⟨Nat.le_of_ble_eq_true rfl, Nat.le_of_ble_eq_true rfl⟩) hS hA hG hK hP hD [0, 3] rfl rfl rfl rfl rfl ⟨Nat.zero_le _, Nat.zero_le _⟩ 5 0 rfl rfl rfl rfl hl.1 rfl (Nat.le_of_ble_eq_true rfl) dX5_ifSwapped_2 (fun H locs hP hD hS => ?_)
    refine lv_aload_n hx hb dX5_ifSwapped_5 rfl (lv_at hl 0 rfl) ?_
    refine lv_iload_n hx hb dX5_ifSwapped_6 rfl (lv_at hl 2 rfl) ?_
    rcases opcb hF with ⟨q7, hq7, hF⟩ | hF
    · refine kVT (As := [.int x2]) (rest := []) (ws' := (wd_X5_ifSwapped cI a_t a_row a_work a_rest a_bag a_smooth a_text a_saves a_bag_often a_row_signs a_work_signs c_gone c_bag_total c_bag_often c_row_length c_row_signs c_work_length c_work_signs)) ⟨hx, hb, hml, hown, hts⟩ (c_X5_needPlace_T l D cI hl0 a_t a_row a_work a_rest a_bag a_smooth a_text a_saves a_row_signs H.size c_gone c_row_length x2 q7 hq7) (cwV 1 hts mw_X5_102 rfl rfl rfl hd_X5_needPlace ⟨Nat.le_of_ble_eq_true rfl, Nat.le_of_ble_eq_true rfl⟩) hS hA hG hK hP hD [0, 3] rfl rfl rfl rfl rfl ⟨Nat.le_of_ble_eq_true rfl, Nat.le_of_ble_eq_true rfl⟩ 5 0 rfl rfl rfl rfl hl.1 rfl (Nat.le_of_ble_eq_true rfl) dX5_ifSwapped_7 (fun H locs q9 ce hP hD hS hce hcv hcl => ?_)
      have ho := Option.some.inj hF
      exact hout H locs ls 7 _ q9 ce q7 _ hP hS (by rw [← ho]) (by rw [← ho]) hce hcv hcl
    · exact nos hF
def rm_X5_signOf_T : Room := { frames := 8, cells := 1, slots := 6, locals := 131 }
set_option maxHeartbeats 4000000 in
set_option maxRecDepth 100000 in
theorem c_X5_signOf_T (l : Launch) (D : va_G) (cI : ClassId) (hl0 : l.stackTraces = false) (a_t a_row a_work a_rest a_bag a_smooth a_text a_saves a_bag_often a_row_signs a_work_signs : Nat) (sz : Nat) (c_gone : Int32) (c_bag_total : Int32) (c_bag_often : Nat → Int32) (c_row_length : Int32) (c_row_signs : Nat → Int32) (c_work_length : Int32) (c_work_signs : Nat → Int32) (x1 : Int32) (x2 : Int32) (o : Nat × Int32 × (Nat → Int32) × Int32 × (Nat → Int32)) (hF : F_X5_signOf_T c_bag_total c_bag_often c_row_length c_row_signs c_work_length c_work_signs x1 x2 = some o) : vx_Met l yX5_signOf (Cond.code yX5_signOf cX5_signOf 3 (some .int) :: WL) rm_X5_signOf_T (preM D [(cI, .int)] (wd_X5_signOf cI a_t a_row a_work a_rest a_bag a_smooth a_text a_saves a_bag_often a_row_signs a_work_signs c_gone c_bag_total c_bag_often c_row_length c_row_signs c_work_length c_work_signs) sz [.ref a_t, .int x1, .int x2]) noQ (postX D o.1 (wd_X5_signOf cI a_t a_row a_work a_rest a_bag a_smooth a_text a_saves a_bag_often a_row_signs a_work_signs c_gone o.2.1 o.2.2.1 c_row_length c_row_signs o.2.2.2.1 o.2.2.2.2) (wd_X5_signOf cI a_t a_row a_work a_rest a_bag a_smooth a_text a_saves a_bag_often a_row_signs a_work_signs c_gone c_bag_total c_bag_often c_row_length c_row_signs c_work_length c_work_signs) sz) 1 6 (va_A (wd_X5_signOf cI a_t a_row a_work a_rest a_bag a_smooth a_text a_saves a_bag_often a_row_signs a_work_signs c_gone c_bag_total c_bag_often c_row_length c_row_signs c_work_length c_work_signs) sz) := by
  refine mofT hl0 rfl (Nat.le_of_ble_eq_true rfl) (Nat.le_of_ble_eq_true rfl) (Nat.le_of_ble_eq_true rfl) (Nat.le_of_ble_eq_true rfl) (by decide +kernel) (Nat.le_of_ble_eq_true rfl) ?_
  intro p e s m args below meth c Q A ls hx hb hml hown hts hK hP hD hS hA hG hl hout hnew hsz0
  have hl : lv_has ls 3 [(0, .ref a_t), (1, .int x1), (2, .int x2)] := hl
  unfold F_X5_signOf_T at hF
  have hP : va_P D vwCl (wd_X5_signOf cI a_t a_row a_work a_rest a_bag a_smooth a_text a_saves a_bag_often a_row_signs a_work_signs c_gone c_bag_total c_bag_often c_row_length c_row_signs c_work_length c_work_signs) s.heap := hP
  obtain ⟨H, hH⟩ : ∃ H, H = s.heap := ⟨_, rfl⟩
  rw [← hH]
  rw [← hH] at hP
  obtain ⟨locs, hlo⟩ : ∃ z : List Loc, z = [] := ⟨_, rfl⟩
  rw [← hlo]
  have hS : va_S A s.heap H locs := by rw [hH, hlo]; exact hS
  refine lv_aload_n hx hb dX5_signOf_0 rfl (lv_at hl 0 rfl) ?_
  refine lv_iload_n hx hb dX5_signOf_1 rfl (lv_at hl 2 rfl) ?_
  rcases opcb hF with ⟨q2, hq2, hF⟩ | hF
  · refine kVT (As := [.int x2]) (rest := []) (ws' := (wd_X5_signOf cI a_t a_row a_work a_rest a_bag a_smooth a_text a_saves a_bag_often a_row_signs a_work_signs c_gone c_bag_total c_bag_often c_row_length c_row_signs c_work_length c_work_signs)) ⟨hx, hb, hml, hown, hts⟩ (c_X5_needPlace_T l D cI hl0 a_t a_row a_work a_rest a_bag a_smooth a_text a_saves a_row_signs H.size c_gone c_row_length x2 q2 hq2) (cwV 1 hts mw_X5_102 rfl rfl rfl hd_X5_needPlace ⟨Nat.le_of_ble_eq_true rfl, Nat.le_of_ble_eq_true rfl⟩) hS hA hG hK hP hD [0, 3] rfl rfl rfl rfl rfl ⟨Nat.le_of_ble_eq_true rfl, Nat.le_of_ble_eq_true rfl⟩ 5 0 rfl rfl rfl rfl hl.1 rfl (Nat.le_of_ble_eq_true rfl) dX5_signOf_2 (fun H locs q9 ce hP hD hS hce hcv hcl => ?_)
    have ho := Option.some.inj hF
    exact hout H locs ls 2 _ q9 ce q2 _ hP hS (by rw [← ho]) (by rw [← ho]) hce hcv hcl
  · skip
    obtain ⟨r2, hr2, hF⟩ := opb hF
    refine kVV (As := [.int x2]) (rest := []) (ws' := (wd_X5_signOf cI a_t a_row a_work a_rest a_bag a_smooth a_text a_saves a_bag_often a_row_signs a_work_signs c_gone c_bag_total c_bag_often c_row_length c_row_signs c_work_length c_work_signs)) ⟨hx, hb, hml, hown, hts⟩ (c_X5_needPlace l D cI a_t a_row a_work a_rest a_bag a_smooth a_text a_saves a_row_signs H.size c_gone c_row_length x2 r2 hr2) (cwV 1 hts mw_X5_102 rfl rfl rfl hd_X5_needPlace ⟨Nat.le_of_ble_eq_true rfl, Nat.le_of_ble_eq_true rfl⟩) hS hA hG hK hP hD [0, 3] rfl rfl rfl rfl rfl ⟨Nat.zero_le _, Nat.zero_le _⟩ 5 0 rfl rfl rfl rfl hl.1 rfl (Nat.le_of_ble_eq_true rfl) dX5_signOf_2 (fun H locs hP hD hS => ?_)
    refine lv_aload_n hx hb dX5_signOf_5 rfl (lv_at hl 0 rfl) ?_
    refine lv_iload_n hx hb dX5_signOf_6 rfl (lv_at hl 1 rfl) ?_
    rcases opcb hF with ⟨q7, hq7, hF⟩ | hF
    · refine kVT (As := [.int x1]) (rest := []) (ws' := (wd_X5_signOf cI a_t a_row a_work a_rest a_bag a_smooth a_text a_saves a_bag_often a_row_signs a_work_signs c_gone q7.2.1 q7.2.2 c_row_length c_row_signs c_work_length c_work_signs)) ⟨hx, hb, hml, hown, hts⟩ (c_X5_needRank_T l D cI hl0 a_t a_row a_work a_rest a_bag a_smooth a_text a_saves a_bag_often a_row_signs H.size c_gone c_bag_total c_bag_often c_row_length c_row_signs x1 q7 hq7) (cwV 1 hts mw_X5_54 rfl rfl rfl hd_X5_needRank ⟨Nat.le_of_ble_eq_true rfl, Nat.le_of_ble_eq_true rfl⟩) hS hA hG hK hP hD [0, 1, 2, 3, 4] rfl rfl rfl rfl rfl ⟨Nat.le_of_ble_eq_true rfl, Nat.le_of_ble_eq_true rfl⟩ 5 0 rfl rfl rfl rfl hl.1 rfl (Nat.le_of_ble_eq_true rfl) dX5_signOf_7 (fun H locs q9 ce hP hD hS hce hcv hcl => ?_)
      have ho := Option.some.inj hF
      exact hout H locs ls 7 _ q9 ce q7.1 _ hP hS (by rw [← ho]) (by rw [← ho]) hce hcv hcl
    · exact nos hF
def rm_X5_having_T : Room := { frames := 8, cells := 1, slots := 6, locals := 130 }
set_option maxHeartbeats 4000000 in
set_option maxRecDepth 100000 in
theorem c_X5_having_T (l : Launch) (D : va_G) (cI : ClassId) (hl0 : l.stackTraces = false) (a_t a_row a_work a_rest a_bag a_smooth a_text a_saves a_bag_often a_row_signs a_work_signs : Nat) (sz : Nat) (c_gone : Int32) (c_bag_total : Int32) (c_bag_often : Nat → Int32) (c_row_length : Int32) (c_row_signs : Nat → Int32) (c_work_length : Int32) (c_work_signs : Nat → Int32) (x1 : Int32) (x2 : Int32) (x3 : Int32) (x4 : Int32) (o : Nat × Int32 × (Nat → Int32) × Int32 × (Nat → Int32)) (hF : F_X5_having_T c_bag_total c_bag_often c_row_length c_row_signs c_work_length c_work_signs x1 x2 x3 x4 = some o) : vx_Met l yX5_having (Cond.code yX5_having cX5_having 5 (some .int) :: WL) rm_X5_having_T (preM D [(cI, .int)] (wd_X5_having cI a_t a_row a_work a_rest a_bag a_smooth a_text a_saves a_bag_often a_row_signs a_work_signs c_gone c_bag_total c_bag_often c_row_length c_row_signs c_work_length c_work_signs) sz [.ref a_t, .int x1, .int x2, .int x3, .int x4]) noQ (postX D o.1 (wd_X5_having cI a_t a_row a_work a_rest a_bag a_smooth a_text a_saves a_bag_often a_row_signs a_work_signs c_gone o.2.1 o.2.2.1 c_row_length c_row_signs o.2.2.2.1 o.2.2.2.2) (wd_X5_having cI a_t a_row a_work a_rest a_bag a_smooth a_text a_saves a_bag_often a_row_signs a_work_signs c_gone c_bag_total c_bag_often c_row_length c_row_signs c_work_length c_work_signs) sz) 1 6 (va_A (wd_X5_having cI a_t a_row a_work a_rest a_bag a_smooth a_text a_saves a_bag_often a_row_signs a_work_signs c_gone c_bag_total c_bag_often c_row_length c_row_signs c_work_length c_work_signs) sz) := by
  refine mofT hl0 rfl (Nat.le_of_ble_eq_true rfl) (Nat.le_of_ble_eq_true rfl) (Nat.le_of_ble_eq_true rfl) (Nat.le_of_ble_eq_true rfl) (by decide +kernel) (Nat.le_of_ble_eq_true rfl) ?_
  intro p e s m args below meth c Q A ls hx hb hml hown hts hK hP hD hS hA hG hl hout hnew hsz0
  have hl : lv_has ls 5 [(0, .ref a_t), (1, .int x1), (2, .int x2), (3, .int x3), (4, .int x4)] := hl
  have K27 : ∀ (c_bag_total : Int32) (c_bag_often : Nat → Int32) (c_work_length : Int32) (c_work_signs : Nat → Int32) (v0 : Int32)  (H : Heap) (locs : List Loc) (ls : Array Slot), va_P D vwCl (wd_X5_having cI a_t a_row a_work a_rest a_bag a_smooth a_text a_saves a_bag_often a_row_signs a_work_signs c_gone c_bag_total c_bag_often c_row_length c_row_signs c_work_length c_work_signs) H → va_D A (wd_X5_having cI a_t a_row a_work a_rest a_bag a_smooth a_text a_saves a_bag_often a_row_signs a_work_signs c_gone c_bag_total c_bag_often c_row_length c_row_signs c_work_length c_work_signs) → va_S A s.heap H locs → lv_has ls 5 [(0, .ref a_t), (1, .int x1), (2, .int x2), (3, .int x3), (4, .int x4)] → F_X5_having_T_J27 c_row_length c_row_signs x1 x2 x3 x4 c_bag_total c_bag_often c_work_length c_work_signs v0 = some o → W p l e rm_X5_having_T s m args below meth c H locs 0 0 Q (F0 m 27 ls [.int v0]) := by
    intro c_bag_total c_bag_often c_work_length c_work_signs v0 H locs ls hP hD hS hl hF
    unfold F_X5_having_T_J27 at hF
    rcases opcb hF with ⟨q27, hq27, hF⟩ | hF
    · refine kST (As := [.int v0]) (rest := []) (ws' := (wd_X5_having cI a_t a_row a_work a_rest a_bag a_smooth a_text a_saves a_bag_often a_row_signs a_work_signs c_gone c_bag_total c_bag_often c_row_length c_row_signs c_work_length c_work_signs)) ⟨hx, hb, hml, hown, hts⟩ (c_X5_need_T l D cI hl0  H.size  v0 q27 hq27) (va_cwS 1 hts mw_X5_112 rfl rfl rfl hd_X5_need ⟨Nat.le_of_ble_eq_true rfl, Nat.le_of_ble_eq_true rfl⟩) hS hA hG hK hP hD [] rfl rfl rfl rfl rfl ⟨Nat.le_of_ble_eq_true rfl, Nat.le_of_ble_eq_true rfl⟩ rfl hl.1 rfl (Nat.le_of_ble_eq_true rfl) dX5_having_27 (fun H locs q9 ce hP hD hS hce hcv hcl => ?_)
      have ho := Option.some.inj hF
      exact hout H locs ls 27 _ q9 ce q27 _ hP hS (by rw [← ho]) (by rw [← ho]) hce hcv hcl
    · skip
      obtain ⟨r27, hr27, hF⟩ := opb hF
      refine kSV (As := [.int v0]) (rest := []) (ws' := (wd_X5_having cI a_t a_row a_work a_rest a_bag a_smooth a_text a_saves a_bag_often a_row_signs a_work_signs c_gone c_bag_total c_bag_often c_row_length c_row_signs c_work_length c_work_signs)) ⟨hx, hb, hml, hown, hts⟩ (c_X5_need l D cI  H.size  v0 r27 hr27) (va_cwS 1 hts mw_X5_112 rfl rfl rfl hd_X5_need ⟨Nat.le_of_ble_eq_true rfl, Nat.le_of_ble_eq_true rfl⟩) hS hA hG hK hP hD [] rfl rfl rfl rfl rfl ⟨Nat.zero_le _, Nat.zero_le _⟩ rfl hl.1 rfl (Nat.le_of_ble_eq_true rfl) dX5_having_27 (fun H locs hP hD hS => ?_)
      refine lv_iload hx hb dX5_having_30 (lv_at hl 4 rfl) ?_
      rcases opcb hF with ⟨q32, hq32, hF⟩ | hF
      · refine kST (As := [.int x4]) (rest := []) (ws' := (wd_X5_having cI a_t a_row a_work a_rest a_bag a_smooth a_text a_saves a_bag_often a_row_signs a_work_signs c_gone c_bag_total c_bag_often c_row_length c_row_signs c_work_length c_work_signs)) ⟨hx, hb, hml, hown, hts⟩ (c_X5_needSign_T l D cI hl0  H.size  x4 q32 hq32) (va_cwS 1 hts mw_X5_127 rfl rfl rfl hd_X5_needSign ⟨Nat.le_of_ble_eq_true rfl, Nat.le_of_ble_eq_true rfl⟩) hS hA hG hK hP hD [] rfl rfl rfl rfl rfl ⟨Nat.le_of_ble_eq_true rfl, Nat.le_of_ble_eq_true rfl⟩ rfl hl.1 rfl (Nat.le_of_ble_eq_true rfl) dX5_having_32 (fun H locs q9 ce hP hD hS hce hcv hcl => ?_)
        have ho := Option.some.inj hF
        exact hout H locs ls 32 _ q9 ce q32 _ hP hS (by rw [← ho]) (by rw [← ho]) hce hcv hcl
      · exact nos hF
  unfold F_X5_having_T at hF
  have hP : va_P D vwCl (wd_X5_having cI a_t a_row a_work a_rest a_bag a_smooth a_text a_saves a_bag_often a_row_signs a_work_signs c_gone c_bag_total c_bag_often c_row_length c_row_signs c_work_length c_work_signs) s.heap := hP
  obtain ⟨H, hH⟩ : ∃ H, H = s.heap := ⟨_, rfl⟩
  rw [← hH]
  rw [← hH] at hP
  obtain ⟨locs, hlo⟩ : ∃ z : List Loc, z = [] := ⟨_, rfl⟩
  rw [← hlo]
  have hS : va_S A s.heap H locs := by rw [hH, hlo]; exact hS
  refine lv_aload_n hx hb dX5_having_0 rfl (lv_at hl 0 rfl) ?_
  refine lv_iload_n hx hb dX5_having_1 rfl (lv_at hl 3 rfl) ?_
  rcases opcb hF with ⟨q2, hq2, hF⟩ | hF
  · refine kVT (As := [.int x3]) (rest := []) (ws' := (wd_X5_having cI a_t a_row a_work a_rest a_bag a_smooth a_text a_saves a_bag_often a_row_signs a_work_signs c_gone c_bag_total c_bag_often c_row_length c_row_signs c_work_length c_work_signs)) ⟨hx, hb, hml, hown, hts⟩ (c_X5_needPlace_T l D cI hl0 a_t a_row a_work a_rest a_bag a_smooth a_text a_saves a_row_signs H.size c_gone c_row_length x3 q2 hq2) (cwV 1 hts mw_X5_102 rfl rfl rfl hd_X5_needPlace ⟨Nat.le_of_ble_eq_true rfl, Nat.le_of_ble_eq_true rfl⟩) hS hA hG hK hP hD [0, 3] rfl rfl rfl rfl rfl ⟨Nat.le_of_ble_eq_true rfl, Nat.le_of_ble_eq_true rfl⟩ 5 0 rfl rfl rfl rfl hl.1 rfl (Nat.le_of_ble_eq_true rfl) dX5_having_2 (fun H locs q9 ce hP hD hS hce hcv hcl => ?_)
    have ho := Option.some.inj hF
    exact hout H locs ls 2 _ q9 ce q2 _ hP hS (by rw [← ho]) (by rw [← ho]) hce hcv hcl
  · skip
    obtain ⟨r2, hr2, hF⟩ := opb hF
    refine kVV (As := [.int x3]) (rest := []) (ws' := (wd_X5_having cI a_t a_row a_work a_rest a_bag a_smooth a_text a_saves a_bag_often a_row_signs a_work_signs c_gone c_bag_total c_bag_often c_row_length c_row_signs c_work_length c_work_signs)) ⟨hx, hb, hml, hown, hts⟩ (c_X5_needPlace l D cI a_t a_row a_work a_rest a_bag a_smooth a_text a_saves a_row_signs H.size c_gone c_row_length x3 r2 hr2) (cwV 1 hts mw_X5_102 rfl rfl rfl hd_X5_needPlace ⟨Nat.le_of_ble_eq_true rfl, Nat.le_of_ble_eq_true rfl⟩) hS hA hG hK hP hD [0, 3] rfl rfl rfl rfl rfl ⟨Nat.zero_le _, Nat.zero_le _⟩ 5 0 rfl rfl rfl rfl hl.1 rfl (Nat.le_of_ble_eq_true rfl) dX5_having_2 (fun H locs hP hD hS => ?_)
    refine lv_iload_n hx hb dX5_having_5 rfl (lv_at hl 1 rfl) ?_
    refine lv_if_lt (tgt := 26) hx hb dX5_having_6 (by decide) (fun k6 => ?_) (fun k6 => ?_)
    · replace hF := (if_pos k6).symm.trans hF
      refine lv_iconst (v := 0) hx hb dX5_having_26 (by decide) ?_
      exact K27 c_bag_total c_bag_often c_work_length c_work_signs (0 : Int32) H locs ls hP hD hS (lv_sub hl [0, 1, 2, 3, 4] rfl) hF
    · replace hF := (if_neg k6).symm.trans hF
      refine lv_iload_n hx hb dX5_having_9 rfl (lv_at hl 1 rfl) ?_
      refine lv_iload_n hx hb dX5_having_10 rfl (lv_at hl 2 rfl) ?_
      refine lv_icmp_gt (tgt := 26) hx hb dX5_having_11 (by decide) (fun k11 => ?_) (fun k11 => ?_)
      · replace hF := (if_pos k11).symm.trans hF
        refine lv_iconst (v := 0) hx hb dX5_having_26 (by decide) ?_
        exact K27 c_bag_total c_bag_often c_work_length c_work_signs (0 : Int32) H locs ls hP hD hS (lv_sub hl [0, 1, 2, 3, 4] rfl) hF
      · replace hF := (if_neg k11).symm.trans hF
        refine lv_iload_n hx hb dX5_having_14 rfl (lv_at hl 2 rfl) ?_
        refine lv_aload_n hx hb dX5_having_15 rfl (lv_at hl 0 rfl) ?_
        obtain ⟨r16, hr16, hF⟩ := opb hF
        refine kVI (As := []) (rest := [.int x2]) (ws' := (wd_X5_having cI a_t a_row a_work a_rest a_bag a_smooth a_text a_saves a_bag_often a_row_signs a_work_signs c_gone r16.2.1 r16.2.2 c_row_length c_row_signs c_work_length c_work_signs)) ⟨hx, hb, hml, hown, hts⟩ (c_X5_all l D cI a_t a_row a_work a_rest a_bag a_smooth a_text a_saves a_bag_often a_row_signs H.size c_gone c_bag_total c_bag_often c_row_length c_row_signs  r16 hr16) (cwV 0 hts mw_X5_65 rfl rfl rfl hd_X5_all ⟨Nat.le_of_ble_eq_true rfl, Nat.le_of_ble_eq_true rfl⟩) hS hA hG hK hP hD [0, 1, 2, 3, 4] rfl rfl rfl rfl rfl ⟨Nat.zero_le _, Nat.zero_le _⟩ 5 0 rfl rfl rfl rfl hl.1 rfl (Nat.le_of_ble_eq_true rfl) dX5_having_16 (fun H locs hP hD hS => ?_)
        refine lv_icmp_gt (tgt := 26) hx hb dX5_having_19 (by decide) (fun k19 => ?_) (fun k19 => ?_)
        · (try simp only [if_pos k19] at hF)
          refine lv_iconst (v := 0) hx hb dX5_having_26 (by decide) ?_
          exact K27 r16.2.1 r16.2.2 c_work_length c_work_signs (0 : Int32) H locs ls hP hD hS (lv_sub hl [0, 1, 2, 3, 4] rfl) hF
        · (try simp only [if_neg k19] at hF)
          refine lv_iconst (v := 1) hx hb dX5_having_22 (by decide) ?_
          refine lv_goto (tgt := 27) hx hb dX5_having_23 (by decide) ?_
          exact K27 r16.2.1 r16.2.2 c_work_length c_work_signs (1 : Int32) H locs ls hP hD hS (lv_sub hl [0, 1, 2, 3, 4] rfl) hF
def rm_X5_stepsTo_T : Room := { frames := 8, cells := 1, slots := 6, locals := 131 }
set_option maxHeartbeats 4000000 in
set_option maxRecDepth 100000 in
theorem c_X5_stepsTo_T (l : Launch) (D : va_G) (cI : ClassId) (hl0 : l.stackTraces = false) (a_t a_row a_work a_rest a_bag a_smooth a_text a_saves a_bag_often a_rest_signs a_row_signs a_work_signs : Nat) (sz : Nat) (c_gone : Int32) (c_bag_total : Int32) (c_bag_often : Nat → Int32) (c_rest_length : Int32) (c_rest_signs : Nat → Int32) (c_row_length : Int32) (c_row_signs : Nat → Int32) (c_work_length : Int32) (c_work_signs : Nat → Int32) (x1 : Int32) (o : Nat × Int32 × (Nat → Int32) × Int32 × (Nat → Int32) × Int32 × (Nat → Int32)) (hF : F_X5_stepsTo_T c_bag_total c_bag_often c_rest_length c_rest_signs c_row_length c_row_signs c_work_length c_work_signs x1 = some o) : vx_Met l yX5_stepsTo (Cond.code yX5_stepsTo cX5_stepsTo 5 (some .int) :: WL) rm_X5_stepsTo_T (preM D [(cI, .int)] (wd_X5_stepsTo cI a_t a_row a_work a_rest a_bag a_smooth a_text a_saves a_bag_often a_rest_signs a_row_signs a_work_signs c_gone c_bag_total c_bag_often c_rest_length c_rest_signs c_row_length c_row_signs c_work_length c_work_signs) sz [.ref a_t, .int x1]) noQ (postX D o.1 (wd_X5_stepsTo cI a_t a_row a_work a_rest a_bag a_smooth a_text a_saves a_bag_often a_rest_signs a_row_signs a_work_signs c_gone o.2.1 o.2.2.1 o.2.2.2.1 o.2.2.2.2.1 c_row_length c_row_signs o.2.2.2.2.2.1 o.2.2.2.2.2.2) (wd_X5_stepsTo cI a_t a_row a_work a_rest a_bag a_smooth a_text a_saves a_bag_often a_rest_signs a_row_signs a_work_signs c_gone c_bag_total c_bag_often c_rest_length c_rest_signs c_row_length c_row_signs c_work_length c_work_signs) sz) 1 6 (va_A (wd_X5_stepsTo cI a_t a_row a_work a_rest a_bag a_smooth a_text a_saves a_bag_often a_rest_signs a_row_signs a_work_signs c_gone c_bag_total c_bag_often c_rest_length c_rest_signs c_row_length c_row_signs c_work_length c_work_signs) sz) := by
  refine mofT hl0 rfl (Nat.le_of_ble_eq_true rfl) (Nat.le_of_ble_eq_true rfl) (Nat.le_of_ble_eq_true rfl) (Nat.le_of_ble_eq_true rfl) (by decide +kernel) (Nat.le_of_ble_eq_true rfl) ?_
  intro p e s m args below meth c Q A ls hx hb hml hown hts hK hP hD hS hA hG hl hout hnew hsz0
  have hl : lv_has ls 5 [(0, .ref a_t), (1, .int x1)] := hl
  unfold F_X5_stepsTo_T at hF
  have hP : va_P D vwCl (wd_X5_stepsTo cI a_t a_row a_work a_rest a_bag a_smooth a_text a_saves a_bag_often a_rest_signs a_row_signs a_work_signs c_gone c_bag_total c_bag_often c_rest_length c_rest_signs c_row_length c_row_signs c_work_length c_work_signs) s.heap := hP
  obtain ⟨H, hH⟩ : ∃ H, H = s.heap := ⟨_, rfl⟩
  rw [← hH]
  rw [← hH] at hP
  obtain ⟨locs, hlo⟩ : ∃ z : List Loc, z = [] := ⟨_, rfl⟩
  rw [← hlo]
  have hS : va_S A s.heap H locs := by rw [hH, hlo]; exact hS
  refine lv_aload_n hx hb dX5_stepsTo_0 rfl (lv_at hl 0 rfl) ?_
  refine lv_iload_n hx hb dX5_stepsTo_1 rfl (lv_at hl 1 rfl) ?_
  rcases opcb hF with ⟨q2, hq2, hF⟩ | hF
  · refine kVT (As := [.int x1]) (rest := []) (ws' := (wd_X5_stepsTo cI a_t a_row a_work a_rest a_bag a_smooth a_text a_saves a_bag_often a_rest_signs a_row_signs a_work_signs c_gone q2.2.1 q2.2.2 c_rest_length c_rest_signs c_row_length c_row_signs c_work_length c_work_signs)) ⟨hx, hb, hml, hown, hts⟩ (c_X5_needRank_T l D cI hl0 a_t a_row a_work a_rest a_bag a_smooth a_text a_saves a_bag_often a_row_signs H.size c_gone c_bag_total c_bag_often c_row_length c_row_signs x1 q2 hq2) (cwV 1 hts mw_X5_54 rfl rfl rfl hd_X5_needRank ⟨Nat.le_of_ble_eq_true rfl, Nat.le_of_ble_eq_true rfl⟩) hS hA hG hK hP hD [0, 1, 2, 5, 6] rfl rfl rfl rfl rfl ⟨Nat.le_of_ble_eq_true rfl, Nat.le_of_ble_eq_true rfl⟩ 5 0 rfl rfl rfl rfl hl.1 rfl (Nat.le_of_ble_eq_true rfl) dX5_stepsTo_2 (fun H locs q9 ce hP hD hS hce hcv hcl => ?_)
    have ho := Option.some.inj hF
    exact hout H locs ls 2 _ q9 ce q2.1 _ hP hS (by rw [← ho]) (by rw [← ho]) hce hcv hcl
  · exact nos hF
def rm_X5_bestSwap_T : Room := { frames := 7, cells := 1, slots := 6, locals := 113 }
set_option maxHeartbeats 4000000 in
set_option maxRecDepth 100000 in
theorem c_X5_bestSwap_T (l : Launch) (D : va_G) (cI : ClassId) (hl0 : l.stackTraces = false) (a_t a_row a_work a_rest a_bag a_smooth a_text a_saves a_bag_often a_row_signs a_work_signs : Nat) (sz : Nat) (c_gone : Int32) (c_bag_total : Int32) (c_bag_often : Nat → Int32) (c_row_length : Int32) (c_row_signs : Nat → Int32) (c_work_length : Int32) (c_work_signs : Nat → Int32) (x1 : Int32) (o : Nat × Int32 × (Nat → Int32) × Int32 × (Nat → Int32)) (hF : F_X5_bestSwap_T c_bag_total c_bag_often c_row_length c_row_signs c_work_length c_work_signs x1 = some o) : vx_Met l yX5_bestSwap (Cond.code yX5_bestSwap cX5_bestSwap 8 (some .int) :: WL) rm_X5_bestSwap_T (preM D [(cI, .int)] (wd_X5_bestSwap cI a_t a_row a_work a_rest a_bag a_smooth a_text a_saves a_bag_often a_row_signs a_work_signs c_gone c_bag_total c_bag_often c_row_length c_row_signs c_work_length c_work_signs) sz [.ref a_t, .int x1]) noQ (postX D o.1 (wd_X5_bestSwap cI a_t a_row a_work a_rest a_bag a_smooth a_text a_saves a_bag_often a_row_signs a_work_signs c_gone o.2.1 o.2.2.1 c_row_length c_row_signs o.2.2.2.1 o.2.2.2.2) (wd_X5_bestSwap cI a_t a_row a_work a_rest a_bag a_smooth a_text a_saves a_bag_often a_row_signs a_work_signs c_gone c_bag_total c_bag_often c_row_length c_row_signs c_work_length c_work_signs) sz) 1 6 (va_A (wd_X5_bestSwap cI a_t a_row a_work a_rest a_bag a_smooth a_text a_saves a_bag_often a_row_signs a_work_signs c_gone c_bag_total c_bag_often c_row_length c_row_signs c_work_length c_work_signs) sz) := by
  refine mofT hl0 rfl (Nat.le_of_ble_eq_true rfl) (Nat.le_of_ble_eq_true rfl) (Nat.le_of_ble_eq_true rfl) (Nat.le_of_ble_eq_true rfl) (by decide +kernel) (Nat.le_of_ble_eq_true rfl) ?_
  intro p e s m args below meth c Q A ls hx hb hml hown hts hK hP hD hS hA hG hl hout hnew hsz0
  have hl : lv_has ls 8 [(0, .ref a_t), (1, .int x1)] := hl
  have K14 : ∀ (c_bag_total : Int32) (c_bag_often : Nat → Int32) (c_work_length : Int32) (c_work_signs : Nat → Int32) (v0 : Int32)  (H : Heap) (locs : List Loc) (ls : Array Slot), va_P D vwCl (wd_X5_bestSwap cI a_t a_row a_work a_rest a_bag a_smooth a_text a_saves a_bag_often a_row_signs a_work_signs c_gone c_bag_total c_bag_often c_row_length c_row_signs c_work_length c_work_signs) H → va_D A (wd_X5_bestSwap cI a_t a_row a_work a_rest a_bag a_smooth a_text a_saves a_bag_often a_row_signs a_work_signs c_gone c_bag_total c_bag_often c_row_length c_row_signs c_work_length c_work_signs) → va_S A s.heap H locs → lv_has ls 8 [(0, .ref a_t), (1, .int x1)] → F_X5_bestSwap_T_J14 c_row_length c_row_signs x1 c_bag_total c_bag_often c_work_length c_work_signs v0 = some o → W p l e rm_X5_bestSwap_T s m args below meth c H locs 0 0 Q (F0 m 14 ls [.int v0]) := by
    intro c_bag_total c_bag_often c_work_length c_work_signs v0 H locs ls hP hD hS hl hF
    unfold F_X5_bestSwap_T_J14 at hF
    rcases opcb hF with ⟨q14, hq14, hF⟩ | hF
    · refine kST (As := [.int v0]) (rest := []) (ws' := (wd_X5_bestSwap cI a_t a_row a_work a_rest a_bag a_smooth a_text a_saves a_bag_often a_row_signs a_work_signs c_gone c_bag_total c_bag_often c_row_length c_row_signs c_work_length c_work_signs)) ⟨hx, hb, hml, hown, hts⟩ (c_X5_need_T l D cI hl0  H.size  v0 q14 hq14) (va_cwS 1 hts mw_X5_112 rfl rfl rfl hd_X5_need ⟨Nat.le_of_ble_eq_true rfl, Nat.le_of_ble_eq_true rfl⟩) hS hA hG hK hP hD [] rfl rfl rfl rfl rfl ⟨Nat.le_of_ble_eq_true rfl, Nat.le_of_ble_eq_true rfl⟩ rfl hl.1 rfl (Nat.le_of_ble_eq_true rfl) dX5_bestSwap_14 (fun H locs q9 ce hP hD hS hce hcv hcl => ?_)
      have ho := Option.some.inj hF
      exact hout H locs ls 14 _ q9 ce q14 _ hP hS (by rw [← ho]) (by rw [← ho]) hce hcv hcl
    · exact nos hF
  unfold F_X5_bestSwap_T at hF
  have hP : va_P D vwCl (wd_X5_bestSwap cI a_t a_row a_work a_rest a_bag a_smooth a_text a_saves a_bag_often a_row_signs a_work_signs c_gone c_bag_total c_bag_often c_row_length c_row_signs c_work_length c_work_signs) s.heap := hP
  obtain ⟨H, hH⟩ : ∃ H, H = s.heap := ⟨_, rfl⟩
  rw [← hH]
  rw [← hH] at hP
  obtain ⟨locs, hlo⟩ : ∃ z : List Loc, z = [] := ⟨_, rfl⟩
  rw [← hlo]
  have hS : va_S A s.heap H locs := by rw [hH, hlo]; exact hS
  refine lv_iload_n hx hb dX5_bestSwap_0 rfl (lv_at hl 1 rfl) ?_
  refine lv_if_lt (tgt := 13) hx hb dX5_bestSwap_1 (by decide) (fun k1 => ?_) (fun k1 => ?_)
  · (try simp only [if_pos k1] at hF)
    refine lv_iconst (v := 0) hx hb dX5_bestSwap_13 (by decide) ?_
    exact K14 c_bag_total c_bag_often c_work_length c_work_signs (0 : Int32) H locs ls hP hD hS (lv_sub hl [0, 1] rfl) hF
  · (try simp only [if_neg k1] at hF)
    refine lv_iload_n hx hb dX5_bestSwap_4 rfl (lv_at hl 1 rfl) ?_
    refine lv_iconst (v := 3) hx hb dX5_bestSwap_5 (by decide) ?_
    refine lv_icmp_ge (tgt := 13) hx hb dX5_bestSwap_6 (by decide) (fun k6 => ?_) (fun k6 => ?_)
    · (try simp only [if_pos k6] at hF)
      refine lv_iconst (v := 0) hx hb dX5_bestSwap_13 (by decide) ?_
      exact K14 c_bag_total c_bag_often c_work_length c_work_signs (0 : Int32) H locs ls hP hD hS (lv_sub hl [0, 1] rfl) hF
    · (try simp only [if_neg k6] at hF)
      refine lv_iconst (v := 1) hx hb dX5_bestSwap_9 (by decide) ?_
      refine lv_goto (tgt := 14) hx hb dX5_bestSwap_10 (by decide) ?_
      exact K14 c_bag_total c_bag_often c_work_length c_work_signs (1 : Int32) H locs ls hP hD hS (lv_sub hl [0, 1] rfl) hF
