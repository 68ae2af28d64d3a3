abbrev wdXO (cI cJ : ClassId) (a_t a_row a_row_signs a_work a_work_signs a_rest a_rest_signs a_bag a_bag_often a_smooth a_smooth_madeFor a_smooth_weight a_smooth_inCell a_smooth_all a_smooth_starting a_text a_text_codes a_saves a_saves_slots a_out : Nat) (X : XS) (O : Nat → Int64) : va_W := wdX cI a_t a_row a_row_signs a_work a_work_signs a_rest a_rest_signs a_bag a_bag_often a_smooth a_smooth_madeFor a_smooth_weight a_smooth_inCell a_smooth_all a_smooth_starting a_text a_text_codes a_saves a_saves_slots X ++ wdO cJ a_out O
theorem mw_L_7 : GoodIn WL (wsV RL 7 RX5 yX5_goTo (Cond.code yX5_goTo cX5_goTo 3 (some .int) :: WL)) := gV_of k3_96 k3_97 k3_98 k1_1 k3_99
def rm_L_goTo : Room := { frames := 7, cells := 0, slots := 0, locals := 155 }
set_option maxHeartbeats 4000000 in
set_option maxRecDepth 100000 in
theorem cL_goTo_N (l : Launch) (D : va_G) (cI cJ : ClassId) (a_t a_row a_row_signs a_work a_work_signs a_rest a_rest_signs a_bag a_bag_often a_smooth a_smooth_madeFor a_smooth_weight a_smooth_inCell a_smooth_all a_smooth_starting a_text a_text_codes a_saves a_saves_slots a_out : Nat) (sz : Nat) (X : XS) (O : Nat → Int64) (x1 : Int32) (r : Int32) (X' : XS) (hF : G_X5_goTo X x1 = some (r, X')) : Met l yL_goTo (Cond.codeWith yL_goTo cL_goTo 4 (some .int) [(0, 9, 12, 13)] :: WL) rm_L_goTo (preM D [(cI, .int), (cJ, .long)] (wdXO cI cJ a_t a_row a_row_signs a_work a_work_signs a_rest a_rest_signs a_bag a_bag_often a_smooth a_smooth_madeFor a_smooth_weight a_smooth_inCell a_smooth_all a_smooth_starting a_text a_text_codes a_saves a_saves_slots a_out X O) sz [.ref a_t, .int x1, .ref a_out]) (postI D 0 (wdXO cI cJ a_t a_row a_row_signs a_work a_work_signs a_rest a_rest_signs a_bag a_bag_often a_smooth a_smooth_madeFor a_smooth_weight a_smooth_inCell a_smooth_all a_smooth_starting a_text a_text_codes a_saves a_saves_slots a_out X' (vp_updL O (0 : Int32).toNatClampNeg (r).toInt64)) (wdXO cI cJ a_t a_row a_row_signs a_work a_work_signs a_rest a_rest_signs a_bag a_bag_often a_smooth a_smooth_madeFor a_smooth_weight a_smooth_inCell a_smooth_all a_smooth_starting a_text a_text_codes a_saves a_saves_slots a_out X O) sz) 0 0 (va_A (wdXO cI cJ a_t a_row a_row_signs a_work a_work_signs a_rest a_rest_signs a_bag a_bag_often a_smooth a_smooth_madeFor a_smooth_weight a_smooth_inCell a_smooth_all a_smooth_starting a_text a_text_codes a_saves a_saves_slots a_out X O) sz) := by
  unfold G_X5_goTo at hF
  obtain ⟨o, ho, he⟩ := Option.map_eq_some_iff.mp hF
  obtain ⟨rfl, rfl⟩ := Prod.mk.inj he
  refine mofWI (by decide +kernel) (Nat.le_of_ble_eq_true rfl) ?_
  intro p e s m args below meth c Q A ls hx hb hml hown hts hK hP hD hS hA hG hl htab hret hsz0
  have hl : lv_has ls 4 [(0, .ref a_t), (1, .int x1), (2, .ref a_out)] := hl
  have hP : va_P D vwCl (wdXO cI cJ a_t a_row a_row_signs a_work a_work_signs a_rest a_rest_signs a_bag a_bag_often a_smooth a_smooth_madeFor a_smooth_weight a_smooth_inCell a_smooth_all a_smooth_starting a_text a_text_codes a_saves a_saves_slots a_out X O) s.heap := hP
  obtain ⟨H, hH⟩ : ∃ H, H = s.heap := ⟨_, rfl⟩
  rw [← hH]
  rw [← hH] at hP
  obtain ⟨locs, hlo⟩ : ∃ z : List Loc, z = [] := ⟨_, rfl⟩
  rw [← hlo]
  have hS : va_S A s.heap H locs := by rw [hH, hlo]; exact hS
  refine lv_aload_n hx hb dL_goTo_0 rfl (lv_at hl 2 rfl) ?_
  refine lv_iconst (v := 0) hx hb dL_goTo_1 (by decide) ?_
  refine lv_aload_n hx hb dL_goTo_2 rfl (lv_at hl 0 rfl) ?_
  refine lv_iload_n hx hb dL_goTo_3 rfl (lv_at hl 1 rfl) ?_
  refine kVI (As := [.int x1]) (rest := [.int (0 : Int32), .ref a_out]) (ws' := (wdXO cI cJ a_t a_row a_row_signs a_work a_work_signs a_rest a_rest_signs a_bag a_bag_often a_smooth a_smooth_madeFor a_smooth_weight a_smooth_inCell a_smooth_all a_smooth_starting a_text a_text_codes a_saves a_saves_slots a_out (o.2.1, o.2.2.2.2.1, o.2.2.2.2.2.1, o.2.2.2.2.2.2.2.2.1, o.2.2.2.2.2.2.2.2.2, X.2.2.2.2.2.1, X.2.2.2.2.2.2.1, o.2.2.1, o.2.2.2.1, X.2.2.2.2.2.2.2.2.2.1, X.2.2.2.2.2.2.2.2.2.2.1, X.2.2.2.2.2.2.2.2.2.2.2.1, X.2.2.2.2.2.2.2.2.2.2.2.2.1, X.2.2.2.2.2.2.2.2.2.2.2.2.2.1, X.2.2.2.2.2.2.2.2.2.2.2.2.2.2.1, X.2.2.2.2.2.2.2.2.2.2.2.2.2.2.2.1, o.2.2.2.2.2.2.1, o.2.2.2.2.2.2.2.1) O)) ⟨hx, hb, hml, hown, hts⟩ (c_X5_goTo l D cI a_t a_row a_work a_rest a_bag a_smooth a_text a_saves a_bag_often a_row_signs a_saves_slots a_work_signs H.size X.1 X.2.2.2.2.2.2.2.1 X.2.2.2.2.2.2.2.2.1 X.2.1 X.2.2.1 X.2.2.2.2.2.2.2.2.2.2.2.2.2.2.2.2.1 X.2.2.2.2.2.2.2.2.2.2.2.2.2.2.2.2.2 X.2.2.2.1 X.2.2.2.2.1 x1 o ho) (cwV 1 hts mw_L_7 rfl rfl rfl hd_X5_goTo ⟨Nat.le_of_ble_eq_true rfl, Nat.le_of_ble_eq_true rfl⟩) hS hA hG (hK.sub [0] rfl) hP hD [0, 7, 8, 1, 2, 17, 18, 3, 4] rfl rfl rfl rfl rfl ⟨Nat.zero_le _, Nat.zero_le _⟩ 5 0 rfl rfl rfl rfl hl.1 rfl (Nat.le_of_ble_eq_true rfl) dL_goTo_4 (fun H locs hP hD hS => ?_)
  refine lv_i2l hx hb dL_goTo_7 rfl ?_
  refine va_last hx hb hK hP hD hS 19 1 rfl rfl (vinb (by decide)) dL_goTo_8 (fun H locs hP hD hS => ?_)
  have hP : va_P D vwCl (wdXO cI cJ a_t a_row a_row_signs a_work a_work_signs a_rest a_rest_signs a_bag a_bag_often a_smooth a_smooth_madeFor a_smooth_weight a_smooth_inCell a_smooth_all a_smooth_starting a_text a_text_codes a_saves a_saves_slots a_out (o.2.1, o.2.2.2.2.1, o.2.2.2.2.2.1, o.2.2.2.2.2.2.2.2.1, o.2.2.2.2.2.2.2.2.2, X.2.2.2.2.2.1, X.2.2.2.2.2.2.1, o.2.2.1, o.2.2.2.1, X.2.2.2.2.2.2.2.2.2.1, X.2.2.2.2.2.2.2.2.2.2.1, X.2.2.2.2.2.2.2.2.2.2.2.1, X.2.2.2.2.2.2.2.2.2.2.2.2.1, X.2.2.2.2.2.2.2.2.2.2.2.2.2.1, X.2.2.2.2.2.2.2.2.2.2.2.2.2.2.1, X.2.2.2.2.2.2.2.2.2.2.2.2.2.2.2.1, o.2.2.2.2.2.2.1, o.2.2.2.2.2.2.2.1) (vp_updL O (0 : Int32).toNatClampNeg (o.1).toInt64)) H := hP
  refine lv_goto (tgt := 15) hx hb dL_goTo_9 (by decide) ?_
  refine lv_iconst (v := 0) hx hb dL_goTo_15 (by decide) ?_
  exact hret H locs ls 16 (0 : Int32) _ hP hS rfl rfl dL_goTo_16
def rm_L_goTo_T : Room := { frames := 9, cells := 1, slots := 6, locals := 155 }
set_option maxHeartbeats 4000000 in
set_option maxRecDepth 100000 in
theorem cL_goTo_T1 (l : Launch) (hl0 : l.stackTraces = false) (D : va_G) (cI cJ : ClassId) (a_t a_row a_row_signs a_work a_work_signs a_rest a_rest_signs a_bag a_bag_often a_smooth a_smooth_madeFor a_smooth_weight a_smooth_inCell a_smooth_all a_smooth_starting a_text a_text_codes a_saves a_saves_slots a_out : Nat) (sz : Nat) (X : XS) (O : Nat → Int64) (x1 : Int32) (X' : XS) (hF : G_X5_goTo_T X x1 = some (1, X')) : Met l yL_goTo (Cond.codeWith yL_goTo cL_goTo 4 (some .int) [(0, 9, 12, 13)] :: WL) rm_L_goTo_T (preM D [(cI, .int), (cJ, .long)] (wdXO cI cJ a_t a_row a_row_signs a_work a_work_signs a_rest a_rest_signs a_bag a_bag_often a_smooth a_smooth_madeFor a_smooth_weight a_smooth_inCell a_smooth_all a_smooth_starting a_text a_text_codes a_saves a_saves_slots a_out X O) sz [.ref a_t, .int x1, .ref a_out]) (postI D 1 (wdXO cI cJ a_t a_row a_row_signs a_work a_work_signs a_rest a_rest_signs a_bag a_bag_often a_smooth a_smooth_madeFor a_smooth_weight a_smooth_inCell a_smooth_all a_smooth_starting a_text a_text_codes a_saves a_saves_slots a_out X' O) (wdXO cI cJ a_t a_row a_row_signs a_work a_work_signs a_rest a_rest_signs a_bag a_bag_often a_smooth a_smooth_madeFor a_smooth_weight a_smooth_inCell a_smooth_all a_smooth_starting a_text a_text_codes a_saves a_saves_slots a_out X O) sz) 1 6 (va_A (wdXO cI cJ a_t a_row a_row_signs a_work a_work_signs a_rest a_rest_signs a_bag a_bag_often a_smooth a_smooth_madeFor a_smooth_weight a_smooth_inCell a_smooth_all a_smooth_starting a_text a_text_codes a_saves a_saves_slots a_out X O) sz) := by
  unfold G_X5_goTo_T at hF
  obtain ⟨o, ho, he⟩ := Option.map_eq_some_iff.mp hF
  obtain ⟨hk9, rfl⟩ := Prod.mk.inj he
  refine mofWI (by decide +kernel) (Nat.le_of_ble_eq_true rfl) ?_
  intro p e s m args below meth c Q A ls hx hb hml hown hts hK hP hD hS hA hG hl htab hret hsz0
  have hl : lv_has ls 4 [(0, .ref a_t), (1, .int x1), (2, .ref a_out)] := hl
  have hP : va_P D vwCl (wdXO cI cJ a_t a_row a_row_signs a_work a_work_signs a_rest a_rest_signs a_bag a_bag_often a_smooth a_smooth_madeFor a_smooth_weight a_smooth_inCell a_smooth_all a_smooth_starting a_text a_text_codes a_saves a_saves_slots a_out X O) s.heap := hP
  obtain ⟨H, hH⟩ : ∃ H, H = s.heap := ⟨_, rfl⟩
  rw [← hH]
  rw [← hH] at hP
  obtain ⟨locs, hlo⟩ : ∃ z : List Loc, z = [] := ⟨_, rfl⟩
  rw [← hlo]
  have hS : va_S A s.heap H locs := by rw [hH, hlo]; exact hS
  refine lv_aload_n hx hb dL_goTo_0 rfl (lv_at hl 2 rfl) ?_
  refine lv_iconst (v := 0) hx hb dL_goTo_1 (by decide) ?_
  refine lv_aload_n hx hb dL_goTo_2 rfl (lv_at hl 0 rfl) ?_
  refine lv_iload_n hx hb dL_goTo_3 rfl (lv_at hl 1 rfl) ?_
  refine kVT (As := [.int x1]) (rest := [.int (0 : Int32), .ref a_out]) (ws' := (wdXO cI cJ a_t a_row a_row_signs a_work a_work_signs a_rest a_rest_signs a_bag a_bag_often a_smooth a_smooth_madeFor a_smooth_weight a_smooth_inCell a_smooth_all a_smooth_starting a_text a_text_codes a_saves a_saves_slots a_out (o.2.1, o.2.2.2.2.1, o.2.2.2.2.2.1, o.2.2.2.2.2.2.2.2.1, o.2.2.2.2.2.2.2.2.2, X.2.2.2.2.2.1, X.2.2.2.2.2.2.1, o.2.2.1, o.2.2.2.1, X.2.2.2.2.2.2.2.2.2.1, X.2.2.2.2.2.2.2.2.2.2.1, X.2.2.2.2.2.2.2.2.2.2.2.1, X.2.2.2.2.2.2.2.2.2.2.2.2.1, X.2.2.2.2.2.2.2.2.2.2.2.2.2.1, X.2.2.2.2.2.2.2.2.2.2.2.2.2.2.1, X.2.2.2.2.2.2.2.2.2.2.2.2.2.2.2.1, o.2.2.2.2.2.2.1, o.2.2.2.2.2.2.2.1) O)) ⟨hx, hb, hml, hown, hts⟩ (c_X5_goTo_T l D cI hl0 a_t a_row a_work a_rest a_bag a_smooth a_text a_saves a_bag_often a_row_signs a_saves_slots a_work_signs H.size X.1 X.2.2.2.2.2.2.2.1 X.2.2.2.2.2.2.2.2.1 X.2.1 X.2.2.1 X.2.2.2.2.2.2.2.2.2.2.2.2.2.2.2.2.1 X.2.2.2.2.2.2.2.2.2.2.2.2.2.2.2.2.2 X.2.2.2.1 X.2.2.2.2.1 x1 o ho) (cwV 1 hts mw_L_7 rfl rfl rfl hd_X5_goTo ⟨Nat.le_of_ble_eq_true rfl, Nat.le_of_ble_eq_true rfl⟩) hS hA hG (hK.sub [0] rfl) hP hD [0, 7, 8, 1, 2, 17, 18, 3, 4] rfl rfl rfl rfl rfl ⟨Nat.le_of_ble_eq_true rfl, Nat.le_of_ble_eq_true rfl⟩ 5 0 rfl rfl rfl rfl hl.1 rfl (Nat.le_of_ble_eq_true rfl) dL_goTo_4 (fun H locs q9 ce hP hD hS hce hcv hcl => ?_)
  rw [show kX o.1 = "java/lang/IllegalArgumentException" by rw [hk9]; rfl] at hcl
  refine vx_catch (name := "java/lang/IllegalArgumentException") hown [] ⟨0, 9, 12, 13⟩ [] (by rw [htab]; rfl) (fun z hz => by cases hz) (by decide) (by decide) (hts _ k3_95) (va_Nw.use rfl (hG.2.2.2.2.1 _ (by decide))) hce hcv hcl ?_
  refine lv_astore_n (lv' := [(3, .ref q9), (0, .ref a_t), (1, .int x1), (2, .ref a_out)]) hx hb dL_goTo_12 rfl hl (by decide) rfl (fun ls hl => ?_)
  refine lv_iconst (v := 1) hx hb dL_goTo_13 (by decide) ?_
  exact hret H locs ls 14 (1 : Int32) _ hP hS rfl rfl dL_goTo_14
theorem mw_L_15 : GoodIn WL (wsV RL 15 RX5 yX5_jump (Cond.code yX5_jump cX5_jump 4 (some .int) :: WL)) := gV_of k3_104 k3_105 k3_106 k1_1 k3_107
def rm_L_jump : Room := { frames := 7, cells := 0, slots := 0, locals := 156 }
set_option maxHeartbeats 4000000 in
set_option maxRecDepth 100000 in
theorem cL_jump_N (l : Launch) (D : va_G) (cI cJ : ClassId) (a_t a_row a_row_signs a_work a_work_signs a_rest a_rest_signs a_bag a_bag_often a_smooth a_smooth_madeFor a_smooth_weight a_smooth_inCell a_smooth_all a_smooth_starting a_text a_text_codes a_saves a_saves_slots a_out : Nat) (sz : Nat) (X : XS) (O : Nat → Int64) (x1 : Int32) (r : Int32) (X' : XS) (hF : G_X5_jump X x1 = some (r, X')) : Met l yL_jump (Cond.codeWith yL_jump cL_jump 4 (some .int) [(0, 9, 12, 18)] :: WL) rm_L_jump (preM D [(cI, .int), (cJ, .long)] (wdXO cI cJ a_t a_row a_row_signs a_work a_work_signs a_rest a_rest_signs a_bag a_bag_often a_smooth a_smooth_madeFor a_smooth_weight a_smooth_inCell a_smooth_all a_smooth_starting a_text a_text_codes a_saves a_saves_slots a_out X O) sz [.ref a_t, .int x1, .ref a_out]) (postI D 0 (wdXO cI cJ a_t a_row a_row_signs a_work a_work_signs a_rest a_rest_signs a_bag a_bag_often a_smooth a_smooth_madeFor a_smooth_weight a_smooth_inCell a_smooth_all a_smooth_starting a_text a_text_codes a_saves a_saves_slots a_out X' (vp_updL O (0 : Int32).toNatClampNeg (r).toInt64)) (wdXO cI cJ a_t a_row a_row_signs a_work a_work_signs a_rest a_rest_signs a_bag a_bag_often a_smooth a_smooth_madeFor a_smooth_weight a_smooth_inCell a_smooth_all a_smooth_starting a_text a_text_codes a_saves a_saves_slots a_out X O) sz) 0 0 (va_A (wdXO cI cJ a_t a_row a_row_signs a_work a_work_signs a_rest a_rest_signs a_bag a_bag_often a_smooth a_smooth_madeFor a_smooth_weight a_smooth_inCell a_smooth_all a_smooth_starting a_text a_text_codes a_saves a_saves_slots a_out X O) sz) := by
  unfold G_X5_jump at hF
  obtain ⟨o, ho, he⟩ := Option.map_eq_some_iff.mp hF
  obtain ⟨rfl, rfl⟩ := Prod.mk.inj he
  refine mofWI (by decide +kernel) (Nat.le_of_ble_eq_true rfl) ?_
  intro p e s m args below meth c Q A ls hx hb hml hown hts hK hP hD hS hA hG hl htab hret hsz0
  have hl : lv_has ls 4 [(0, .ref a_t), (1, .int x1), (2, .ref a_out)] := hl
  have hP : va_P D vwCl (wdXO cI cJ a_t a_row a_row_signs a_work a_work_signs a_rest a_rest_signs a_bag a_bag_often a_smooth a_smooth_madeFor a_smooth_weight a_smooth_inCell a_smooth_all a_smooth_starting a_text a_text_codes a_saves a_saves_slots a_out X O) s.heap := hP
  obtain ⟨H, hH⟩ : ∃ H, H = s.heap := ⟨_, rfl⟩
  rw [← hH]
  rw [← hH] at hP
  obtain ⟨locs, hlo⟩ : ∃ z : List Loc, z = [] := ⟨_, rfl⟩
  rw [← hlo]
  have hS : va_S A s.heap H locs := by rw [hH, hlo]; exact hS
  refine lv_aload_n hx hb dL_jump_0 rfl (lv_at hl 2 rfl) ?_
  refine lv_iconst (v := 0) hx hb dL_jump_1 (by decide) ?_
  refine lv_aload_n hx hb dL_jump_2 rfl (lv_at hl 0 rfl) ?_
  refine lv_iload_n hx hb dL_jump_3 rfl (lv_at hl 1 rfl) ?_
  refine kVI (As := [.int x1]) (rest := [.int (0 : Int32), .ref a_out]) (ws' := (wdXO cI cJ a_t a_row a_row_signs a_work a_work_signs a_rest a_rest_signs a_bag a_bag_often a_smooth a_smooth_madeFor a_smooth_weight a_smooth_inCell a_smooth_all a_smooth_starting a_text a_text_codes a_saves a_saves_slots a_out (o.2.1, o.2.2.2.2.1, o.2.2.2.2.2.1, o.2.2.2.2.2.2.2.2.1, o.2.2.2.2.2.2.2.2.2, X.2.2.2.2.2.1, X.2.2.2.2.2.2.1, o.2.2.1, o.2.2.2.1, X.2.2.2.2.2.2.2.2.2.1, X.2.2.2.2.2.2.2.2.2.2.1, X.2.2.2.2.2.2.2.2.2.2.2.1, X.2.2.2.2.2.2.2.2.2.2.2.2.1, X.2.2.2.2.2.2.2.2.2.2.2.2.2.1, X.2.2.2.2.2.2.2.2.2.2.2.2.2.2.1, X.2.2.2.2.2.2.2.2.2.2.2.2.2.2.2.1, o.2.2.2.2.2.2.1, o.2.2.2.2.2.2.2.1) O)) ⟨hx, hb, hml, hown, hts⟩ (c_X5_jump l D cI a_t a_row a_work a_rest a_bag a_smooth a_text a_saves a_bag_often a_row_signs a_saves_slots a_work_signs H.size X.1 X.2.2.2.2.2.2.2.1 X.2.2.2.2.2.2.2.2.1 X.2.1 X.2.2.1 X.2.2.2.2.2.2.2.2.2.2.2.2.2.2.2.2.1 X.2.2.2.2.2.2.2.2.2.2.2.2.2.2.2.2.2 X.2.2.2.1 X.2.2.2.2.1 x1 o ho) (cwV 1 hts mw_L_15 rfl rfl rfl hd_X5_jump ⟨Nat.le_of_ble_eq_true rfl, Nat.le_of_ble_eq_true rfl⟩) hS hA hG (hK.sub [0] rfl) hP hD [0, 7, 8, 1, 2, 17, 18, 3, 4] rfl rfl rfl rfl rfl ⟨Nat.zero_le _, Nat.zero_le _⟩ 5 0 rfl rfl rfl rfl hl.1 rfl (Nat.le_of_ble_eq_true rfl) dL_jump_4 (fun H locs hP hD hS => ?_)
  refine lv_i2l hx hb dL_jump_7 rfl ?_
  refine va_last hx hb hK hP hD hS 19 1 rfl rfl (vinb (by decide)) dL_jump_8 (fun H locs hP hD hS => ?_)
  have hP : va_P D vwCl (wdXO cI cJ a_t a_row a_row_signs a_work a_work_signs a_rest a_rest_signs a_bag a_bag_often a_smooth a_smooth_madeFor a_smooth_weight a_smooth_inCell a_smooth_all a_smooth_starting a_text a_text_codes a_saves a_saves_slots a_out (o.2.1, o.2.2.2.2.1, o.2.2.2.2.2.1, o.2.2.2.2.2.2.2.2.1, o.2.2.2.2.2.2.2.2.2, X.2.2.2.2.2.1, X.2.2.2.2.2.2.1, o.2.2.1, o.2.2.2.1, X.2.2.2.2.2.2.2.2.2.1, X.2.2.2.2.2.2.2.2.2.2.1, X.2.2.2.2.2.2.2.2.2.2.2.1, X.2.2.2.2.2.2.2.2.2.2.2.2.1, X.2.2.2.2.2.2.2.2.2.2.2.2.2.1, X.2.2.2.2.2.2.2.2.2.2.2.2.2.2.1, X.2.2.2.2.2.2.2.2.2.2.2.2.2.2.2.1, o.2.2.2.2.2.2.1, o.2.2.2.2.2.2.2.1) (vp_updL O (0 : Int32).toNatClampNeg (o.1).toInt64)) H := hP
  refine lv_goto (tgt := 15) hx hb dL_jump_9 (by decide) ?_
  refine lv_iconst (v := 0) hx hb dL_jump_15 (by decide) ?_
  exact hret H locs ls 16 (0 : Int32) _ hP hS rfl rfl dL_jump_16
def rm_L_jump_T : Room := { frames := 7, cells := 1, slots := 6, locals := 156 }
set_option maxHeartbeats 4000000 in
set_option maxRecDepth 100000 in
theorem cL_jump_T2 (l : Launch) (hl0 : l.stackTraces = false) (D : va_G) (cI cJ : ClassId) (a_t a_row a_row_signs a_work a_work_signs a_rest a_rest_signs a_bag a_bag_often a_smooth a_smooth_madeFor a_smooth_weight a_smooth_inCell a_smooth_all a_smooth_starting a_text a_text_codes a_saves a_saves_slots a_out : Nat) (sz : Nat) (X : XS) (O : Nat → Int64) (x1 : Int32) (X' : XS) (hF : G_X5_jump_T X x1 = some (2, X')) : Met l yL_jump (Cond.codeWith yL_jump cL_jump 4 (some .int) [(0, 9, 12, 18)] :: WL) rm_L_jump_T (preM D [(cI, .int), (cJ, .long)] (wdXO cI cJ a_t a_row a_row_signs a_work a_work_signs a_rest a_rest_signs a_bag a_bag_often a_smooth a_smooth_madeFor a_smooth_weight a_smooth_inCell a_smooth_all a_smooth_starting a_text a_text_codes a_saves a_saves_slots a_out X O) sz [.ref a_t, .int x1, .ref a_out]) (postI D 1 (wdXO cI cJ a_t a_row a_row_signs a_work a_work_signs a_rest a_rest_signs a_bag a_bag_often a_smooth a_smooth_madeFor a_smooth_weight a_smooth_inCell a_smooth_all a_smooth_starting a_text a_text_codes a_saves a_saves_slots a_out X' O) (wdXO cI cJ a_t a_row a_row_signs a_work a_work_signs a_rest a_rest_signs a_bag a_bag_often a_smooth a_smooth_madeFor a_smooth_weight a_smooth_inCell a_smooth_all a_smooth_starting a_text a_text_codes a_saves a_saves_slots a_out X O) sz) 1 6 (va_A (wdXO cI cJ a_t a_row a_row_signs a_work a_work_signs a_rest a_rest_signs a_bag a_bag_often a_smooth a_smooth_madeFor a_smooth_weight a_smooth_inCell a_smooth_all a_smooth_starting a_text a_text_codes a_saves a_saves_slots a_out X O) sz) := by
  unfold G_X5_jump_T at hF
  obtain ⟨o, ho, he⟩ := Option.map_eq_some_iff.mp hF
  obtain ⟨hk9, rfl⟩ := Prod.mk.inj he
  refine mofWI (by decide +kernel) (Nat.le_of_ble_eq_true rfl) ?_
  intro p e s m args below meth c Q A ls hx hb hml hown hts hK hP hD hS hA hG hl htab hret hsz0
  have hl : lv_has ls 4 [(0, .ref a_t), (1, .int x1), (2, .ref a_out)] := hl
  have hP : va_P D vwCl (wdXO cI cJ a_t a_row a_row_signs a_work a_work_signs a_rest a_rest_signs a_bag a_bag_often a_smooth a_smooth_madeFor a_smooth_weight a_smooth_inCell a_smooth_all a_smooth_starting a_text a_text_codes a_saves a_saves_slots a_out X O) s.heap := hP
  obtain ⟨H, hH⟩ : ∃ H, H = s.heap := ⟨_, rfl⟩
  rw [← hH]
  rw [← hH] at hP
  obtain ⟨locs, hlo⟩ : ∃ z : List Loc, z = [] := ⟨_, rfl⟩
  rw [← hlo]
  have hS : va_S A s.heap H locs := by rw [hH, hlo]; exact hS
  refine lv_aload_n hx hb dL_jump_0 rfl (lv_at hl 2 rfl) ?_
  refine lv_iconst (v := 0) hx hb dL_jump_1 (by decide) ?_
  refine lv_aload_n hx hb dL_jump_2 rfl (lv_at hl 0 rfl) ?_
  refine lv_iload_n hx hb dL_jump_3 rfl (lv_at hl 1 rfl) ?_
  refine kVT (As := [.int x1]) (rest := [.int (0 : Int32), .ref a_out]) (ws' := (wdXO cI cJ a_t a_row a_row_signs a_work a_work_signs a_rest a_rest_signs a_bag a_bag_often a_smooth a_smooth_madeFor a_smooth_weight a_smooth_inCell a_smooth_all a_smooth_starting a_text a_text_codes a_saves a_saves_slots a_out (o.2.1, o.2.2.2.2.1, o.2.2.2.2.2.1, o.2.2.2.2.2.2.2.2.1, o.2.2.2.2.2.2.2.2.2, X.2.2.2.2.2.1, X.2.2.2.2.2.2.1, o.2.2.1, o.2.2.2.1, X.2.2.2.2.2.2.2.2.2.1, X.2.2.2.2.2.2.2.2.2.2.1, X.2.2.2.2.2.2.2.2.2.2.2.1, X.2.2.2.2.2.2.2.2.2.2.2.2.1, X.2.2.2.2.2.2.2.2.2.2.2.2.2.1, X.2.2.2.2.2.2.2.2.2.2.2.2.2.2.1, X.2.2.2.2.2.2.2.2.2.2.2.2.2.2.2.1, o.2.2.2.2.2.2.1, o.2.2.2.2.2.2.2.1) O)) ⟨hx, hb, hml, hown, hts⟩ (c_X5_jump_T l D cI hl0 a_t a_row a_work a_rest a_bag a_smooth a_text a_saves a_bag_often a_row_signs a_saves_slots a_work_signs H.size X.1 X.2.2.2.2.2.2.2.1 X.2.2.2.2.2.2.2.2.1 X.2.1 X.2.2.1 X.2.2.2.2.2.2.2.2.2.2.2.2.2.2.2.2.1 X.2.2.2.2.2.2.2.2.2.2.2.2.2.2.2.2.2 X.2.2.2.1 X.2.2.2.2.1 x1 o ho) (cwV 1 hts mw_L_15 rfl rfl rfl hd_X5_jump ⟨Nat.le_of_ble_eq_true rfl, Nat.le_of_ble_eq_true rfl⟩) hS hA hG (hK.sub [0] rfl) hP hD [0, 7, 8, 1, 2, 17, 18, 3, 4] rfl rfl rfl rfl rfl ⟨Nat.le_of_ble_eq_true rfl, Nat.le_of_ble_eq_true rfl⟩ 5 0 rfl rfl rfl rfl hl.1 rfl (Nat.le_of_ble_eq_true rfl) dL_jump_4 (fun H locs q9 ce hP hD hS hce hcv hcl => ?_)
  rw [show kX o.1 = "java/lang/IllegalStateException" by rw [hk9]; rfl] at hcl
  refine vx_catch (name := "java/lang/IllegalStateException") hown [] ⟨0, 9, 12, 18⟩ [] (by rw [htab]; rfl) (fun z hz => by cases hz) (by decide) (by decide) (hts _ k3_103) (va_Nw.use rfl (hG.2.2.2.2.1 _ (by decide))) hce hcv hcl ?_
  refine lv_astore_n (lv' := [(3, .ref q9), (0, .ref a_t), (1, .int x1), (2, .ref a_out)]) hx hb dL_jump_12 rfl hl (by decide) rfl (fun ls hl => ?_)
  refine lv_iconst (v := 1) hx hb dL_jump_13 (by decide) ?_
  exact hret H locs ls 14 (1 : Int32) _ hP hS rfl rfl dL_jump_14
theorem mw_L_20 : GoodIn WL (wsV RL 20 RX5 yX5_nextSmooth (Cond.code yX5_nextSmooth cX5_nextSmooth 2 (some .int) :: WL)) := gV_of k3_127 k3_128 k3_129 k1_1 k3_130
def rm_L_nextSmooth : Room := { frames := 7, cells := 0, slots := 0, locals := 154 }
set_option maxHeartbeats 4000000 in
set_option maxRecDepth 100000 in
theorem cL_nextSmooth_N (l : Launch) (D : va_G) (cI cJ : ClassId) (a_t a_row a_row_signs a_work a_work_signs a_rest a_rest_signs a_bag a_bag_often a_smooth a_smooth_madeFor a_smooth_weight a_smooth_inCell a_smooth_all a_smooth_starting a_text a_text_codes a_saves a_saves_slots a_out : Nat) (sz : Nat) (X : XS) (O : Nat → Int64) (r : Int32) (X' : XS) (hF : G_X5_nextSmooth X  = some (r, X')) : Met l yL_nextSmooth (Cond.codeWith yL_nextSmooth cL_nextSmooth 3 (some .int) [(0, 8, 11, 18)] :: WL) rm_L_nextSmooth (preM D [(cI, .int), (cJ, .long)] (wdXO cI cJ a_t a_row a_row_signs a_work a_work_signs a_rest a_rest_signs a_bag a_bag_often a_smooth a_smooth_madeFor a_smooth_weight a_smooth_inCell a_smooth_all a_smooth_starting a_text a_text_codes a_saves a_saves_slots a_out X O) sz [.ref a_t, .ref a_out]) (postI D 0 (wdXO cI cJ a_t a_row a_row_signs a_work a_work_signs a_rest a_rest_signs a_bag a_bag_often a_smooth a_smooth_madeFor a_smooth_weight a_smooth_inCell a_smooth_all a_smooth_starting a_text a_text_codes a_saves a_saves_slots a_out X' (vp_updL O (0 : Int32).toNatClampNeg (r).toInt64)) (wdXO cI cJ a_t a_row a_row_signs a_work a_work_signs a_rest a_rest_signs a_bag a_bag_often a_smooth a_smooth_madeFor a_smooth_weight a_smooth_inCell a_smooth_all a_smooth_starting a_text a_text_codes a_saves a_saves_slots a_out X O) sz) 0 0 (va_A (wdXO cI cJ a_t a_row a_row_signs a_work a_work_signs a_rest a_rest_signs a_bag a_bag_often a_smooth a_smooth_madeFor a_smooth_weight a_smooth_inCell a_smooth_all a_smooth_starting a_text a_text_codes a_saves a_saves_slots a_out X O) sz) := by
  unfold G_X5_nextSmooth at hF
  obtain ⟨o, ho, he⟩ := Option.map_eq_some_iff.mp hF
  obtain ⟨rfl, rfl⟩ := Prod.mk.inj he
  refine mofWI (by decide +kernel) (Nat.le_of_ble_eq_true rfl) ?_
  intro p e s m args below meth c Q A ls hx hb hml hown hts hK hP hD hS hA hG hl htab hret hsz0
  have hl : lv_has ls 3 [(0, .ref a_t), (1, .ref a_out)] := hl
  have hP : va_P D vwCl (wdXO cI cJ a_t a_row a_row_signs a_work a_work_signs a_rest a_rest_signs a_bag a_bag_often a_smooth a_smooth_madeFor a_smooth_weight a_smooth_inCell a_smooth_all a_smooth_starting a_text a_text_codes a_saves a_saves_slots a_out X O) s.heap := hP
  obtain ⟨H, hH⟩ : ∃ H, H = s.heap := ⟨_, rfl⟩
  rw [← hH]
  rw [← hH] at hP
  obtain ⟨locs, hlo⟩ : ∃ z : List Loc, z = [] := ⟨_, rfl⟩
  rw [← hlo]
  have hS : va_S A s.heap H locs := by rw [hH, hlo]; exact hS
  refine lv_aload_n hx hb dL_nextSmooth_0 rfl (lv_at hl 1 rfl) ?_
  refine lv_iconst (v := 0) hx hb dL_nextSmooth_1 (by decide) ?_
  refine lv_aload_n hx hb dL_nextSmooth_2 rfl (lv_at hl 0 rfl) ?_
  refine kVI (As := []) (rest := [.int (0 : Int32), .ref a_out]) (ws' := (wdXO cI cJ a_t a_row a_row_signs a_work a_work_signs a_rest a_rest_signs a_bag a_bag_often a_smooth a_smooth_madeFor a_smooth_weight a_smooth_inCell a_smooth_all a_smooth_starting a_text a_text_codes a_saves a_saves_slots a_out (o.2.1, o.2.2.2.2.1, o.2.2.2.2.2.1, o.2.2.2.2.2.2.2.2.2.2.2.2.2.1, o.2.2.2.2.2.2.2.2.2.2.2.2.2.2, X.2.2.2.2.2.1, X.2.2.2.2.2.2.1, o.2.2.1, o.2.2.2.1, o.2.2.2.2.2.2.2.2.2.2.1, o.2.2.2.2.2.2.2.2.2.2.2.2.1, o.2.2.2.2.2.2.2.2.2.1, o.2.2.2.2.2.2.2.2.1, o.2.2.2.2.2.2.2.2.2.2.2.1, X.2.2.2.2.2.2.2.2.2.2.2.2.2.2.1, X.2.2.2.2.2.2.2.2.2.2.2.2.2.2.2.1, o.2.2.2.2.2.2.1, o.2.2.2.2.2.2.2.1) O)) ⟨hx, hb, hml, hown, hts⟩ (c_X5_nextSmooth l D cI a_t a_row a_work a_rest a_bag a_smooth a_text a_saves a_bag_often a_row_signs a_saves_slots a_smooth_madeFor a_smooth_weight a_smooth_inCell a_smooth_all a_smooth_starting a_work_signs H.size X.1 X.2.2.2.2.2.2.2.1 X.2.2.2.2.2.2.2.2.1 X.2.1 X.2.2.1 X.2.2.2.2.2.2.2.2.2.2.2.2.2.2.2.2.1 X.2.2.2.2.2.2.2.2.2.2.2.2.2.2.2.2.2 X.2.2.2.2.2.2.2.2.2.2.2.2.1 X.2.2.2.2.2.2.2.2.2.2.2.1 X.2.2.2.2.2.2.2.2.2.1 X.2.2.2.2.2.2.2.2.2.2.2.2.2.1 X.2.2.2.2.2.2.2.2.2.2.1 X.2.2.2.1 X.2.2.2.2.1  o ho) (cwV 0 hts mw_L_20 rfl rfl rfl hd_X5_nextSmooth ⟨Nat.le_of_ble_eq_true rfl, Nat.le_of_ble_eq_true rfl⟩) hS hA hG (hK.sub [0] rfl) hP hD [0, 7, 8, 1, 2, 17, 18, 9, 13, 12, 10, 14, 11, 3, 4] rfl rfl rfl rfl rfl ⟨Nat.zero_le _, Nat.zero_le _⟩ 5 0 rfl rfl rfl rfl hl.1 rfl (Nat.le_of_ble_eq_true rfl) dL_nextSmooth_3 (fun H locs hP hD hS => ?_)
  refine lv_i2l hx hb dL_nextSmooth_6 rfl ?_
  refine va_last hx hb hK hP hD hS 19 1 rfl rfl (vinb (by decide)) dL_nextSmooth_7 (fun H locs hP hD hS => ?_)
  have hP : va_P D vwCl (wdXO cI cJ a_t a_row a_row_signs a_work a_work_signs a_rest a_rest_signs a_bag a_bag_often a_smooth a_smooth_madeFor a_smooth_weight a_smooth_inCell a_smooth_all a_smooth_starting a_text a_text_codes a_saves a_saves_slots a_out (o.2.1, o.2.2.2.2.1, o.2.2.2.2.2.1, o.2.2.2.2.2.2.2.2.2.2.2.2.2.1, o.2.2.2.2.2.2.2.2.2.2.2.2.2.2, X.2.2.2.2.2.1, X.2.2.2.2.2.2.1, o.2.2.1, o.2.2.2.1, o.2.2.2.2.2.2.2.2.2.2.1, o.2.2.2.2.2.2.2.2.2.2.2.2.1, o.2.2.2.2.2.2.2.2.2.1, o.2.2.2.2.2.2.2.2.1, o.2.2.2.2.2.2.2.2.2.2.2.1, X.2.2.2.2.2.2.2.2.2.2.2.2.2.2.1, X.2.2.2.2.2.2.2.2.2.2.2.2.2.2.2.1, o.2.2.2.2.2.2.1, o.2.2.2.2.2.2.2.1) (vp_updL O (0 : Int32).toNatClampNeg (o.1).toInt64)) H := hP
  refine lv_goto (tgt := 14) hx hb dL_nextSmooth_8 (by decide) ?_
  refine lv_iconst (v := 0) hx hb dL_nextSmooth_14 (by decide) ?_
  exact hret H locs ls 15 (0 : Int32) _ hP hS rfl rfl dL_nextSmooth_15
def rm_L_nextSmooth_T : Room := { frames := 7, cells := 1, slots := 6, locals := 154 }
set_option maxHeartbeats 4000000 in
set_option maxRecDepth 100000 in
theorem cL_nextSmooth_T2 (l : Launch) (hl0 : l.stackTraces = false) (D : va_G) (cI cJ : ClassId) (a_t a_row a_row_signs a_work a_work_signs a_rest a_rest_signs a_bag a_bag_often a_smooth a_smooth_madeFor a_smooth_weight a_smooth_inCell a_smooth_all a_smooth_starting a_text a_text_codes a_saves a_saves_slots a_out : Nat) (sz : Nat) (X : XS) (O : Nat → Int64) (X' : XS) (hF : G_X5_nextSmooth_T X  = some (2, X')) : Met l yL_nextSmooth (Cond.codeWith yL_nextSmooth cL_nextSmooth 3 (some .int) [(0, 8, 11, 18)] :: WL) rm_L_nextSmooth_T (preM D [(cI, .int), (cJ, .long)] (wdXO cI cJ a_t a_row a_row_signs a_work a_work_signs a_rest a_rest_signs a_bag a_bag_often a_smooth a_smooth_madeFor a_smooth_weight a_smooth_inCell a_smooth_all a_smooth_starting a_text a_text_codes a_saves a_saves_slots a_out X O) sz [.ref a_t, .ref a_out]) (postI D 1 (wdXO cI cJ a_t a_row a_row_signs a_work a_work_signs a_rest a_rest_signs a_bag a_bag_often a_smooth a_smooth_madeFor a_smooth_weight a_smooth_inCell a_smooth_all a_smooth_starting a_text a_text_codes a_saves a_saves_slots a_out X' O) (wdXO cI cJ a_t a_row a_row_signs a_work a_work_signs a_rest a_rest_signs a_bag a_bag_often a_smooth a_smooth_madeFor a_smooth_weight a_smooth_inCell a_smooth_all a_smooth_starting a_text a_text_codes a_saves a_saves_slots a_out X O) sz) 1 6 (va_A (wdXO cI cJ a_t a_row a_row_signs a_work a_work_signs a_rest a_rest_signs a_bag a_bag_often a_smooth a_smooth_madeFor a_smooth_weight a_smooth_inCell a_smooth_all a_smooth_starting a_text a_text_codes a_saves a_saves_slots a_out X O) sz) := by
  unfold G_X5_nextSmooth_T at hF
  obtain ⟨o, ho, he⟩ := Option.map_eq_some_iff.mp hF
  obtain ⟨hk9, rfl⟩ := Prod.mk.inj he
  refine mofWI (by decide +kernel) (Nat.le_of_ble_eq_true rfl) ?_
  intro p e s m args below meth c Q A ls hx hb hml hown hts hK hP hD hS hA hG hl htab hret hsz0
  have hl : lv_has ls 3 [(0, .ref a_t), (1, .ref a_out)] := hl
  have hP : va_P D vwCl (wdXO cI cJ a_t a_row a_row_signs a_work a_work_signs a_rest a_rest_signs a_bag a_bag_often a_smooth a_smooth_madeFor a_smooth_weight a_smooth_inCell a_smooth_all a_smooth_starting a_text a_text_codes a_saves a_saves_slots a_out X O) s.heap := hP
  obtain ⟨H, hH⟩ : ∃ H, H = s.heap := ⟨_, rfl⟩
  rw [← hH]
  rw [← hH] at hP
  obtain ⟨locs, hlo⟩ : ∃ z : List Loc, z = [] := ⟨_, rfl⟩
  rw [← hlo]
  have hS : va_S A s.heap H locs := by rw [hH, hlo]; exact hS
  refine lv_aload_n hx hb dL_nextSmooth_0 rfl (lv_at hl 1 rfl) ?_
  refine lv_iconst (v := 0) hx hb dL_nextSmooth_1 (by decide) ?_
  refine lv_aload_n hx hb dL_nextSmooth_2 rfl (lv_at hl 0 rfl) ?_
  refine kVT (As := []) (rest := [.int (0 : Int32), .ref a_out]) (ws' := (wdXO cI cJ a_t a_row a_row_signs a_work a_work_signs a_rest a_rest_signs a_bag a_bag_often a_smooth a_smooth_madeFor a_smooth_weight a_smooth_inCell a_smooth_all a_smooth_starting a_text a_text_codes a_saves a_saves_slots a_out (o.2.1, o.2.2.2.2.1, o.2.2.2.2.2.1, o.2.2.2.2.2.2.2.2.2.2.2.2.2.1, o.2.2.2.2.2.2.2.2.2.2.2.2.2.2, X.2.2.2.2.2.1, X.2.2.2.2.2.2.1, o.2.2.1, o.2.2.2.1, o.2.2.2.2.2.2.2.2.2.2.1, o.2.2.2.2.2.2.2.2.2.2.2.2.1, o.2.2.2.2.2.2.2.2.2.1, o.2.2.2.2.2.2.2.2.1, o.2.2.2.2.2.2.2.2.2.2.2.1, X.2.2.2.2.2.2.2.2.2.2.2.2.2.2.1, X.2.2.2.2.2.2.2.2.2.2.2.2.2.2.2.1, o.2.2.2.2.2.2.1, o.2.2.2.2.2.2.2.1) O)) ⟨hx, hb, hml, hown, hts⟩ (c_X5_nextSmooth_T l D cI hl0 a_t a_row a_work a_rest a_bag a_smooth a_text a_saves a_bag_often a_row_signs a_saves_slots a_smooth_madeFor a_smooth_weight a_smooth_inCell a_smooth_all a_smooth_starting a_work_signs H.size X.1 X.2.2.2.2.2.2.2.1 X.2.2.2.2.2.2.2.2.1 X.2.1 X.2.2.1 X.2.2.2.2.2.2.2.2.2.2.2.2.2.2.2.2.1 X.2.2.2.2.2.2.2.2.2.2.2.2.2.2.2.2.2 X.2.2.2.2.2.2.2.2.2.2.2.2.1 X.2.2.2.2.2.2.2.2.2.2.2.1 X.2.2.2.2.2.2.2.2.2.1 X.2.2.2.2.2.2.2.2.2.2.2.2.2.1 X.2.2.2.2.2.2.2.2.2.2.1 X.2.2.2.1 X.2.2.2.2.1  o ho) (cwV 0 hts mw_L_20 rfl rfl rfl hd_X5_nextSmooth ⟨Nat.le_of_ble_eq_true rfl, Nat.le_of_ble_eq_true rfl⟩) hS hA hG (hK.sub [0] rfl) hP hD [0, 7, 8, 1, 2, 17, 18, 9, 13, 12, 10, 14, 11, 3, 4] rfl rfl rfl rfl rfl ⟨Nat.le_of_ble_eq_true rfl, Nat.le_of_ble_eq_true rfl⟩ 5 0 rfl rfl rfl rfl hl.1 rfl (Nat.le_of_ble_eq_true rfl) dL_nextSmooth_3 (fun H locs q9 ce hP hD hS hce hcv hcl => ?_)
  rw [show kX o.1 = "java/lang/IllegalStateException" by rw [hk9]; rfl] at hcl
  refine vx_catch (name := "java/lang/IllegalStateException") hown [] ⟨0, 8, 11, 18⟩ [] (by rw [htab]; rfl) (fun z hz => by cases hz) (by decide) (by decide) (hts _ k3_103) (va_Nw.use rfl (hG.2.2.2.2.1 _ (by decide))) hce hcv hcl ?_
  refine lv_astore_n (lv' := [(2, .ref q9), (0, .ref a_t), (1, .ref a_out)]) hx hb dL_nextSmooth_11 rfl hl (by decide) rfl (fun ls hl => ?_)
  refine lv_iconst (v := 1) hx hb dL_nextSmooth_12 (by decide) ?_
  exact hret H locs ls 13 (1 : Int32) _ hP hS rfl rfl dL_nextSmooth_13
theorem mw_L_24 : GoodIn WL (wsV RL 24 RX5 yX5_goToSmooth (Cond.code yX5_goToSmooth cX5_goToSmooth 2 (some .int) :: WL)) := gV_of k3_139 k3_140 k3_141 k1_1 k3_142
def rm_L_goToSmooth : Room := { frames := 7, cells := 0, slots := 0, locals := 154 }
set_option maxHeartbeats 4000000 in
set_option maxRecDepth 100000 in
theorem cL_goToSmooth_N (l : Launch) (D : va_G) (cI cJ : ClassId) (a_t a_row a_row_signs a_work a_work_signs a_rest a_rest_signs a_bag a_bag_often a_smooth a_smooth_madeFor a_smooth_weight a_smooth_inCell a_smooth_all a_smooth_starting a_text a_text_codes a_saves a_saves_slots a_out : Nat) (sz : Nat) (X : XS) (O : Nat → Int64) (x1 : Int32) (r : Int32) (X' : XS) (hF : G_X5_goToSmooth X x1 = some (r, X')) : Met l yL_goToSmooth (Cond.codeWith yL_goToSmooth cL_goToSmooth 4 (some .int) [(0, 9, 12, 13)] :: WL) rm_L_goToSmooth (preM D [(cI, .int), (cJ, .long)] (wdXO cI cJ a_t a_row a_row_signs a_work a_work_signs a_rest a_rest_signs a_bag a_bag_often a_smooth a_smooth_madeFor a_smooth_weight a_smooth_inCell a_smooth_all a_smooth_starting a_text a_text_codes a_saves a_saves_slots a_out X O) sz [.ref a_t, .int x1, .ref a_out]) (postI D 0 (wdXO cI cJ a_t a_row a_row_signs a_work a_work_signs a_rest a_rest_signs a_bag a_bag_often a_smooth a_smooth_madeFor a_smooth_weight a_smooth_inCell a_smooth_all a_smooth_starting a_text a_text_codes a_saves a_saves_slots a_out X' (vp_updL O (0 : Int32).toNatClampNeg (r).toInt64)) (wdXO cI cJ a_t a_row a_row_signs a_work a_work_signs a_rest a_rest_signs a_bag a_bag_often a_smooth a_smooth_madeFor a_smooth_weight a_smooth_inCell a_smooth_all a_smooth_starting a_text a_text_codes a_saves a_saves_slots a_out X O) sz) 0 0 (va_A (wdXO cI cJ a_t a_row a_row_signs a_work a_work_signs a_rest a_rest_signs a_bag a_bag_often a_smooth a_smooth_madeFor a_smooth_weight a_smooth_inCell a_smooth_all a_smooth_starting a_text a_text_codes a_saves a_saves_slots a_out X O) sz) := by
  unfold G_X5_goToSmooth at hF
  obtain ⟨o, ho, he⟩ := Option.map_eq_some_iff.mp hF
  obtain ⟨rfl, rfl⟩ := Prod.mk.inj he
  refine mofWI (by decide +kernel) (Nat.le_of_ble_eq_true rfl) ?_
  intro p e s m args below meth c Q A ls hx hb hml hown hts hK hP hD hS hA hG hl htab hret hsz0
  have hl : lv_has ls 4 [(0, .ref a_t), (1, .int x1), (2, .ref a_out)] := hl
  have hP : va_P D vwCl (wdXO cI cJ a_t a_row a_row_signs a_work a_work_signs a_rest a_rest_signs a_bag a_bag_often a_smooth a_smooth_madeFor a_smooth_weight a_smooth_inCell a_smooth_all a_smooth_starting a_text a_text_codes a_saves a_saves_slots a_out X O) s.heap := hP
  obtain ⟨H, hH⟩ : ∃ H, H = s.heap := ⟨_, rfl⟩
  rw [← hH]
  rw [← hH] at hP
  obtain ⟨locs, hlo⟩ : ∃ z : List Loc, z = [] := ⟨_, rfl⟩
  rw [← hlo]
  have hS : va_S A s.heap H locs := by rw [hH, hlo]; exact hS
  refine lv_aload_n hx hb dL_goToSmooth_0 rfl (lv_at hl 2 rfl) ?_
  refine lv_iconst (v := 0) hx hb dL_goToSmooth_1 (by decide) ?_
  refine lv_aload_n hx hb dL_goToSmooth_2 rfl (lv_at hl 0 rfl) ?_
  refine lv_iload_n hx hb dL_goToSmooth_3 rfl (lv_at hl 1 rfl) ?_
  refine kVI (As := [.int x1]) (rest := [.int (0 : Int32), .ref a_out]) (ws' := (wdXO cI cJ a_t a_row a_row_signs a_work a_work_signs a_rest a_rest_signs a_bag a_bag_often a_smooth a_smooth_madeFor a_smooth_weight a_smooth_inCell a_smooth_all a_smooth_starting a_text a_text_codes a_saves a_saves_slots a_out (o.2.1, o.2.2.2.2.1, o.2.2.2.2.2.1, o.2.2.2.2.2.2.2.2.2.2.2.2.2.1, o.2.2.2.2.2.2.2.2.2.2.2.2.2.2, X.2.2.2.2.2.1, X.2.2.2.2.2.2.1, o.2.2.1, o.2.2.2.1, o.2.2.2.2.2.2.2.2.2.2.1, o.2.2.2.2.2.2.2.2.2.2.2.2.1, o.2.2.2.2.2.2.2.2.2.1, o.2.2.2.2.2.2.2.2.1, o.2.2.2.2.2.2.2.2.2.2.2.1, X.2.2.2.2.2.2.2.2.2.2.2.2.2.2.1, X.2.2.2.2.2.2.2.2.2.2.2.2.2.2.2.1, o.2.2.2.2.2.2.1, o.2.2.2.2.2.2.2.1) O)) ⟨hx, hb, hml, hown, hts⟩ (c_X5_goToSmooth l D cI a_t a_row a_work a_rest a_bag a_smooth a_text a_saves a_bag_often a_row_signs a_saves_slots a_smooth_madeFor a_smooth_weight a_smooth_inCell a_smooth_all a_smooth_starting a_work_signs H.size X.1 X.2.2.2.2.2.2.2.1 X.2.2.2.2.2.2.2.2.1 X.2.1 X.2.2.1 X.2.2.2.2.2.2.2.2.2.2.2.2.2.2.2.2.1 X.2.2.2.2.2.2.2.2.2.2.2.2.2.2.2.2.2 X.2.2.2.2.2.2.2.2.2.2.2.2.1 X.2.2.2.2.2.2.2.2.2.2.2.1 X.2.2.2.2.2.2.2.2.2.1 X.2.2.2.2.2.2.2.2.2.2.2.2.2.1 X.2.2.2.2.2.2.2.2.2.2.1 X.2.2.2.1 X.2.2.2.2.1 x1 o ho) (cwV 1 hts mw_L_24 rfl rfl rfl hd_X5_goToSmooth ⟨Nat.le_of_ble_eq_true rfl, Nat.le_of_ble_eq_true rfl⟩) hS hA hG (hK.sub [0] rfl) hP hD [0, 7, 8, 1, 2, 17, 18, 9, 13, 12, 10, 14, 11, 3, 4] rfl rfl rfl rfl rfl ⟨Nat.zero_le _, Nat.zero_le _⟩ 5 0 rfl rfl rfl rfl hl.1 rfl (Nat.le_of_ble_eq_true rfl) dL_goToSmooth_4 (fun H locs hP hD hS => ?_)
  refine lv_i2l hx hb dL_goToSmooth_7 rfl ?_
  refine va_last hx hb hK hP hD hS 19 1 rfl rfl (vinb (by decide)) dL_goToSmooth_8 (fun H locs hP hD hS => ?_)
  have hP : va_P D vwCl (wdXO cI cJ a_t a_row a_row_signs a_work a_work_signs a_rest a_rest_signs a_bag a_bag_often a_smooth a_smooth_madeFor a_smooth_weight a_smooth_inCell a_smooth_all a_smooth_starting a_text a_text_codes a_saves a_saves_slots a_out (o.2.1, o.2.2.2.2.1, o.2.2.2.2.2.1, o.2.2.2.2.2.2.2.2.2.2.2.2.2.1, o.2.2.2.2.2.2.2.2.2.2.2.2.2.2, X.2.2.2.2.2.1, X.2.2.2.2.2.2.1, o.2.2.1, o.2.2.2.1, o.2.2.2.2.2.2.2.2.2.2.1, o.2.2.2.2.2.2.2.2.2.2.2.2.1, o.2.2.2.2.2.2.2.2.2.1, o.2.2.2.2.2.2.2.2.1, o.2.2.2.2.2.2.2.2.2.2.2.1, X.2.2.2.2.2.2.2.2.2.2.2.2.2.2.1, X.2.2.2.2.2.2.2.2.2.2.2.2.2.2.2.1, o.2.2.2.2.2.2.1, o.2.2.2.2.2.2.2.1) (vp_updL O (0 : Int32).toNatClampNeg (o.1).toInt64)) H := hP
  refine lv_goto (tgt := 15) hx hb dL_goToSmooth_9 (by decide) ?_
  refine lv_iconst (v := 0) hx hb dL_goToSmooth_15 (by decide) ?_
  exact hret H locs ls 16 (0 : Int32) _ hP hS rfl rfl dL_goToSmooth_16
def rm_L_goToSmooth_T : Room := { frames := 7, cells := 1, slots := 6, locals := 154 }
set_option maxHeartbeats 4000000 in
set_option maxRecDepth 100000 in
theorem cL_goToSmooth_T1 (l : Launch) (hl0 : l.stackTraces = false) (D : va_G) (cI cJ : ClassId) (a_t a_row a_row_signs a_work a_work_signs a_rest a_rest_signs a_bag a_bag_often a_smooth a_smooth_madeFor a_smooth_weight a_smooth_inCell a_smooth_all a_smooth_starting a_text a_text_codes a_saves a_saves_slots a_out : Nat) (sz : Nat) (X : XS) (O : Nat → Int64) (x1 : Int32) (X' : XS) (hF : G_X5_goToSmooth_T X x1 = some (1, X')) : Met l yL_goToSmooth (Cond.codeWith yL_goToSmooth cL_goToSmooth 4 (some .int) [(0, 9, 12, 13)] :: WL) rm_L_goToSmooth_T (preM D [(cI, .int), (cJ, .long)] (wdXO cI cJ a_t a_row a_row_signs a_work a_work_signs a_rest a_rest_signs a_bag a_bag_often a_smooth a_smooth_madeFor a_smooth_weight a_smooth_inCell a_smooth_all a_smooth_starting a_text a_text_codes a_saves a_saves_slots a_out X O) sz [.ref a_t, .int x1, .ref a_out]) (postI D 1 (wdXO cI cJ a_t a_row a_row_signs a_work a_work_signs a_rest a_rest_signs a_bag a_bag_often a_smooth a_smooth_madeFor a_smooth_weight a_smooth_inCell a_smooth_all a_smooth_starting a_text a_text_codes a_saves a_saves_slots a_out X' O) (wdXO cI cJ a_t a_row a_row_signs a_work a_work_signs a_rest a_rest_signs a_bag a_bag_often a_smooth a_smooth_madeFor a_smooth_weight a_smooth_inCell a_smooth_all a_smooth_starting a_text a_text_codes a_saves a_saves_slots a_out X O) sz) 1 6 (va_A (wdXO cI cJ a_t a_row a_row_signs a_work a_work_signs a_rest a_rest_signs a_bag a_bag_often a_smooth a_smooth_madeFor a_smooth_weight a_smooth_inCell a_smooth_all a_smooth_starting a_text a_text_codes a_saves a_saves_slots a_out X O) sz) := by
  unfold G_X5_goToSmooth_T at hF
  obtain ⟨o, ho, he⟩ := Option.map_eq_some_iff.mp hF
  obtain ⟨hk9, rfl⟩ := Prod.mk.inj he
  refine mofWI (by decide +kernel) (Nat.le_of_ble_eq_true rfl) ?_
  intro p e s m args below meth c Q A ls hx hb hml hown hts hK hP hD hS hA hG hl htab hret hsz0
  have hl : lv_has ls 4 [(0, .ref a_t), (1, .int x1), (2, .ref a_out)] := hl
  have hP : va_P D vwCl (wdXO cI cJ a_t a_row a_row_signs a_work a_work_signs a_rest a_rest_signs a_bag a_bag_often a_smooth a_smooth_madeFor a_smooth_weight a_smooth_inCell a_smooth_all a_smooth_starting a_text a_text_codes a_saves a_saves_slots a_out X O) s.heap := hP
  obtain ⟨H, hH⟩ : ∃ H, H = s.heap := ⟨_, rfl⟩
  rw [← hH]
  rw [← hH] at hP
  obtain ⟨locs, hlo⟩ : ∃ z : List Loc, z = [] := ⟨_, rfl⟩
  rw [← hlo]
  have hS : va_S A s.heap H locs := by rw [hH, hlo]; exact hS
  refine lv_aload_n hx hb dL_goToSmooth_0 rfl (lv_at hl 2 rfl) ?_
  refine lv_iconst (v := 0) hx hb dL_goToSmooth_1 (by decide) ?_
  refine lv_aload_n hx hb dL_goToSmooth_2 rfl (lv_at hl 0 rfl) ?_
  refine lv_iload_n hx hb dL_goToSmooth_3 rfl (lv_at hl 1 rfl) ?_
  refine kVT (As := [.int x1]) (rest := [.int (0 : Int32), .ref a_out]) (ws' := (wdXO cI cJ a_t a_row a_row_signs a_work a_work_signs a_rest a_rest_signs a_bag a_bag_often a_smooth a_smooth_madeFor a_smooth_weight a_smooth_inCell a_smooth_all a_smooth_starting a_text a_text_codes a_saves a_saves_slots a_out (o.2.1, o.2.2.2.2.1, o.2.2.2.2.2.1, o.2.2.2.2.2.2.2.2.2.2.2.2.2.1, o.2.2.2.2.2.2.2.2.2.2.2.2.2.2, X.2.2.2.2.2.1, X.2.2.2.2.2.2.1, o.2.2.1, o.2.2.2.1, o.2.2.2.2.2.2.2.2.2.2.1, o.2.2.2.2.2.2.2.2.2.2.2.2.1, o.2.2.2.2.2.2.2.2.2.1, o.2.2.2.2.2.2.2.2.1, o.2.2.2.2.2.2.2.2.2.2.2.1, X.2.2.2.2.2.2.2.2.2.2.2.2.2.2.1, X.2.2.2.2.2.2.2.2.2.2.2.2.2.2.2.1, o.2.2.2.2.2.2.1, o.2.2.2.2.2.2.2.1) O)) ⟨hx, hb, hml, hown, hts⟩ (c_X5_goToSmooth_T l D cI hl0 a_t a_row a_work a_rest a_bag a_smooth a_text a_saves a_bag_often a_row_signs a_saves_slots a_smooth_madeFor a_smooth_weight a_smooth_inCell a_smooth_all a_smooth_starting a_work_signs H.size X.1 X.2.2.2.2.2.2.2.1 X.2.2.2.2.2.2.2.2.1 X.2.1 X.2.2.1 X.2.2.2.2.2.2.2.2.2.2.2.2.2.2.2.2.1 X.2.2.2.2.2.2.2.2.2.2.2.2.2.2.2.2.2 X.2.2.2.2.2.2.2.2.2.2.2.2.1 X.2.2.2.2.2.2.2.2.2.2.2.1 X.2.2.2.2.2.2.2.2.2.1 X.2.2.2.2.2.2.2.2.2.2.2.2.2.1 X.2.2.2.2.2.2.2.2.2.2.1 X.2.2.2.1 X.2.2.2.2.1 x1 o ho) (cwV 1 hts mw_L_24 rfl rfl rfl hd_X5_goToSmooth ⟨Nat.le_of_ble_eq_true rfl, Nat.le_of_ble_eq_true rfl⟩) hS hA hG (hK.sub [0] rfl) hP hD [0, 7, 8, 1, 2, 17, 18, 9, 13, 12, 10, 14, 11, 3, 4] rfl rfl rfl rfl rfl ⟨Nat.le_of_ble_eq_true rfl, Nat.le_of_ble_eq_true rfl⟩ 5 0 rfl rfl rfl rfl hl.1 rfl (Nat.le_of_ble_eq_true rfl) dL_goToSmooth_4 (fun H locs q9 ce hP hD hS hce hcv hcl => ?_)
  rw [show kX o.1 = "java/lang/IllegalArgumentException" by rw [hk9]; rfl] at hcl
  refine vx_catch (name := "java/lang/IllegalArgumentException") hown [] ⟨0, 9, 12, 13⟩ [] (by rw [htab]; rfl) (fun z hz => by cases hz) (by decide) (by decide) (hts _ k3_95) (va_Nw.use rfl (hG.2.2.2.2.1 _ (by decide))) hce hcv hcl ?_
  refine lv_astore_n (lv' := [(3, .ref q9), (0, .ref a_t), (1, .int x1), (2, .ref a_out)]) hx hb dL_goToSmooth_12 rfl hl (by decide) rfl (fun ls hl => ?_)
  refine lv_iconst (v := 1) hx hb dL_goToSmooth_13 (by decide) ?_
  exact hret H locs ls 14 (1 : Int32) _ hP hS rfl rfl dL_goToSmooth_14
theorem mw_L_27 : GoodIn WL (wsV RL 27 RX5 yX5_swap (Cond.code yX5_swap cX5_swap 3 (some .int) :: WL)) := gV_of k3_148 k3_149 k3_150 k1_1 k3_151
def rm_L_swap : Room := { frames := 5, cells := 0, slots := 0, locals := 113 }
set_option maxHeartbeats 4000000 in
set_option maxRecDepth 100000 in
theorem cL_swap_N (l : Launch) (D : va_G) (cI cJ : ClassId) (a_t a_row a_row_signs a_work a_work_signs a_rest a_rest_signs a_bag a_bag_often a_smooth a_smooth_madeFor a_smooth_weight a_smooth_inCell a_smooth_all a_smooth_starting a_text a_text_codes a_saves a_saves_slots a_out : Nat) (sz : Nat) (X : XS) (O : Nat → Int64) (x1 : Int32) (x2 : Int32) (r : Int32) (X' : XS) (hF : G_X5_swap X x1 x2 = some (r, X')) : Met l yL_swap (Cond.codeWith yL_swap cL_swap 5 (some .int) [(0, 10, 13, 31)] :: WL) rm_L_swap (preM D [(cI, .int), (cJ, .long)] (wdXO cI cJ a_t a_row a_row_signs a_work a_work_signs a_rest a_rest_signs a_bag a_bag_often a_smooth a_smooth_madeFor a_smooth_weight a_smooth_inCell a_smooth_all a_smooth_starting a_text a_text_codes a_saves a_saves_slots a_out X O) sz [.ref a_t, .int x1, .int x2, .ref a_out]) (postI D 0 (wdXO cI cJ a_t a_row a_row_signs a_work a_work_signs a_rest a_rest_signs a_bag a_bag_often a_smooth a_smooth_madeFor a_smooth_weight a_smooth_inCell a_smooth_all a_smooth_starting a_text a_text_codes a_saves a_saves_slots a_out X' (vp_updL O (0 : Int32).toNatClampNeg (r).toInt64)) (wdXO cI cJ a_t a_row a_row_signs a_work a_work_signs a_rest a_rest_signs a_bag a_bag_often a_smooth a_smooth_madeFor a_smooth_weight a_smooth_inCell a_smooth_all a_smooth_starting a_text a_text_codes a_saves a_saves_slots a_out X O) sz) 0 0 (va_A (wdXO cI cJ a_t a_row a_row_signs a_work a_work_signs a_rest a_rest_signs a_bag a_bag_often a_smooth a_smooth_madeFor a_smooth_weight a_smooth_inCell a_smooth_all a_smooth_starting a_text a_text_codes a_saves a_saves_slots a_out X O) sz) := by
  unfold G_X5_swap at hF
  obtain ⟨o, ho, he⟩ := Option.map_eq_some_iff.mp hF
  obtain ⟨rfl, rfl⟩ := Prod.mk.inj he
  refine mofWI (by decide +kernel) (Nat.le_of_ble_eq_true rfl) ?_
  intro p e s m args below meth c Q A ls hx hb hml hown hts hK hP hD hS hA hG hl htab hret hsz0
  have hl : lv_has ls 5 [(0, .ref a_t), (1, .int x1), (2, .int x2), (3, .ref a_out)] := hl
  have hP : va_P D vwCl (wdXO cI cJ a_t a_row a_row_signs a_work a_work_signs a_rest a_rest_signs a_bag a_bag_often a_smooth a_smooth_madeFor a_smooth_weight a_smooth_inCell a_smooth_all a_smooth_starting a_text a_text_codes a_saves a_saves_slots a_out X O) s.heap := hP
  obtain ⟨H, hH⟩ : ∃ H, H = s.heap := ⟨_, rfl⟩
  rw [← hH]
  rw [← hH] at hP
  obtain ⟨locs, hlo⟩ : ∃ z : List Loc, z = [] := ⟨_, rfl⟩
  rw [← hlo]
  have hS : va_S A s.heap H locs := by rw [hH, hlo]; exact hS
  refine lv_aload_n hx hb dL_swap_0 rfl (lv_at hl 3 rfl) ?_
  refine lv_iconst (v := 0) hx hb dL_swap_1 (by decide) ?_
  refine lv_aload_n hx hb dL_swap_2 rfl (lv_at hl 0 rfl) ?_
  refine lv_iload_n hx hb dL_swap_3 rfl (lv_at hl 1 rfl) ?_
  refine lv_iload_n hx hb dL_swap_4 rfl (lv_at hl 2 rfl) ?_
  refine kVI (As := [.int x1, .int x2]) (rest := [.int (0 : Int32), .ref a_out]) (ws' := (wdXO cI cJ a_t a_row a_row_signs a_work a_work_signs a_rest a_rest_signs a_bag a_bag_often a_smooth a_smooth_madeFor a_smooth_weight a_smooth_inCell a_smooth_all a_smooth_starting a_text a_text_codes a_saves a_saves_slots a_out (X.1, X.2.1, o.2.2.2.1, X.2.2.2.1, X.2.2.2.2.1, X.2.2.2.2.2.1, X.2.2.2.2.2.2.1, o.2.1, o.2.2.1, X.2.2.2.2.2.2.2.2.2.1, X.2.2.2.2.2.2.2.2.2.2.1, X.2.2.2.2.2.2.2.2.2.2.2.1, X.2.2.2.2.2.2.2.2.2.2.2.2.1, X.2.2.2.2.2.2.2.2.2.2.2.2.2.1, X.2.2.2.2.2.2.2.2.2.2.2.2.2.2.1, X.2.2.2.2.2.2.2.2.2.2.2.2.2.2.2.1, o.2.2.2.2.1, o.2.2.2.2.2) O)) ⟨hx, hb, hml, hown, hts⟩ (c_X5_swap l D cI a_t a_row a_work a_rest a_bag a_smooth a_text a_saves a_bag_often a_row_signs a_saves_slots H.size X.1 X.2.2.2.2.2.2.2.1 X.2.2.2.2.2.2.2.2.1 X.2.1 X.2.2.1 X.2.2.2.2.2.2.2.2.2.2.2.2.2.2.2.2.1 X.2.2.2.2.2.2.2.2.2.2.2.2.2.2.2.2.2 x1 x2 o ho) (cwV 2 hts mw_L_27 rfl rfl rfl hd_X5_swap ⟨Nat.le_of_ble_eq_true rfl, Nat.le_of_ble_eq_true rfl⟩) hS hA hG (hK.sub [0] rfl) hP hD [0, 7, 8, 1, 2, 17, 18] rfl rfl rfl rfl rfl ⟨Nat.zero_le _, Nat.zero_le _⟩ 5 0 rfl rfl rfl rfl hl.1 rfl (Nat.le_of_ble_eq_true rfl) dL_swap_5 (fun H locs hP hD hS => ?_)
  refine lv_i2l hx hb dL_swap_8 rfl ?_
  refine va_last hx hb hK hP hD hS 19 1 rfl rfl (vinb (by decide)) dL_swap_9 (fun H locs hP hD hS => ?_)
  have hP : va_P D vwCl (wdXO cI cJ a_t a_row a_row_signs a_work a_work_signs a_rest a_rest_signs a_bag a_bag_often a_smooth a_smooth_madeFor a_smooth_weight a_smooth_inCell a_smooth_all a_smooth_starting a_text a_text_codes a_saves a_saves_slots a_out (X.1, X.2.1, o.2.2.2.1, X.2.2.2.1, X.2.2.2.2.1, X.2.2.2.2.2.1, X.2.2.2.2.2.2.1, o.2.1, o.2.2.1, X.2.2.2.2.2.2.2.2.2.1, X.2.2.2.2.2.2.2.2.2.2.1, X.2.2.2.2.2.2.2.2.2.2.2.1, X.2.2.2.2.2.2.2.2.2.2.2.2.1, X.2.2.2.2.2.2.2.2.2.2.2.2.2.1, X.2.2.2.2.2.2.2.2.2.2.2.2.2.2.1, X.2.2.2.2.2.2.2.2.2.2.2.2.2.2.2.1, o.2.2.2.2.1, o.2.2.2.2.2) (vp_updL O (0 : Int32).toNatClampNeg (o.1).toInt64)) H := hP
  refine lv_goto (tgt := 17) hx hb dL_swap_10 (by decide) ?_
  refine lv_iconst (v := 0) hx hb dL_swap_17 (by decide) ?_
  exact hret H locs ls 18 (0 : Int32) _ hP hS rfl rfl dL_swap_18
def rm_L_swap_T : Room := { frames := 8, cells := 1, slots := 6, locals := 133 }
set_option maxHeartbeats 4000000 in
set_option maxRecDepth 100000 in
theorem cL_swap_T3 (l : Launch) (hl0 : l.stackTraces = false) (D : va_G) (cI cJ : ClassId) (a_t a_row a_row_signs a_work a_work_signs a_rest a_rest_signs a_bag a_bag_often a_smooth a_smooth_madeFor a_smooth_weight a_smooth_inCell a_smooth_all a_smooth_starting a_text a_text_codes a_saves a_saves_slots a_out : Nat) (sz : Nat) (X : XS) (O : Nat → Int64) (x1 : Int32) (x2 : Int32) (X' : XS) (hF : G_X5_swap_T X x1 x2 = some (3, X')) : Met l yL_swap (Cond.codeWith yL_swap cL_swap 5 (some .int) [(0, 10, 13, 31)] :: WL) rm_L_swap_T (preM D [(cI, .int), (cJ, .long)] (wdXO cI cJ a_t a_row a_row_signs a_work a_work_signs a_rest a_rest_signs a_bag a_bag_often a_smooth a_smooth_madeFor a_smooth_weight a_smooth_inCell a_smooth_all a_smooth_starting a_text a_text_codes a_saves a_saves_slots a_out X O) sz [.ref a_t, .int x1, .int x2, .ref a_out]) (postI D 1 (wdXO cI cJ a_t a_row a_row_signs a_work a_work_signs a_rest a_rest_signs a_bag a_bag_often a_smooth a_smooth_madeFor a_smooth_weight a_smooth_inCell a_smooth_all a_smooth_starting a_text a_text_codes a_saves a_saves_slots a_out X' O) (wdXO cI cJ a_t a_row a_row_signs a_work a_work_signs a_rest a_rest_signs a_bag a_bag_often a_smooth a_smooth_madeFor a_smooth_weight a_smooth_inCell a_smooth_all a_smooth_starting a_text a_text_codes a_saves a_saves_slots a_out X O) sz) 1 6 (va_A (wdXO cI cJ a_t a_row a_row_signs a_work a_work_signs a_rest a_rest_signs a_bag a_bag_often a_smooth a_smooth_madeFor a_smooth_weight a_smooth_inCell a_smooth_all a_smooth_starting a_text a_text_codes a_saves a_saves_slots a_out X O) sz) := by
  unfold G_X5_swap_T at hF
  obtain ⟨o, ho, he⟩ := Option.map_eq_some_iff.mp hF
  obtain ⟨hk9, rfl⟩ := Prod.mk.inj he
  refine mofWI (by decide +kernel) (Nat.le_of_ble_eq_true rfl) ?_
  intro p e s m args below meth c Q A ls hx hb hml hown hts hK hP hD hS hA hG hl htab hret hsz0
  have hl : lv_has ls 5 [(0, .ref a_t), (1, .int x1), (2, .int x2), (3, .ref a_out)] := hl
  have hP : va_P D vwCl (wdXO cI cJ a_t a_row a_row_signs a_work a_work_signs a_rest a_rest_signs a_bag a_bag_often a_smooth a_smooth_madeFor a_smooth_weight a_smooth_inCell a_smooth_all a_smooth_starting a_text a_text_codes a_saves a_saves_slots a_out X O) s.heap := hP
  obtain ⟨H, hH⟩ : ∃ H, H = s.heap := ⟨_, rfl⟩
  rw [← hH]
  rw [← hH] at hP
  obtain ⟨locs, hlo⟩ : ∃ z : List Loc, z = [] := ⟨_, rfl⟩
  rw [← hlo]
  have hS : va_S A s.heap H locs := by rw [hH, hlo]; exact hS
  refine lv_aload_n hx hb dL_swap_0 rfl (lv_at hl 3 rfl) ?_
  refine lv_iconst (v := 0) hx hb dL_swap_1 (by decide) ?_
  refine lv_aload_n hx hb dL_swap_2 rfl (lv_at hl 0 rfl) ?_
  refine lv_iload_n hx hb dL_swap_3 rfl (lv_at hl 1 rfl) ?_
  refine lv_iload_n hx hb dL_swap_4 rfl (lv_at hl 2 rfl) ?_
  refine kVT (As := [.int x1, .int x2]) (rest := [.int (0 : Int32), .ref a_out]) (ws' := (wdXO cI cJ a_t a_row a_row_signs a_work a_work_signs a_rest a_rest_signs a_bag a_bag_often a_smooth a_smooth_madeFor a_smooth_weight a_smooth_inCell a_smooth_all a_smooth_starting a_text a_text_codes a_saves a_saves_slots a_out (X.1, X.2.1, o.2.2.2.1, X.2.2.2.1, X.2.2.2.2.1, X.2.2.2.2.2.1, X.2.2.2.2.2.2.1, o.2.1, o.2.2.1, X.2.2.2.2.2.2.2.2.2.1, X.2.2.2.2.2.2.2.2.2.2.1, X.2.2.2.2.2.2.2.2.2.2.2.1, X.2.2.2.2.2.2.2.2.2.2.2.2.1, X.2.2.2.2.2.2.2.2.2.2.2.2.2.1, X.2.2.2.2.2.2.2.2.2.2.2.2.2.2.1, X.2.2.2.2.2.2.2.2.2.2.2.2.2.2.2.1, o.2.2.2.2.1, o.2.2.2.2.2) O)) ⟨hx, hb, hml, hown, hts⟩ (c_X5_swap_T l D cI hl0 a_t a_row a_work a_rest a_bag a_smooth a_text a_saves a_bag_often a_row_signs a_saves_slots H.size X.1 X.2.2.2.2.2.2.2.1 X.2.2.2.2.2.2.2.2.1 X.2.1 X.2.2.1 X.2.2.2.2.2.2.2.2.2.2.2.2.2.2.2.2.1 X.2.2.2.2.2.2.2.2.2.2.2.2.2.2.2.2.2 x1 x2 o ho) (cwV 2 hts mw_L_27 rfl rfl rfl hd_X5_swap ⟨Nat.le_of_ble_eq_true rfl, Nat.le_of_ble_eq_true rfl⟩) hS hA hG (hK.sub [0] rfl) hP hD [0, 7, 8, 1, 2, 17, 18] rfl rfl rfl rfl rfl ⟨Nat.le_of_ble_eq_true rfl, Nat.le_of_ble_eq_true rfl⟩ 5 0 rfl rfl rfl rfl hl.1 rfl (Nat.le_of_ble_eq_true rfl) dL_swap_5 (fun H locs q9 ce hP hD hS hce hcv hcl => ?_)
  rw [show kX o.1 = "java/lang/IndexOutOfBoundsException" by rw [hk9]; rfl] at hcl
  refine vx_catch (name := "java/lang/IndexOutOfBoundsException") hown [] ⟨0, 10, 13, 31⟩ [] (by rw [htab]; rfl) (fun z hz => by cases hz) (by decide) (by decide) (hts _ k3_147) (va_Nw.use rfl (hG.2.2.2.2.1 _ (by decide))) hce hcv hcl ?_
  refine lv_astore (lv' := [(4, .ref q9), (0, .ref a_t), (1, .int x1), (2, .int x2), (3, .ref a_out)]) hx hb dL_swap_13 hl (by decide) rfl (fun ls hl => ?_)
  refine lv_iconst (v := 1) hx hb dL_swap_15 (by decide) ?_
  exact hret H locs ls 16 (1 : Int32) _ hP hS rfl rfl dL_swap_16
theorem mw_L_33 : GoodIn WL (wsV RL 33 RX5 yX5_turn (Cond.code yX5_turn cX5_turn 3 (some .int) :: WL)) := gV_of k3_155 k3_156 k3_157 k1_1 k3_158
def rm_L_turn : Room := { frames := 5, cells := 0, slots := 0, locals := 113 }
set_option maxHeartbeats 4000000 in
set_option maxRecDepth 100000 in
theorem cL_turn_N (l : Launch) (D : va_G) (cI cJ : ClassId) (a_t a_row a_row_signs a_work a_work_signs a_rest a_rest_signs a_bag a_bag_often a_smooth a_smooth_madeFor a_smooth_weight a_smooth_inCell a_smooth_all a_smooth_starting a_text a_text_codes a_saves a_saves_slots a_out : Nat) (sz : Nat) (X : XS) (O : Nat → Int64) (x1 : Int32) (x2 : Int32) (r : Int32) (X' : XS) (hF : G_X5_turn X x1 x2 = some (r, X')) : Met l yL_turn (Cond.codeWith yL_turn cL_turn 5 (some .int) [(0, 10, 13, 31), (0, 10, 17, 13)] :: WL) rm_L_turn (preM D [(cI, .int), (cJ, .long)] (wdXO cI cJ a_t a_row a_row_signs a_work a_work_signs a_rest a_rest_signs a_bag a_bag_often a_smooth a_smooth_madeFor a_smooth_weight a_smooth_inCell a_smooth_all a_smooth_starting a_text a_text_codes a_saves a_saves_slots a_out X O) sz [.ref a_t, .int x1, .int x2, .ref a_out]) (postI D 0 (wdXO cI cJ a_t a_row a_row_signs a_work a_work_signs a_rest a_rest_signs a_bag a_bag_often a_smooth a_smooth_madeFor a_smooth_weight a_smooth_inCell a_smooth_all a_smooth_starting a_text a_text_codes a_saves a_saves_slots a_out X' (vp_updL O (0 : Int32).toNatClampNeg (r).toInt64)) (wdXO cI cJ a_t a_row a_row_signs a_work a_work_signs a_rest a_rest_signs a_bag a_bag_often a_smooth a_smooth_madeFor a_smooth_weight a_smooth_inCell a_smooth_all a_smooth_starting a_text a_text_codes a_saves a_saves_slots a_out X O) sz) 0 0 (va_A (wdXO cI cJ a_t a_row a_row_signs a_work a_work_signs a_rest a_rest_signs a_bag a_bag_often a_smooth a_smooth_madeFor a_smooth_weight a_smooth_inCell a_smooth_all a_smooth_starting a_text a_text_codes a_saves a_saves_slots a_out X O) sz) := by
  unfold G_X5_turn at hF
  obtain ⟨o, ho, he⟩ := Option.map_eq_some_iff.mp hF
  obtain ⟨rfl, rfl⟩ := Prod.mk.inj he
  refine mofWI (by decide +kernel) (Nat.le_of_ble_eq_true rfl) ?_
  intro p e s m args below meth c Q A ls hx hb hml hown hts hK hP hD hS hA hG hl htab hret hsz0
  have hl : lv_has ls 5 [(0, .ref a_t), (1, .int x1), (2, .int x2), (3, .ref a_out)] := hl
  have hP : va_P D vwCl (wdXO cI cJ a_t a_row a_row_signs a_work a_work_signs a_rest a_rest_signs a_bag a_bag_often a_smooth a_smooth_madeFor a_smooth_weight a_smooth_inCell a_smooth_all a_smooth_starting a_text a_text_codes a_saves a_saves_slots a_out X O) s.heap := hP
  obtain ⟨H, hH⟩ : ∃ H, H = s.heap := ⟨_, rfl⟩
  rw [← hH]
  rw [← hH] at hP
  obtain ⟨locs, hlo⟩ : ∃ z : List Loc, z = [] := ⟨_, rfl⟩
  rw [← hlo]
  have hS : va_S A s.heap H locs := by rw [hH, hlo]; exact hS
  refine lv_aload_n hx hb dL_turn_0 rfl (lv_at hl 3 rfl) ?_
  refine lv_iconst (v := 0) hx hb dL_turn_1 (by decide) ?_
  refine lv_aload_n hx hb dL_turn_2 rfl (lv_at hl 0 rfl) ?_
  refine lv_iload_n hx hb dL_turn_3 rfl (lv_at hl 1 rfl) ?_
  refine lv_iload_n hx hb dL_turn_4 rfl (lv_at hl 2 rfl) ?_
  refine kVI (As := [.int x1, .int x2]) (rest := [.int (0 : Int32), .ref a_out]) (ws' := (wdXO cI cJ a_t a_row a_row_signs a_work a_work_signs a_rest a_rest_signs a_bag a_bag_often a_smooth a_smooth_madeFor a_smooth_weight a_smooth_inCell a_smooth_all a_smooth_starting a_text a_text_codes a_saves a_saves_slots a_out (X.1, X.2.1, o.2.2.2.1, X.2.2.2.1, X.2.2.2.2.1, X.2.2.2.2.2.1, X.2.2.2.2.2.2.1, o.2.1, o.2.2.1, X.2.2.2.2.2.2.2.2.2.1, X.2.2.2.2.2.2.2.2.2.2.1, X.2.2.2.2.2.2.2.2.2.2.2.1, X.2.2.2.2.2.2.2.2.2.2.2.2.1, X.2.2.2.2.2.2.2.2.2.2.2.2.2.1, X.2.2.2.2.2.2.2.2.2.2.2.2.2.2.1, X.2.2.2.2.2.2.2.2.2.2.2.2.2.2.2.1, o.2.2.2.2.1, o.2.2.2.2.2) O)) ⟨hx, hb, hml, hown, hts⟩ (c_X5_turn l D cI a_t a_row a_work a_rest a_bag a_smooth a_text a_saves a_bag_often a_row_signs a_saves_slots H.size X.1 X.2.2.2.2.2.2.2.1 X.2.2.2.2.2.2.2.2.1 X.2.1 X.2.2.1 X.2.2.2.2.2.2.2.2.2.2.2.2.2.2.2.2.1 X.2.2.2.2.2.2.2.2.2.2.2.2.2.2.2.2.2 x1 x2 o ho) (cwV 2 hts mw_L_33 rfl rfl rfl hd_X5_turn ⟨Nat.le_of_ble_eq_true rfl, Nat.le_of_ble_eq_true rfl⟩) hS hA hG (hK.sub [0] rfl) hP hD [0, 7, 8, 1, 2, 17, 18] rfl rfl rfl rfl rfl ⟨Nat.zero_le _, Nat.zero_le _⟩ 5 0 rfl rfl rfl rfl hl.1 rfl (Nat.le_of_ble_eq_true rfl) dL_turn_5 (fun H locs hP hD hS => ?_)
  refine lv_i2l hx hb dL_turn_8 rfl ?_
  refine va_last hx hb hK hP hD hS 19 1 rfl rfl (vinb (by decide)) dL_turn_9 (fun H locs hP hD hS => ?_)
  have hP : va_P D vwCl (wdXO cI cJ a_t a_row a_row_signs a_work a_work_signs a_rest a_rest_signs a_bag a_bag_often a_smooth a_smooth_madeFor a_smooth_weight a_smooth_inCell a_smooth_all a_smooth_starting a_text a_text_codes a_saves a_saves_slots a_out (X.1, X.2.1, o.2.2.2.1, X.2.2.2.1, X.2.2.2.2.1, X.2.2.2.2.2.1, X.2.2.2.2.2.2.1, o.2.1, o.2.2.1, X.2.2.2.2.2.2.2.2.2.1, X.2.2.2.2.2.2.2.2.2.2.1, X.2.2.2.2.2.2.2.2.2.2.2.1, X.2.2.2.2.2.2.2.2.2.2.2.2.1, X.2.2.2.2.2.2.2.2.2.2.2.2.2.1, X.2.2.2.2.2.2.2.2.2.2.2.2.2.2.1, X.2.2.2.2.2.2.2.2.2.2.2.2.2.2.2.1, o.2.2.2.2.1, o.2.2.2.2.2) (vp_updL O (0 : Int32).toNatClampNeg (o.1).toInt64)) H := hP
  refine lv_goto (tgt := 21) hx hb dL_turn_10 (by decide) ?_
  refine lv_iconst (v := 0) hx hb dL_turn_21 (by decide) ?_
  exact hret H locs ls 22 (0 : Int32) _ hP hS rfl rfl dL_turn_22
def rm_L_turn_T : Room := { frames := 8, cells := 1, slots := 6, locals := 133 }
set_option maxHeartbeats 4000000 in
set_option maxRecDepth 100000 in
theorem cL_turn_T3 (l : Launch) (hl0 : l.stackTraces = false) (D : va_G) (cI cJ : ClassId) (a_t a_row a_row_signs a_work a_work_signs a_rest a_rest_signs a_bag a_bag_often a_smooth a_smooth_madeFor a_smooth_weight a_smooth_inCell a_smooth_all a_smooth_starting a_text a_text_codes a_saves a_saves_slots a_out : Nat) (sz : Nat) (X : XS) (O : Nat → Int64) (x1 : Int32) (x2 : Int32) (X' : XS) (hF : G_X5_turn_T X x1 x2 = some (3, X')) : Met l yL_turn (Cond.codeWith yL_turn cL_turn 5 (some .int) [(0, 10, 13, 31), (0, 10, 17, 13)] :: WL) rm_L_turn_T (preM D [(cI, .int), (cJ, .long)] (wdXO cI cJ a_t a_row a_row_signs a_work a_work_signs a_rest a_rest_signs a_bag a_bag_often a_smooth a_smooth_madeFor a_smooth_weight a_smooth_inCell a_smooth_all a_smooth_starting a_text a_text_codes a_saves a_saves_slots a_out X O) sz [.ref a_t, .int x1, .int x2, .ref a_out]) (postI D 1 (wdXO cI cJ a_t a_row a_row_signs a_work a_work_signs a_rest a_rest_signs a_bag a_bag_often a_smooth a_smooth_madeFor a_smooth_weight a_smooth_inCell a_smooth_all a_smooth_starting a_text a_text_codes a_saves a_saves_slots a_out X' O) (wdXO cI cJ a_t a_row a_row_signs a_work a_work_signs a_rest a_rest_signs a_bag a_bag_often a_smooth a_smooth_madeFor a_smooth_weight a_smooth_inCell a_smooth_all a_smooth_starting a_text a_text_codes a_saves a_saves_slots a_out X O) sz) 1 6 (va_A (wdXO cI cJ a_t a_row a_row_signs a_work a_work_signs a_rest a_rest_signs a_bag a_bag_often a_smooth a_smooth_madeFor a_smooth_weight a_smooth_inCell a_smooth_all a_smooth_starting a_text a_text_codes a_saves a_saves_slots a_out X O) sz) := by
  unfold G_X5_turn_T at hF
  obtain ⟨o, ho, he⟩ := Option.map_eq_some_iff.mp hF
  obtain ⟨hk9, rfl⟩ := Prod.mk.inj he
  refine mofWI (by decide +kernel) (Nat.le_of_ble_eq_true rfl) ?_
  intro p e s m args below meth c Q A ls hx hb hml hown hts hK hP hD hS hA hG hl htab hret hsz0
  have hl : lv_has ls 5 [(0, .ref a_t), (1, .int x1), (2, .int x2), (3, .ref a_out)] := hl
  have hP : va_P D vwCl (wdXO cI cJ a_t a_row a_row_signs a_work a_work_signs a_rest a_rest_signs a_bag a_bag_often a_smooth a_smooth_madeFor a_smooth_weight a_smooth_inCell a_smooth_all a_smooth_starting a_text a_text_codes a_saves a_saves_slots a_out X O) s.heap := hP
  obtain ⟨H, hH⟩ : ∃ H, H = s.heap := ⟨_, rfl⟩
  rw [← hH]
  rw [← hH] at hP
  obtain ⟨locs, hlo⟩ : ∃ z : List Loc, z = [] := ⟨_, rfl⟩
  rw [← hlo]
  have hS : va_S A s.heap H locs := by rw [hH, hlo]; exact hS
  refine lv_aload_n hx hb dL_turn_0 rfl (lv_at hl 3 rfl) ?_
  refine lv_iconst (v := 0) hx hb dL_turn_1 (by decide) ?_
  refine lv_aload_n hx hb dL_turn_2 rfl (lv_at hl 0 rfl) ?_
  refine lv_iload_n hx hb dL_turn_3 rfl (lv_at hl 1 rfl) ?_
  refine lv_iload_n hx hb dL_turn_4 rfl (lv_at hl 2 rfl) ?_
  refine kVT (As := [.int x1, .int x2]) (rest := [.int (0 : Int32), .ref a_out]) (ws' := (wdXO cI cJ a_t a_row a_row_signs a_work a_work_signs a_rest a_rest_signs a_bag a_bag_often a_smooth a_smooth_madeFor a_smooth_weight a_smooth_inCell a_smooth_all a_smooth_starting a_text a_text_codes a_saves a_saves_slots a_out (X.1, X.2.1, o.2.2.2.1, X.2.2.2.1, X.2.2.2.2.1, X.2.2.2.2.2.1, X.2.2.2.2.2.2.1, o.2.1, o.2.2.1, X.2.2.2.2.2.2.2.2.2.1, X.2.2.2.2.2.2.2.2.2.2.1, X.2.2.2.2.2.2.2.2.2.2.2.1, X.2.2.2.2.2.2.2.2.2.2.2.2.1, X.2.2.2.2.2.2.2.2.2.2.2.2.2.1, X.2.2.2.2.2.2.2.2.2.2.2.2.2.2.1, X.2.2.2.2.2.2.2.2.2.2.2.2.2.2.2.1, o.2.2.2.2.1, o.2.2.2.2.2) O)) ⟨hx, hb, hml, hown, hts⟩ (c_X5_turn_T l D cI hl0 a_t a_row a_work a_rest a_bag a_smooth a_text a_saves a_bag_often a_row_signs a_saves_slots H.size X.1 X.2.2.2.2.2.2.2.1 X.2.2.2.2.2.2.2.2.1 X.2.1 X.2.2.1 X.2.2.2.2.2.2.2.2.2.2.2.2.2.2.2.2.1 X.2.2.2.2.2.2.2.2.2.2.2.2.2.2.2.2.2 x1 x2 o ho) (cwV 2 hts mw_L_33 rfl rfl rfl hd_X5_turn ⟨Nat.le_of_ble_eq_true rfl, Nat.le_of_ble_eq_true rfl⟩) hS hA hG (hK.sub [0] rfl) hP hD [0, 7, 8, 1, 2, 17, 18] rfl rfl rfl rfl rfl ⟨Nat.le_of_ble_eq_true rfl, Nat.le_of_ble_eq_true rfl⟩ 5 0 rfl rfl rfl rfl hl.1 rfl (Nat.le_of_ble_eq_true rfl) dL_turn_5 (fun H locs q9 ce hP hD hS hce hcv hcl => ?_)
  rw [show kX o.1 = "java/lang/IndexOutOfBoundsException" by rw [hk9]; rfl] at hcl
  refine vx_catch (name := "java/lang/IndexOutOfBoundsException") hown [] ⟨0, 10, 13, 31⟩ [⟨0, 10, 17, 13⟩] (by rw [htab]; rfl) (fun z hz => by cases hz) (by decide) (by decide) (hts _ k3_147) (va_Nw.use rfl (hG.2.2.2.2.1 _ (by decide))) hce hcv hcl ?_
  refine lv_astore (lv' := [(4, .ref q9), (0, .ref a_t), (1, .int x1), (2, .int x2), (3, .ref a_out)]) hx hb dL_turn_13 hl (by decide) rfl (fun ls hl => ?_)
  refine lv_iconst (v := 1) hx hb dL_turn_15 (by decide) ?_
  exact hret H locs ls 16 (1 : Int32) _ hP hS rfl rfl dL_turn_16
set_option maxHeartbeats 4000000 in
set_option maxRecDepth 100000 in
theorem cL_turn_T1 (l : Launch) (hl0 : l.stackTraces = false) (D : va_G) (cI cJ : ClassId) (a_t a_row a_row_signs a_work a_work_signs a_rest a_rest_signs a_bag a_bag_often a_smooth a_smooth_madeFor a_smooth_weight a_smooth_inCell a_smooth_all a_smooth_starting a_text a_text_codes a_saves a_saves_slots a_out : Nat) (sz : Nat) (X : XS) (O : Nat → Int64) (x1 : Int32) (x2 : Int32) (X' : XS) (hF : G_X5_turn_T X x1 x2 = some (1, X')) : Met l yL_turn (Cond.codeWith yL_turn cL_turn 5 (some .int) [(0, 10, 13, 31), (0, 10, 17, 13)] :: WL) rm_L_turn_T (preM D [(cI, .int), (cJ, .long)] (wdXO cI cJ a_t a_row a_row_signs a_work a_work_signs a_rest a_rest_signs a_bag a_bag_often a_smooth a_smooth_madeFor a_smooth_weight a_smooth_inCell a_smooth_all a_smooth_starting a_text a_text_codes a_saves a_saves_slots a_out X O) sz [.ref a_t, .int x1, .int x2, .ref a_out]) (postI D 2 (wdXO cI cJ a_t a_row a_row_signs a_work a_work_signs a_rest a_rest_signs a_bag a_bag_often a_smooth a_smooth_madeFor a_smooth_weight a_smooth_inCell a_smooth_all a_smooth_starting a_text a_text_codes a_saves a_saves_slots a_out X' O) (wdXO cI cJ a_t a_row a_row_signs a_work a_work_signs a_rest a_rest_signs a_bag a_bag_often a_smooth a_smooth_madeFor a_smooth_weight a_smooth_inCell a_smooth_all a_smooth_starting a_text a_text_codes a_saves a_saves_slots a_out X O) sz) 1 6 (va_A (wdXO cI cJ a_t a_row a_row_signs a_work a_work_signs a_rest a_rest_signs a_bag a_bag_often a_smooth a_smooth_madeFor a_smooth_weight a_smooth_inCell a_smooth_all a_smooth_starting a_text a_text_codes a_saves a_saves_slots a_out X O) sz) := by
  unfold G_X5_turn_T at hF
  obtain ⟨o, ho, he⟩ := Option.map_eq_some_iff.mp hF
  obtain ⟨hk9, rfl⟩ := Prod.mk.inj he
  refine mofWI (by decide +kernel) (Nat.le_of_ble_eq_true rfl) ?_
  intro p e s m args below meth c Q A ls hx hb hml hown hts hK hP hD hS hA hG hl htab hret hsz0
  have hl : lv_has ls 5 [(0, .ref a_t), (1, .int x1), (2, .int x2), (3, .ref a_out)] := hl
  have hP : va_P D vwCl (wdXO cI cJ a_t a_row a_row_signs a_work a_work_signs a_rest a_rest_signs a_bag a_bag_often a_smooth a_smooth_madeFor a_smooth_weight a_smooth_inCell a_smooth_all a_smooth_starting a_text a_text_codes a_saves a_saves_slots a_out X O) s.heap := hP
  obtain ⟨H, hH⟩ : ∃ H, H = s.heap := ⟨_, rfl⟩
  rw [← hH]
  rw [← hH] at hP
  obtain ⟨locs, hlo⟩ : ∃ z : List Loc, z = [] := ⟨_, rfl⟩
  rw [← hlo]
  have hS : va_S A s.heap H locs := by rw [hH, hlo]; exact hS
  refine lv_aload_n hx hb dL_turn_0 rfl (lv_at hl 3 rfl) ?_
  refine lv_iconst (v := 0) hx hb dL_turn_1 (by decide) ?_
  refine lv_aload_n hx hb dL_turn_2 rfl (lv_at hl 0 rfl) ?_
  refine lv_iload_n hx hb dL_turn_3 rfl (lv_at hl 1 rfl) ?_
  refine lv_iload_n hx hb dL_turn_4 rfl (lv_at hl 2 rfl) ?_
  refine kVT (As := [.int x1, .int x2]) (rest := [.int (0 : Int32), .ref a_out]) (ws' := (wdXO cI cJ a_t a_row a_row_signs a_work a_work_signs a_rest a_rest_signs a_bag a_bag_often a_smooth a_smooth_madeFor a_smooth_weight a_smooth_inCell a_smooth_all a_smooth_starting a_text a_text_codes a_saves a_saves_slots a_out (X.1, X.2.1, o.2.2.2.1, X.2.2.2.1, X.2.2.2.2.1, X.2.2.2.2.2.1, X.2.2.2.2.2.2.1, o.2.1, o.2.2.1, X.2.2.2.2.2.2.2.2.2.1, X.2.2.2.2.2.2.2.2.2.2.1, X.2.2.2.2.2.2.2.2.2.2.2.1, X.2.2.2.2.2.2.2.2.2.2.2.2.1, X.2.2.2.2.2.2.2.2.2.2.2.2.2.1, X.2.2.2.2.2.2.2.2.2.2.2.2.2.2.1, X.2.2.2.2.2.2.2.2.2.2.2.2.2.2.2.1, o.2.2.2.2.1, o.2.2.2.2.2) O)) ⟨hx, hb, hml, hown, hts⟩ (c_X5_turn_T l D cI hl0 a_t a_row a_work a_rest a_bag a_smooth a_text a_saves a_bag_often a_row_signs a_saves_slots H.size X.1 X.2.2.2.2.2.2.2.1 X.2.2.2.2.2.2.2.2.1 X.2.1 X.2.2.1 X.2.2.2.2.2.2.2.2.2.2.2.2.2.2.2.2.1 X.2.2.2.2.2.2.2.2.2.2.2.2.2.2.2.2.2 x1 x2 o ho) (cwV 2 hts mw_L_33 rfl rfl rfl hd_X5_turn ⟨Nat.le_of_ble_eq_true rfl, Nat.le_of_ble_eq_true rfl⟩) hS hA hG (hK.sub [0] rfl) hP hD [0, 7, 8, 1, 2, 17, 18] rfl rfl rfl rfl rfl ⟨Nat.le_of_ble_eq_true rfl, Nat.le_of_ble_eq_true rfl⟩ 5 0 rfl rfl rfl rfl hl.1 rfl (Nat.le_of_ble_eq_true rfl) dL_turn_5 (fun H locs q9 ce hP hD hS hce hcv hcl => ?_)
  rw [show kX o.1 = "java/lang/IllegalArgumentException" by rw [hk9]; rfl] at hcl
  refine vx_catch (name := "java/lang/IllegalArgumentException") hown [⟨0, 10, 13, 31⟩] ⟨0, 10, 17, 13⟩ [] (by rw [htab]; rfl) (fun z hz => by rw [List.mem_singleton.mp hz]; exact Or.inr ⟨by decide, _, hts _ k3_147, hG.2.2.2.2.2.1 ("java/lang/IllegalArgumentException", "java/lang/IndexOutOfBoundsException") (by decide)⟩) (by decide) (by decide) (hts _ k3_95) (va_Nw.use rfl (hG.2.2.2.2.1 _ (by decide))) hce hcv hcl ?_
  refine lv_astore (lv' := [(4, .ref q9), (0, .ref a_t), (1, .int x1), (2, .int x2), (3, .ref a_out)]) hx hb dL_turn_17 hl (by decide) rfl (fun ls hl => ?_)
  refine lv_iconst (v := 2) hx hb dL_turn_19 (by decide) ?_
  exact hret H locs ls 20 (2 : Int32) _ hP hS rfl rfl dL_turn_20
theorem mw_L_36 : GoodIn WL (wsV RL 36 RX5 yX5_carry (Cond.code yX5_carry cX5_carry 5 (some .int) :: WL)) := gV_of k3_162 k3_163 k3_164 k1_1 k3_165
def rm_L_carry : Room := { frames := 6, cells := 0, slots := 0, locals := 133 }
set_option maxHeartbeats 4000000 in
set_option maxRecDepth 100000 in
theorem cL_carry_N (l : Launch) (D : va_G) (cI cJ : ClassId) (a_t a_row a_row_signs a_work a_work_signs a_rest a_rest_signs a_bag a_bag_often a_smooth a_smooth_madeFor a_smooth_weight a_smooth_inCell a_smooth_all a_smooth_starting a_text a_text_codes a_saves a_saves_slots a_out : Nat) (sz : Nat) (X : XS) (O : Nat → Int64) (x1 : Int32) (x2 : Int32) (r : Int32) (X' : XS) (hF : G_X5_carry X x1 x2 = some (r, X')) : Met l yL_carry (Cond.codeWith yL_carry cL_carry 5 (some .int) [(0, 10, 13, 31), (0, 10, 17, 13)] :: WL) rm_L_carry (preM D [(cI, .int), (cJ, .long)] (wdXO cI cJ a_t a_row a_row_signs a_work a_work_signs a_rest a_rest_signs a_bag a_bag_often a_smooth a_smooth_madeFor a_smooth_weight a_smooth_inCell a_smooth_all a_smooth_starting a_text a_text_codes a_saves a_saves_slots a_out X O) sz [.ref a_t, .int x1, .int x2, .ref a_out]) (postI D 0 (wdXO cI cJ a_t a_row a_row_signs a_work a_work_signs a_rest a_rest_signs a_bag a_bag_often a_smooth a_smooth_madeFor a_smooth_weight a_smooth_inCell a_smooth_all a_smooth_starting a_text a_text_codes a_saves a_saves_slots a_out X' (vp_updL O (0 : Int32).toNatClampNeg (r).toInt64)) (wdXO cI cJ a_t a_row a_row_signs a_work a_work_signs a_rest a_rest_signs a_bag a_bag_often a_smooth a_smooth_madeFor a_smooth_weight a_smooth_inCell a_smooth_all a_smooth_starting a_text a_text_codes a_saves a_saves_slots a_out X O) sz) 0 0 (va_A (wdXO cI cJ a_t a_row a_row_signs a_work a_work_signs a_rest a_rest_signs a_bag a_bag_often a_smooth a_smooth_madeFor a_smooth_weight a_smooth_inCell a_smooth_all a_smooth_starting a_text a_text_codes a_saves a_saves_slots a_out X O) sz) := by
  unfold G_X5_carry at hF
  obtain ⟨o, ho, he⟩ := Option.map_eq_some_iff.mp hF
  obtain ⟨rfl, rfl⟩ := Prod.mk.inj he
  refine mofWI (by decide +kernel) (Nat.le_of_ble_eq_true rfl) ?_
  intro p e s m args below meth c Q A ls hx hb hml hown hts hK hP hD hS hA hG hl htab hret hsz0
  have hl : lv_has ls 5 [(0, .ref a_t), (1, .int x1), (2, .int x2), (3, .ref a_out)] := hl
  have hP : va_P D vwCl (wdXO cI cJ a_t a_row a_row_signs a_work a_work_signs a_rest a_rest_signs a_bag a_bag_often a_smooth a_smooth_madeFor a_smooth_weight a_smooth_inCell a_smooth_all a_smooth_starting a_text a_text_codes a_saves a_saves_slots a_out X O) s.heap := hP
  obtain ⟨H, hH⟩ : ∃ H, H = s.heap := ⟨_, rfl⟩
  rw [← hH]
  rw [← hH] at hP
  obtain ⟨locs, hlo⟩ : ∃ z : List Loc, z = [] := ⟨_, rfl⟩
  rw [← hlo]
  have hS : va_S A s.heap H locs := by rw [hH, hlo]; exact hS
  refine lv_aload_n hx hb dL_carry_0 rfl (lv_at hl 3 rfl) ?_
  refine lv_iconst (v := 0) hx hb dL_carry_1 (by decide) ?_
  refine lv_aload_n hx hb dL_carry_2 rfl (lv_at hl 0 rfl) ?_
  refine lv_iload_n hx hb dL_carry_3 rfl (lv_at hl 1 rfl) ?_
  refine lv_iload_n hx hb dL_carry_4 rfl (lv_at hl 2 rfl) ?_
  refine kVI (As := [.int x1, .int x2]) (rest := [.int (0 : Int32), .ref a_out]) (ws' := (wdXO cI cJ a_t a_row a_row_signs a_work a_work_signs a_rest a_rest_signs a_bag a_bag_often a_smooth a_smooth_madeFor a_smooth_weight a_smooth_inCell a_smooth_all a_smooth_starting a_text a_text_codes a_saves a_saves_slots a_out (X.1, X.2.1, o.2.1, X.2.2.2.1, X.2.2.2.2.1, X.2.2.2.2.2.1, X.2.2.2.2.2.2.1, X.2.2.2.2.2.2.2.1, X.2.2.2.2.2.2.2.2.1, X.2.2.2.2.2.2.2.2.2.1, X.2.2.2.2.2.2.2.2.2.2.1, X.2.2.2.2.2.2.2.2.2.2.2.1, X.2.2.2.2.2.2.2.2.2.2.2.2.1, X.2.2.2.2.2.2.2.2.2.2.2.2.2.1, X.2.2.2.2.2.2.2.2.2.2.2.2.2.2.1, X.2.2.2.2.2.2.2.2.2.2.2.2.2.2.2.1, o.2.2.1, o.2.2.2) O)) ⟨hx, hb, hml, hown, hts⟩ (c_X5_carry l D cI a_t a_row a_work a_rest a_bag a_smooth a_text a_saves a_row_signs a_saves_slots H.size X.1 X.2.1 X.2.2.1 X.2.2.2.2.2.2.2.2.2.2.2.2.2.2.2.2.1 X.2.2.2.2.2.2.2.2.2.2.2.2.2.2.2.2.2 x1 x2 o ho) (cwV 2 hts mw_L_36 rfl rfl rfl hd_X5_carry ⟨Nat.le_of_ble_eq_true rfl, Nat.le_of_ble_eq_true rfl⟩) hS hA hG (hK.sub [0] rfl) hP hD [0, 1, 2, 17, 18] rfl rfl rfl rfl rfl ⟨Nat.zero_le _, Nat.zero_le _⟩ 5 0 rfl rfl rfl rfl hl.1 rfl (Nat.le_of_ble_eq_true rfl) dL_carry_5 (fun H locs hP hD hS => ?_)
  refine lv_i2l hx hb dL_carry_8 rfl ?_
  refine va_last hx hb hK hP hD hS 19 1 rfl rfl (vinb (by decide)) dL_carry_9 (fun H locs hP hD hS => ?_)
  have hP : va_P D vwCl (wdXO cI cJ a_t a_row a_row_signs a_work a_work_signs a_rest a_rest_signs a_bag a_bag_often a_smooth a_smooth_madeFor a_smooth_weight a_smooth_inCell a_smooth_all a_smooth_starting a_text a_text_codes a_saves a_saves_slots a_out (X.1, X.2.1, o.2.1, X.2.2.2.1, X.2.2.2.2.1, X.2.2.2.2.2.1, X.2.2.2.2.2.2.1, X.2.2.2.2.2.2.2.1, X.2.2.2.2.2.2.2.2.1, X.2.2.2.2.2.2.2.2.2.1, X.2.2.2.2.2.2.2.2.2.2.1, X.2.2.2.2.2.2.2.2.2.2.2.1, X.2.2.2.2.2.2.2.2.2.2.2.2.1, X.2.2.2.2.2.2.2.2.2.2.2.2.2.1, X.2.2.2.2.2.2.2.2.2.2.2.2.2.2.1, X.2.2.2.2.2.2.2.2.2.2.2.2.2.2.2.1, o.2.2.1, o.2.2.2) (vp_updL O (0 : Int32).toNatClampNeg (o.1).toInt64)) H := hP
  refine lv_goto (tgt := 21) hx hb dL_carry_10 (by decide) ?_
  refine lv_iconst (v := 0) hx hb dL_carry_21 (by decide) ?_
  exact hret H locs ls 22 (0 : Int32) _ hP hS rfl rfl dL_carry_22
def rm_L_carry_T : Room := { frames := 8, cells := 1, slots := 6, locals := 135 }
set_option maxHeartbeats 4000000 in
set_option maxRecDepth 100000 in
theorem cL_carry_T3 (l : Launch) (hl0 : l.stackTraces = false) (D : va_G) (cI cJ : ClassId) (a_t a_row a_row_signs a_work a_work_signs a_rest a_rest_signs a_bag a_bag_often a_smooth a_smooth_madeFor a_smooth_weight a_smooth_inCell a_smooth_all a_smooth_starting a_text a_text_codes a_saves a_saves_slots a_out : Nat) (sz : Nat) (X : XS) (O : Nat → Int64) (x1 : Int32) (x2 : Int32) (X' : XS) (hF : G_X5_carry_T X x1 x2 = some (3, X')) : Met l yL_carry (Cond.codeWith yL_carry cL_carry 5 (some .int) [(0, 10, 13, 31), (0, 10, 17, 13)] :: WL) rm_L_carry_T (preM D [(cI, .int), (cJ, .long)] (wdXO cI cJ a_t a_row a_row_signs a_work a_work_signs a_rest a_rest_signs a_bag a_bag_often a_smooth a_smooth_madeFor a_smooth_weight a_smooth_inCell a_smooth_all a_smooth_starting a_text a_text_codes a_saves a_saves_slots a_out X O) sz [.ref a_t, .int x1, .int x2, .ref a_out]) (postI D 1 (wdXO cI cJ a_t a_row a_row_signs a_work a_work_signs a_rest a_rest_signs a_bag a_bag_often a_smooth a_smooth_madeFor a_smooth_weight a_smooth_inCell a_smooth_all a_smooth_starting a_text a_text_codes a_saves a_saves_slots a_out X' O) (wdXO cI cJ a_t a_row a_row_signs a_work a_work_signs a_rest a_rest_signs a_bag a_bag_often a_smooth a_smooth_madeFor a_smooth_weight a_smooth_inCell a_smooth_all a_smooth_starting a_text a_text_codes a_saves a_saves_slots a_out X O) sz) 1 6 (va_A (wdXO cI cJ a_t a_row a_row_signs a_work a_work_signs a_rest a_rest_signs a_bag a_bag_often a_smooth a_smooth_madeFor a_smooth_weight a_smooth_inCell a_smooth_all a_smooth_starting a_text a_text_codes a_saves a_saves_slots a_out X O) sz) := by
  unfold G_X5_carry_T at hF
  obtain ⟨o, ho, he⟩ := Option.map_eq_some_iff.mp hF
  obtain ⟨hk9, rfl⟩ := Prod.mk.inj he
  refine mofWI (by decide +kernel) (Nat.le_of_ble_eq_true rfl) ?_
  intro p e s m args below meth c Q A ls hx hb hml hown hts hK hP hD hS hA hG hl htab hret hsz0
  have hl : lv_has ls 5 [(0, .ref a_t), (1, .int x1), (2, .int x2), (3, .ref a_out)] := hl
  have hP : va_P D vwCl (wdXO cI cJ a_t a_row a_row_signs a_work a_work_signs a_rest a_rest_signs a_bag a_bag_often a_smooth a_smooth_madeFor a_smooth_weight a_smooth_inCell a_smooth_all a_smooth_starting a_text a_text_codes a_saves a_saves_slots a_out X O) s.heap := hP
  obtain ⟨H, hH⟩ : ∃ H, H = s.heap := ⟨_, rfl⟩
  rw [← hH]
  rw [← hH] at hP
  obtain ⟨locs, hlo⟩ : ∃ z : List Loc, z = [] := ⟨_, rfl⟩
  rw [← hlo]
  have hS : va_S A s.heap H locs := by rw [hH, hlo]; exact hS
  refine lv_aload_n hx hb dL_carry_0 rfl (lv_at hl 3 rfl) ?_
  refine lv_iconst (v := 0) hx hb dL_carry_1 (by decide) ?_
  refine lv_aload_n hx hb dL_carry_2 rfl (lv_at hl 0 rfl) ?_
  refine lv_iload_n hx hb dL_carry_3 rfl (lv_at hl 1 rfl) ?_
  refine lv_iload_n hx hb dL_carry_4 rfl (lv_at hl 2 rfl) ?_
  refine kVT (As := [.int x1, .int x2]) (rest := [.int (0 : Int32), .ref a_out]) (ws' := (wdXO cI cJ a_t a_row a_row_signs a_work a_work_signs a_rest a_rest_signs a_bag a_bag_often a_smooth a_smooth_madeFor a_smooth_weight a_smooth_inCell a_smooth_all a_smooth_starting a_text a_text_codes a_saves a_saves_slots a_out (X.1, X.2.1, o.2.1, X.2.2.2.1, X.2.2.2.2.1, X.2.2.2.2.2.1, X.2.2.2.2.2.2.1, X.2.2.2.2.2.2.2.1, X.2.2.2.2.2.2.2.2.1, X.2.2.2.2.2.2.2.2.2.1, X.2.2.2.2.2.2.2.2.2.2.1, X.2.2.2.2.2.2.2.2.2.2.2.1, X.2.2.2.2.2.2.2.2.2.2.2.2.1, X.2.2.2.2.2.2.2.2.2.2.2.2.2.1, X.2.2.2.2.2.2.2.2.2.2.2.2.2.2.1, X.2.2.2.2.2.2.2.2.2.2.2.2.2.2.2.1, o.2.2.1, o.2.2.2) O)) ⟨hx, hb, hml, hown, hts⟩ (c_X5_carry_T l D cI hl0 a_t a_row a_work a_rest a_bag a_smooth a_text a_saves a_row_signs a_saves_slots H.size X.1 X.2.1 X.2.2.1 X.2.2.2.2.2.2.2.2.2.2.2.2.2.2.2.2.1 X.2.2.2.2.2.2.2.2.2.2.2.2.2.2.2.2.2 x1 x2 o ho) (cwV 2 hts mw_L_36 rfl rfl rfl hd_X5_carry ⟨Nat.le_of_ble_eq_true rfl, Nat.le_of_ble_eq_true rfl⟩) hS hA hG (hK.sub [0] rfl) hP hD [0, 1, 2, 17, 18] rfl rfl rfl rfl rfl ⟨Nat.le_of_ble_eq_true rfl, Nat.le_of_ble_eq_true rfl⟩ 5 0 rfl rfl rfl rfl hl.1 rfl (Nat.le_of_ble_eq_true rfl) dL_carry_5 (fun H locs q9 ce hP hD hS hce hcv hcl => ?_)
  rw [show kX o.1 = "java/lang/IndexOutOfBoundsException" by rw [hk9]; rfl] at hcl
  refine vx_catch (name := "java/lang/IndexOutOfBoundsException") hown [] ⟨0, 10, 13, 31⟩ [⟨0, 10, 17, 13⟩] (by rw [htab]; rfl) (fun z hz => by cases hz) (by decide) (by decide) (hts _ k3_147) (va_Nw.use rfl (hG.2.2.2.2.1 _ (by decide))) hce hcv hcl ?_
  refine lv_astore (lv' := [(4, .ref q9), (0, .ref a_t), (1, .int x1), (2, .int x2), (3, .ref a_out)]) hx hb dL_carry_13 hl (by decide) rfl (fun ls hl => ?_)
  refine lv_iconst (v := 1) hx hb dL_carry_15 (by decide) ?_
  exact hret H locs ls 16 (1 : Int32) _ hP hS rfl rfl dL_carry_16
set_option maxHeartbeats 4000000 in
set_option maxRecDepth 100000 in
theorem cL_carry_T1 (l : Launch) (hl0 : l.stackTraces = false) (D : va_G) (cI cJ : ClassId) (a_t a_row a_row_signs a_work a_work_signs a_rest a_rest_signs a_bag a_bag_often a_smooth a_smooth_madeFor a_smooth_weight a_smooth_inCell a_smooth_all a_smooth_starting a_text a_text_codes a_saves a_saves_slots a_out : Nat) (sz : Nat) (X : XS) (O : Nat → Int64) (x1 : Int32) (x2 : Int32) (X' : XS) (hF : G_X5_carry_T X x1 x2 = some (1, X')) : Met l yL_carry (Cond.codeWith yL_carry cL_carry 5 (some .int) [(0, 10, 13, 31), (0, 10, 17, 13)] :: WL) rm_L_carry_T (preM D [(cI, .int), (cJ, .long)] (wdXO cI cJ a_t a_row a_row_signs a_work a_work_signs a_rest a_rest_signs a_bag a_bag_often a_smooth a_smooth_madeFor a_smooth_weight a_smooth_inCell a_smooth_all a_smooth_starting a_text a_text_codes a_saves a_saves_slots a_out X O) sz [.ref a_t, .int x1, .int x2, .ref a_out]) (postI D 2 (wdXO cI cJ a_t a_row a_row_signs a_work a_work_signs a_rest a_rest_signs a_bag a_bag_often a_smooth a_smooth_madeFor a_smooth_weight a_smooth_inCell a_smooth_all a_smooth_starting a_text a_text_codes a_saves a_saves_slots a_out X' O) (wdXO cI cJ a_t a_row a_row_signs a_work a_work_signs a_rest a_rest_signs a_bag a_bag_often a_smooth a_smooth_madeFor a_smooth_weight a_smooth_inCell a_smooth_all a_smooth_starting a_text a_text_codes a_saves a_saves_slots a_out X O) sz) 1 6 (va_A (wdXO cI cJ a_t a_row a_row_signs a_work a_work_signs a_rest a_rest_signs a_bag a_bag_often a_smooth a_smooth_madeFor a_smooth_weight a_smooth_inCell a_smooth_all a_smooth_starting a_text a_text_codes a_saves a_saves_slots a_out X O) sz) := by
  unfold G_X5_carry_T at hF
  obtain ⟨o, ho, he⟩ := Option.map_eq_some_iff.mp hF
  obtain ⟨hk9, rfl⟩ := Prod.mk.inj he
  refine mofWI (by decide +kernel) (Nat.le_of_ble_eq_true rfl) ?_
  intro p e s m args below meth c Q A ls hx hb hml hown hts hK hP hD hS hA hG hl htab hret hsz0
  have hl : lv_has ls 5 [(0, .ref a_t), (1, .int x1), (2, .int x2), (3, .ref a_out)] := hl
  have hP : va_P D vwCl (wdXO cI cJ a_t a_row a_row_signs a_work a_work_signs a_rest a_rest_signs a_bag a_bag_often a_smooth a_smooth_madeFor a_smooth_weight a_smooth_inCell a_smooth_all a_smooth_starting a_text a_text_codes a_saves a_saves_slots a_out X O) s.heap := hP
  obtain ⟨H, hH⟩ : ∃ H, H = s.heap := ⟨_, rfl⟩
  rw [← hH]
  rw [← hH] at hP
  obtain ⟨locs, hlo⟩ : ∃ z : List Loc, z = [] := ⟨_, rfl⟩
  rw [← hlo]
  have hS : va_S A s.heap H locs := by rw [hH, hlo]; exact hS
  refine lv_aload_n hx hb dL_carry_0 rfl (lv_at hl 3 rfl) ?_
  refine lv_iconst (v := 0) hx hb dL_carry_1 (by decide) ?_
  refine lv_aload_n hx hb dL_carry_2 rfl (lv_at hl 0 rfl) ?_
  refine lv_iload_n hx hb dL_carry_3 rfl (lv_at hl 1 rfl) ?_
  refine lv_iload_n hx hb dL_carry_4 rfl (lv_at hl 2 rfl) ?_
  refine kVT (As := [.int x1, .int x2]) (rest := [.int (0 : Int32), .ref a_out]) (ws' := (wdXO cI cJ a_t a_row a_row_signs a_work a_work_signs a_rest a_rest_signs a_bag a_bag_often a_smooth a_smooth_madeFor a_smooth_weight a_smooth_inCell a_smooth_all a_smooth_starting a_text a_text_codes a_saves a_saves_slots a_out (X.1, X.2.1, o.2.1, X.2.2.2.1, X.2.2.2.2.1, X.2.2.2.2.2.1, X.2.2.2.2.2.2.1, X.2.2.2.2.2.2.2.1, X.2.2.2.2.2.2.2.2.1, X.2.2.2.2.2.2.2.2.2.1, X.2.2.2.2.2.2.2.2.2.2.1, X.2.2.2.2.2.2.2.2.2.2.2.1, X.2.2.2.2.2.2.2.2.2.2.2.2.1, X.2.2.2.2.2.2.2.2.2.2.2.2.2.1, X.2.2.2.2.2.2.2.2.2.2.2.2.2.2.1, X.2.2.2.2.2.2.2.2.2.2.2.2.2.2.2.1, o.2.2.1, o.2.2.2) O)) ⟨hx, hb, hml, hown, hts⟩ (c_X5_carry_T l D cI hl0 a_t a_row a_work a_rest a_bag a_smooth a_text a_saves a_row_signs a_saves_slots H.size X.1 X.2.1 X.2.2.1 X.2.2.2.2.2.2.2.2.2.2.2.2.2.2.2.2.1 X.2.2.2.2.2.2.2.2.2.2.2.2.2.2.2.2.2 x1 x2 o ho) (cwV 2 hts mw_L_36 rfl rfl rfl hd_X5_carry ⟨Nat.le_of_ble_eq_true rfl, Nat.le_of_ble_eq_true rfl⟩) hS hA hG (hK.sub [0] rfl) hP hD [0, 1, 2, 17, 18] rfl rfl rfl rfl rfl ⟨Nat.le_of_ble_eq_true rfl, Nat.le_of_ble_eq_true rfl⟩ 5 0 rfl rfl rfl rfl hl.1 rfl (Nat.le_of_ble_eq_true rfl) dL_carry_5 (fun H locs q9 ce hP hD hS hce hcv hcl => ?_)
  rw [show kX o.1 = "java/lang/IllegalArgumentException" by rw [hk9]; rfl] at hcl
  refine vx_catch (name := "java/lang/IllegalArgumentException") hown [⟨0, 10, 13, 31⟩] ⟨0, 10, 17, 13⟩ [] (by rw [htab]; rfl) (fun z hz => by rw [List.mem_singleton.mp hz]; exact Or.inr ⟨by decide, _, hts _ k3_147, hG.2.2.2.2.2.1 ("java/lang/IllegalArgumentException", "java/lang/IndexOutOfBoundsException") (by decide)⟩) (by decide) (by decide) (hts _ k3_95) (va_Nw.use rfl (hG.2.2.2.2.1 _ (by decide))) hce hcv hcl ?_
  refine lv_astore (lv' := [(4, .ref q9), (0, .ref a_t), (1, .int x1), (2, .int x2), (3, .ref a_out)]) hx hb dL_carry_17 hl (by decide) rfl (fun ls hl => ?_)
  refine lv_iconst (v := 2) hx hb dL_carry_19 (by decide) ?_
  exact hret H locs ls 20 (2 : Int32) _ hP hS rfl rfl dL_carry_20
theorem mw_L_39 : GoodIn WL (wsV RL 39 RX5 yX5_put (Cond.code yX5_put cX5_put 3 (some .int) :: WL)) := gV_of k3_178 k3_179 k3_180 k1_1 k3_181
def rm_L_put : Room := { frames := 5, cells := 0, slots := 0, locals := 112 }
set_option maxHeartbeats 4000000 in
set_option maxRecDepth 100000 in
theorem cL_put_N (l : Launch) (D : va_G) (cI cJ : ClassId) (a_t a_row a_row_signs a_work a_work_signs a_rest a_rest_signs a_bag a_bag_often a_smooth a_smooth_madeFor a_smooth_weight a_smooth_inCell a_smooth_all a_smooth_starting a_text a_text_codes a_saves a_saves_slots a_out : Nat) (sz : Nat) (X : XS) (O : Nat → Int64) (x1 : Int32) (x2 : Int32) (r : Int32) (X' : XS) (hF : G_X5_put X x1 x2 = some (r, X')) : Met l yL_put (Cond.codeWith yL_put cL_put 5 (some .int) [(0, 10, 13, 31), (0, 10, 17, 13), (0, 10, 21, 18)] :: WL) rm_L_put (preM D [(cI, .int), (cJ, .long)] (wdXO cI cJ a_t a_row a_row_signs a_work a_work_signs a_rest a_rest_signs a_bag a_bag_often a_smooth a_smooth_madeFor a_smooth_weight a_smooth_inCell a_smooth_all a_smooth_starting a_text a_text_codes a_saves a_saves_slots a_out X O) sz [.ref a_t, .int x1, .int x2, .ref a_out]) (postI D 0 (wdXO cI cJ a_t a_row a_row_signs a_work a_work_signs a_rest a_rest_signs a_bag a_bag_often a_smooth a_smooth_madeFor a_smooth_weight a_smooth_inCell a_smooth_all a_smooth_starting a_text a_text_codes a_saves a_saves_slots a_out X' (vp_updL O (0 : Int32).toNatClampNeg (r).toInt64)) (wdXO cI cJ a_t a_row a_row_signs a_work a_work_signs a_rest a_rest_signs a_bag a_bag_often a_smooth a_smooth_madeFor a_smooth_weight a_smooth_inCell a_smooth_all a_smooth_starting a_text a_text_codes a_saves a_saves_slots a_out X O) sz) 0 0 (va_A (wdXO cI cJ a_t a_row a_row_signs a_work a_work_signs a_rest a_rest_signs a_bag a_bag_often a_smooth a_smooth_madeFor a_smooth_weight a_smooth_inCell a_smooth_all a_smooth_starting a_text a_text_codes a_saves a_saves_slots a_out X O) sz) := by
  unfold G_X5_put at hF
  obtain ⟨o, ho, he⟩ := Option.map_eq_some_iff.mp hF
  obtain ⟨rfl, rfl⟩ := Prod.mk.inj he
  refine mofWI (by decide +kernel) (Nat.le_of_ble_eq_true rfl) ?_
  intro p e s m args below meth c Q A ls hx hb hml hown hts hK hP hD hS hA hG hl htab hret hsz0
  have hl : lv_has ls 5 [(0, .ref a_t), (1, .int x1), (2, .int x2), (3, .ref a_out)] := hl
  have hP : va_P D vwCl (wdXO cI cJ a_t a_row a_row_signs a_work a_work_signs a_rest a_rest_signs a_bag a_bag_often a_smooth a_smooth_madeFor a_smooth_weight a_smooth_inCell a_smooth_all a_smooth_starting a_text a_text_codes a_saves a_saves_slots a_out X O) s.heap := hP
  obtain ⟨H, hH⟩ : ∃ H, H = s.heap := ⟨_, rfl⟩
  rw [← hH]
  rw [← hH] at hP
  obtain ⟨locs, hlo⟩ : ∃ z : List Loc, z = [] := ⟨_, rfl⟩
  rw [← hlo]
  have hS : va_S A s.heap H locs := by rw [hH, hlo]; exact hS
  refine lv_aload_n hx hb dL_put_0 rfl (lv_at hl 3 rfl) ?_
  refine lv_iconst (v := 0) hx hb dL_put_1 (by decide) ?_
  refine lv_aload_n hx hb dL_put_2 rfl (lv_at hl 0 rfl) ?_
  refine lv_iload_n hx hb dL_put_3 rfl (lv_at hl 1 rfl) ?_
  refine lv_iload_n hx hb dL_put_4 rfl (lv_at hl 2 rfl) ?_
  refine kVI (As := [.int x1, .int x2]) (rest := [.int (0 : Int32), .ref a_out]) (ws' := (wdXO cI cJ a_t a_row a_row_signs a_work a_work_signs a_rest a_rest_signs a_bag a_bag_often a_smooth a_smooth_madeFor a_smooth_weight a_smooth_inCell a_smooth_all a_smooth_starting a_text a_text_codes a_saves a_saves_slots a_out (X.1, o.2.2.2.1, o.2.2.2.2.1, X.2.2.2.1, X.2.2.2.2.1, X.2.2.2.2.2.1, X.2.2.2.2.2.2.1, o.2.1, o.2.2.1, X.2.2.2.2.2.2.2.2.2.1, X.2.2.2.2.2.2.2.2.2.2.1, X.2.2.2.2.2.2.2.2.2.2.2.1, X.2.2.2.2.2.2.2.2.2.2.2.2.1, X.2.2.2.2.2.2.2.2.2.2.2.2.2.1, X.2.2.2.2.2.2.2.2.2.2.2.2.2.2.1, X.2.2.2.2.2.2.2.2.2.2.2.2.2.2.2.1, o.2.2.2.2.2.1, o.2.2.2.2.2.2) O)) ⟨hx, hb, hml, hown, hts⟩ (c_X5_put l D cI a_t a_row a_work a_rest a_bag a_smooth a_text a_saves a_bag_often a_row_signs a_saves_slots H.size X.1 X.2.2.2.2.2.2.2.1 X.2.2.2.2.2.2.2.2.1 X.2.1 X.2.2.1 X.2.2.2.2.2.2.2.2.2.2.2.2.2.2.2.2.1 X.2.2.2.2.2.2.2.2.2.2.2.2.2.2.2.2.2 x1 x2 o ho) (cwV 2 hts mw_L_39 rfl rfl rfl hd_X5_put ⟨Nat.le_of_ble_eq_true rfl, Nat.le_of_ble_eq_true rfl⟩) hS hA hG (hK.sub [0] rfl) hP hD [0, 7, 8, 1, 2, 17, 18] rfl rfl rfl rfl rfl ⟨Nat.zero_le _, Nat.zero_le _⟩ 5 0 rfl rfl rfl rfl hl.1 rfl (Nat.le_of_ble_eq_true rfl) dL_put_5 (fun H locs hP hD hS => ?_)
  refine lv_i2l hx hb dL_put_8 rfl ?_
  refine va_last hx hb hK hP hD hS 19 1 rfl rfl (vinb (by decide)) dL_put_9 (fun H locs hP hD hS => ?_)
  have hP : va_P D vwCl (wdXO cI cJ a_t a_row a_row_signs a_work a_work_signs a_rest a_rest_signs a_bag a_bag_often a_smooth a_smooth_madeFor a_smooth_weight a_smooth_inCell a_smooth_all a_smooth_starting a_text a_text_codes a_saves a_saves_slots a_out (X.1, o.2.2.2.1, o.2.2.2.2.1, X.2.2.2.1, X.2.2.2.2.1, X.2.2.2.2.2.1, X.2.2.2.2.2.2.1, o.2.1, o.2.2.1, X.2.2.2.2.2.2.2.2.2.1, X.2.2.2.2.2.2.2.2.2.2.1, X.2.2.2.2.2.2.2.2.2.2.2.1, X.2.2.2.2.2.2.2.2.2.2.2.2.1, X.2.2.2.2.2.2.2.2.2.2.2.2.2.1, X.2.2.2.2.2.2.2.2.2.2.2.2.2.2.1, X.2.2.2.2.2.2.2.2.2.2.2.2.2.2.2.1, o.2.2.2.2.2.1, o.2.2.2.2.2.2) (vp_updL O (0 : Int32).toNatClampNeg (o.1).toInt64)) H := hP
  refine lv_goto (tgt := 25) hx hb dL_put_10 (by decide) ?_
  refine lv_iconst (v := 0) hx hb dL_put_25 (by decide) ?_
  exact hret H locs ls 26 (0 : Int32) _ hP hS rfl rfl dL_put_26
def rm_L_put_T : Room := { frames := 9, cells := 1, slots := 6, locals := 152 }
set_option maxHeartbeats 4000000 in
set_option maxRecDepth 100000 in
theorem cL_put_T3 (l : Launch) (hl0 : l.stackTraces = false) (D : va_G) (cI cJ : ClassId) (a_t a_row a_row_signs a_work a_work_signs a_rest a_rest_signs a_bag a_bag_often a_smooth a_smooth_madeFor a_smooth_weight a_smooth_inCell a_smooth_all a_smooth_starting a_text a_text_codes a_saves a_saves_slots a_out : Nat) (sz : Nat) (X : XS) (O : Nat → Int64) (x1 : Int32) (x2 : Int32) (X' : XS) (hF : G_X5_put_T X x1 x2 = some (3, X')) : Met l yL_put (Cond.codeWith yL_put cL_put 5 (some .int) [(0, 10, 13, 31), (0, 10, 17, 13), (0, 10, 21, 18)] :: WL) rm_L_put_T (preM D [(cI, .int), (cJ, .long)] (wdXO cI cJ a_t a_row a_row_signs a_work a_work_signs a_rest a_rest_signs a_bag a_bag_often a_smooth a_smooth_madeFor a_smooth_weight a_smooth_inCell a_smooth_all a_smooth_starting a_text a_text_codes a_saves a_saves_slots a_out X O) sz [.ref a_t, .int x1, .int x2, .ref a_out]) (postI D 1 (wdXO cI cJ a_t a_row a_row_signs a_work a_work_signs a_rest a_rest_signs a_bag a_bag_often a_smooth a_smooth_madeFor a_smooth_weight a_smooth_inCell a_smooth_all a_smooth_starting a_text a_text_codes a_saves a_saves_slots a_out X' O) (wdXO cI cJ a_t a_row a_row_signs a_work a_work_signs a_rest a_rest_signs a_bag a_bag_often a_smooth a_smooth_madeFor a_smooth_weight a_smooth_inCell a_smooth_all a_smooth_starting a_text a_text_codes a_saves a_saves_slots a_out X O) sz) 1 6 (va_A (wdXO cI cJ a_t a_row a_row_signs a_work a_work_signs a_rest a_rest_signs a_bag a_bag_often a_smooth a_smooth_madeFor a_smooth_weight a_smooth_inCell a_smooth_all a_smooth_starting a_text a_text_codes a_saves a_saves_slots a_out X O) sz) := by
  unfold G_X5_put_T at hF
  obtain ⟨o, ho, he⟩ := Option.map_eq_some_iff.mp hF
  obtain ⟨hk9, rfl⟩ := Prod.mk.inj he
  refine mofWI (by decide +kernel) (Nat.le_of_ble_eq_true rfl) ?_
  intro p e s m args below meth c Q A ls hx hb hml hown hts hK hP hD hS hA hG hl htab hret hsz0
  have hl : lv_has ls 5 [(0, .ref a_t), (1, .int x1), (2, .int x2), (3, .ref a_out)] := hl
  have hP : va_P D vwCl (wdXO cI cJ a_t a_row a_row_signs a_work a_work_signs a_rest a_rest_signs a_bag a_bag_often a_smooth a_smooth_madeFor a_smooth_weight a_smooth_inCell a_smooth_all a_smooth_starting a_text a_text_codes a_saves a_saves_slots a_out X O) s.heap := hP
  obtain ⟨H, hH⟩ : ∃ H, H = s.heap := ⟨_, rfl⟩
  rw [← hH]
  rw [← hH] at hP
  obtain ⟨locs, hlo⟩ : ∃ z : List Loc, z = [] := ⟨_, rfl⟩
  rw [← hlo]
  have hS : va_S A s.heap H locs := by rw [hH, hlo]; exact hS
  refine lv_aload_n hx hb dL_put_0 rfl (lv_at hl 3 rfl) ?_
  refine lv_iconst (v := 0) hx hb dL_put_1 (by decide) ?_
  refine lv_aload_n hx hb dL_put_2 rfl (lv_at hl 0 rfl) ?_
  refine lv_iload_n hx hb dL_put_3 rfl (lv_at hl 1 rfl) ?_
  refine lv_iload_n hx hb dL_put_4 rfl (lv_at hl 2 rfl) ?_
  refine kVT (As := [.int x1, .int x2]) (rest := [.int (0 : Int32), .ref a_out]) (ws' := (wdXO cI cJ a_t a_row a_row_signs a_work a_work_signs a_rest a_rest_signs a_bag a_bag_often a_smooth a_smooth_madeFor a_smooth_weight a_smooth_inCell a_smooth_all a_smooth_starting a_text a_text_codes a_saves a_saves_slots a_out (X.1, o.2.2.2.1, o.2.2.2.2.1, X.2.2.2.1, X.2.2.2.2.1, X.2.2.2.2.2.1, X.2.2.2.2.2.2.1, o.2.1, o.2.2.1, X.2.2.2.2.2.2.2.2.2.1, X.2.2.2.2.2.2.2.2.2.2.1, X.2.2.2.2.2.2.2.2.2.2.2.1, X.2.2.2.2.2.2.2.2.2.2.2.2.1, X.2.2.2.2.2.2.2.2.2.2.2.2.2.1, X.2.2.2.2.2.2.2.2.2.2.2.2.2.2.1, X.2.2.2.2.2.2.2.2.2.2.2.2.2.2.2.1, o.2.2.2.2.2.1, o.2.2.2.2.2.2) O)) ⟨hx, hb, hml, hown, hts⟩ (c_X5_put_T l D cI hl0 a_t a_row a_work a_rest a_bag a_smooth a_text a_saves a_bag_often a_row_signs a_saves_slots H.size X.1 X.2.2.2.2.2.2.2.1 X.2.2.2.2.2.2.2.2.1 X.2.1 X.2.2.1 X.2.2.2.2.2.2.2.2.2.2.2.2.2.2.2.2.1 X.2.2.2.2.2.2.2.2.2.2.2.2.2.2.2.2.2 x1 x2 o ho) (cwV 2 hts mw_L_39 rfl rfl rfl hd_X5_put ⟨Nat.le_of_ble_eq_true rfl, Nat.le_of_ble_eq_true rfl⟩) hS hA hG (hK.sub [0] rfl) hP hD [0, 7, 8, 1, 2, 17, 18] rfl rfl rfl rfl rfl ⟨Nat.le_of_ble_eq_true rfl, Nat.le_of_ble_eq_true rfl⟩ 5 0 rfl rfl rfl rfl hl.1 rfl (Nat.le_of_ble_eq_true rfl) dL_put_5 (fun H locs q9 ce hP hD hS hce hcv hcl => ?_)
  rw [show kX o.1 = "java/lang/IndexOutOfBoundsException" by rw [hk9]; rfl] at hcl
  refine vx_catch (name := "java/lang/IndexOutOfBoundsException") hown [] ⟨0, 10, 13, 31⟩ [⟨0, 10, 17, 13⟩, ⟨0, 10, 21, 18⟩] (by rw [htab]; rfl) (fun z hz => by cases hz) (by decide) (by decide) (hts _ k3_147) (va_Nw.use rfl (hG.2.2.2.2.1 _ (by decide))) hce hcv hcl ?_
  refine lv_astore (lv' := [(4, .ref q9), (0, .ref a_t), (1, .int x1), (2, .int x2), (3, .ref a_out)]) hx hb dL_put_13 hl (by decide) rfl (fun ls hl => ?_)
  refine lv_iconst (v := 1) hx hb dL_put_15 (by decide) ?_
  exact hret H locs ls 16 (1 : Int32) _ hP hS rfl rfl dL_put_16
set_option maxHeartbeats 4000000 in
set_option maxRecDepth 100000 in
theorem cL_put_T1 (l : Launch) (hl0 : l.stackTraces = false) (D : va_G) (cI cJ : ClassId) (a_t a_row a_row_signs a_work a_work_signs a_rest a_rest_signs a_bag a_bag_often a_smooth a_smooth_madeFor a_smooth_weight a_smooth_inCell a_smooth_all a_smooth_starting a_text a_text_codes a_saves a_saves_slots a_out : Nat) (sz : Nat) (X : XS) (O : Nat → Int64) (x1 : Int32) (x2 : Int32) (X' : XS) (hF : G_X5_put_T X x1 x2 = some (1, X')) : Met l yL_put (Cond.codeWith yL_put cL_put 5 (some .int) [(0, 10, 13, 31), (0, 10, 17, 13), (0, 10, 21, 18)] :: WL) rm_L_put_T (preM D [(cI, .int), (cJ, .long)] (wdXO cI cJ a_t a_row a_row_signs a_work a_work_signs a_rest a_rest_signs a_bag a_bag_often a_smooth a_smooth_madeFor a_smooth_weight a_smooth_inCell a_smooth_all a_smooth_starting a_text a_text_codes a_saves a_saves_slots a_out X O) sz [.ref a_t, .int x1, .int x2, .ref a_out]) (postI D 2 (wdXO cI cJ a_t a_row a_row_signs a_work a_work_signs a_rest a_rest_signs a_bag a_bag_often a_smooth a_smooth_madeFor a_smooth_weight a_smooth_inCell a_smooth_all a_smooth_starting a_text a_text_codes a_saves a_saves_slots a_out X' O) (wdXO cI cJ a_t a_row a_row_signs a_work a_work_signs a_rest a_rest_signs a_bag a_bag_often a_smooth a_smooth_madeFor a_smooth_weight a_smooth_inCell a_smooth_all a_smooth_starting a_text a_text_codes a_saves a_saves_slots a_out X O) sz) 1 6 (va_A (wdXO cI cJ a_t a_row a_row_signs a_work a_work_signs a_rest a_rest_signs a_bag a_bag_often a_smooth a_smooth_madeFor a_smooth_weight a_smooth_inCell a_smooth_all a_smooth_starting a_text a_text_codes a_saves a_saves_slots a_out X O) sz) := by
  unfold G_X5_put_T at hF
  obtain ⟨o, ho, he⟩ := Option.map_eq_some_iff.mp hF
  obtain ⟨hk9, rfl⟩ := Prod.mk.inj he
  refine mofWI (by decide +kernel) (Nat.le_of_ble_eq_true rfl) ?_
  intro p e s m args below meth c Q A ls hx hb hml hown hts hK hP hD hS hA hG hl htab hret hsz0
  have hl : lv_has ls 5 [(0, .ref a_t), (1, .int x1), (2, .int x2), (3, .ref a_out)] := hl
  have hP : va_P D vwCl (wdXO cI cJ a_t a_row a_row_signs a_work a_work_signs a_rest a_rest_signs a_bag a_bag_often a_smooth a_smooth_madeFor a_smooth_weight a_smooth_inCell a_smooth_all a_smooth_starting a_text a_text_codes a_saves a_saves_slots a_out X O) s.heap := hP
  obtain ⟨H, hH⟩ : ∃ H, H = s.heap := ⟨_, rfl⟩
  rw [← hH]
  rw [← hH] at hP
  obtain ⟨locs, hlo⟩ : ∃ z : List Loc, z = [] := ⟨_, rfl⟩
  rw [← hlo]
  have hS : va_S A s.heap H locs := by rw [hH, hlo]; exact hS
  refine lv_aload_n hx hb dL_put_0 rfl (lv_at hl 3 rfl) ?_
  refine lv_iconst (v := 0) hx hb dL_put_1 (by decide) ?_
  refine lv_aload_n hx hb dL_put_2 rfl (lv_at hl 0 rfl) ?_
  refine lv_iload_n hx hb dL_put_3 rfl (lv_at hl 1 rfl) ?_
  refine lv_iload_n hx hb dL_put_4 rfl (lv_at hl 2 rfl) ?_
  refine kVT (As := [.int x1, .int x2]) (rest := [.int (0 : Int32), .ref a_out]) (ws' := (wdXO cI cJ a_t a_row a_row_signs a_work a_work_signs a_rest a_rest_signs a_bag a_bag_often a_smooth a_smooth_madeFor a_smooth_weight a_smooth_inCell a_smooth_all a_smooth_starting a_text a_text_codes a_saves a_saves_slots a_out (X.1, o.2.2.2.1, o.2.2.2.2.1, X.2.2.2.1, X.2.2.2.2.1, X.2.2.2.2.2.1, X.2.2.2.2.2.2.1, o.2.1, o.2.2.1, X.2.2.2.2.2.2.2.2.2.1, X.2.2.2.2.2.2.2.2.2.2.1, X.2.2.2.2.2.2.2.2.2.2.2.1, X.2.2.2.2.2.2.2.2.2.2.2.2.1, X.2.2.2.2.2.2.2.2.2.2.2.2.2.1, X.2.2.2.2.2.2.2.2.2.2.2.2.2.2.1, X.2.2.2.2.2.2.2.2.2.2.2.2.2.2.2.1, o.2.2.2.2.2.1, o.2.2.2.2.2.2) O)) ⟨hx, hb, hml, hown, hts⟩ (c_X5_put_T l D cI hl0 a_t a_row a_work a_rest a_bag a_smooth a_text a_saves a_bag_often a_row_signs a_saves_slots H.size X.1 X.2.2.2.2.2.2.2.1 X.2.2.2.2.2.2.2.2.1 X.2.1 X.2.2.1 X.2.2.2.2.2.2.2.2.2.2.2.2.2.2.2.2.1 X.2.2.2.2.2.2.2.2.2.2.2.2.2.2.2.2.2 x1 x2 o ho) (cwV 2 hts mw_L_39 rfl rfl rfl hd_X5_put ⟨Nat.le_of_ble_eq_true rfl, Nat.le_of_ble_eq_true rfl⟩) hS hA hG (hK.sub [0] rfl) hP hD [0, 7, 8, 1, 2, 17, 18] rfl rfl rfl rfl rfl ⟨Nat.le_of_ble_eq_true rfl, Nat.le_of_ble_eq_true rfl⟩ 5 0 rfl rfl rfl rfl hl.1 rfl (Nat.le_of_ble_eq_true rfl) dL_put_5 (fun H locs q9 ce hP hD hS hce hcv hcl => ?_)
  rw [show kX o.1 = "java/lang/IllegalArgumentException" by rw [hk9]; rfl] at hcl
  refine vx_catch (name := "java/lang/IllegalArgumentException") hown [⟨0, 10, 13, 31⟩] ⟨0, 10, 17, 13⟩ [⟨0, 10, 21, 18⟩] (by rw [htab]; rfl) (fun z hz => by rw [List.mem_singleton.mp hz]; exact Or.inr ⟨by decide, _, hts _ k3_147, hG.2.2.2.2.2.1 ("java/lang/IllegalArgumentException", "java/lang/IndexOutOfBoundsException") (by decide)⟩) (by decide) (by decide) (hts _ k3_95) (va_Nw.use rfl (hG.2.2.2.2.1 _ (by decide))) hce hcv hcl ?_
  refine lv_astore (lv' := [(4, .ref q9), (0, .ref a_t), (1, .int x1), (2, .int x2), (3, .ref a_out)]) hx hb dL_put_17 hl (by decide) rfl (fun ls hl => ?_)
  refine lv_iconst (v := 2) hx hb dL_put_19 (by decide) ?_
  exact hret H locs ls 20 (2 : Int32) _ hP hS rfl rfl dL_put_20
set_option maxHeartbeats 4000000 in
set_option maxRecDepth 100000 in
theorem cL_put_T2 (l : Launch) (hl0 : l.stackTraces = false) (D : va_G) (cI cJ : ClassId) (a_t a_row a_row_signs a_work a_work_signs a_rest a_rest_signs a_bag a_bag_often a_smooth a_smooth_madeFor a_smooth_weight a_smooth_inCell a_smooth_all a_smooth_starting a_text a_text_codes a_saves a_saves_slots a_out : Nat) (sz : Nat) (X : XS) (O : Nat → Int64) (x1 : Int32) (x2 : Int32) (X' : XS) (hF : G_X5_put_T X x1 x2 = some (2, X')) : Met l yL_put (Cond.codeWith yL_put cL_put 5 (some .int) [(0, 10, 13, 31), (0, 10, 17, 13), (0, 10, 21, 18)] :: WL) rm_L_put_T (preM D [(cI, .int), (cJ, .long)] (wdXO cI cJ a_t a_row a_row_signs a_work a_work_signs a_rest a_rest_signs a_bag a_bag_often a_smooth a_smooth_madeFor a_smooth_weight a_smooth_inCell a_smooth_all a_smooth_starting a_text a_text_codes a_saves a_saves_slots a_out X O) sz [.ref a_t, .int x1, .int x2, .ref a_out]) (postI D 3 (wdXO cI cJ a_t a_row a_row_signs a_work a_work_signs a_rest a_rest_signs a_bag a_bag_often a_smooth a_smooth_madeFor a_smooth_weight a_smooth_inCell a_smooth_all a_smooth_starting a_text a_text_codes a_saves a_saves_slots a_out X' O) (wdXO cI cJ a_t a_row a_row_signs a_work a_work_signs a_rest a_rest_signs a_bag a_bag_often a_smooth a_smooth_madeFor a_smooth_weight a_smooth_inCell a_smooth_all a_smooth_starting a_text a_text_codes a_saves a_saves_slots a_out X O) sz) 1 6 (va_A (wdXO cI cJ a_t a_row a_row_signs a_work a_work_signs a_rest a_rest_signs a_bag a_bag_often a_smooth a_smooth_madeFor a_smooth_weight a_smooth_inCell a_smooth_all a_smooth_starting a_text a_text_codes a_saves a_saves_slots a_out X O) sz) := by
  unfold G_X5_put_T at hF
  obtain ⟨o, ho, he⟩ := Option.map_eq_some_iff.mp hF
  obtain ⟨hk9, rfl⟩ := Prod.mk.inj he
  refine mofWI (by decide +kernel) (Nat.le_of_ble_eq_true rfl) ?_
  intro p e s m args below meth c Q A ls hx hb hml hown hts hK hP hD hS hA hG hl htab hret hsz0
  have hl : lv_has ls 5 [(0, .ref a_t), (1, .int x1), (2, .int x2), (3, .ref a_out)] := hl
  have hP : va_P D vwCl (wdXO cI cJ a_t a_row a_row_signs a_work a_work_signs a_rest a_rest_signs a_bag a_bag_often a_smooth a_smooth_madeFor a_smooth_weight a_smooth_inCell a_smooth_all a_smooth_starting a_text a_text_codes a_saves a_saves_slots a_out X O) s.heap := hP
  obtain ⟨H, hH⟩ : ∃ H, H = s.heap := ⟨_, rfl⟩
  rw [← hH]
  rw [← hH] at hP
  obtain ⟨locs, hlo⟩ : ∃ z : List Loc, z = [] := ⟨_, rfl⟩
  rw [← hlo]
  have hS : va_S A s.heap H locs := by rw [hH, hlo]; exact hS
  refine lv_aload_n hx hb dL_put_0 rfl (lv_at hl 3 rfl) ?_
  refine lv_iconst (v := 0) hx hb dL_put_1 (by decide) ?_
  refine lv_aload_n hx hb dL_put_2 rfl (lv_at hl 0 rfl) ?_
  refine lv_iload_n hx hb dL_put_3 rfl (lv_at hl 1 rfl) ?_
  refine lv_iload_n hx hb dL_put_4 rfl (lv_at hl 2 rfl) ?_
  refine kVT (As := [.int x1, .int x2]) (rest := [.int (0 : Int32), .ref a_out]) (ws' := (wdXO cI cJ a_t a_row a_row_signs a_work a_work_signs a_rest a_rest_signs a_bag a_bag_often a_smooth a_smooth_madeFor a_smooth_weight a_smooth_inCell a_smooth_all a_smooth_starting a_text a_text_codes a_saves a_saves_slots a_out (X.1, o.2.2.2.1, o.2.2.2.2.1, X.2.2.2.1, X.2.2.2.2.1, X.2.2.2.2.2.1, X.2.2.2.2.2.2.1, o.2.1, o.2.2.1, X.2.2.2.2.2.2.2.2.2.1, X.2.2.2.2.2.2.2.2.2.2.1, X.2.2.2.2.2.2.2.2.2.2.2.1, X.2.2.2.2.2.2.2.2.2.2.2.2.1, X.2.2.2.2.2.2.2.2.2.2.2.2.2.1, X.2.2.2.2.2.2.2.2.2.2.2.2.2.2.1, X.2.2.2.2.2.2.2.2.2.2.2.2.2.2.2.1, o.2.2.2.2.2.1, o.2.2.2.2.2.2) O)) ⟨hx, hb, hml, hown, hts⟩ (c_X5_put_T l D cI hl0 a_t a_row a_work a_rest a_bag a_smooth a_text a_saves a_bag_often a_row_signs a_saves_slots H.size X.1 X.2.2.2.2.2.2.2.1 X.2.2.2.2.2.2.2.2.1 X.2.1 X.2.2.1 X.2.2.2.2.2.2.2.2.2.2.2.2.2.2.2.2.1 X.2.2.2.2.2.2.2.2.2.2.2.2.2.2.2.2.2 x1 x2 o ho) (cwV 2 hts mw_L_39 rfl rfl rfl hd_X5_put ⟨Nat.le_of_ble_eq_true rfl, Nat.le_of_ble_eq_true rfl⟩) hS hA hG (hK.sub [0] rfl) hP hD [0, 7, 8, 1, 2, 17, 18] rfl rfl rfl rfl rfl ⟨Nat.le_of_ble_eq_true rfl, Nat.le_of_ble_eq_true rfl⟩ 5 0 rfl rfl rfl rfl hl.1 rfl (Nat.le_of_ble_eq_true rfl) dL_put_5 (fun H locs q9 ce hP hD hS hce hcv hcl => ?_)
  rw [show kX o.1 = "java/lang/IllegalStateException" by rw [hk9]; rfl] at hcl
  refine vx_catch (name := "java/lang/IllegalStateException") hown [⟨0, 10, 13, 31⟩, ⟨0, 10, 17, 13⟩] ⟨0, 10, 21, 18⟩ [] (by rw [htab]; rfl) (fun z hz => (List.mem_cons.mp hz).elim (fun h => by rw [h]; exact Or.inr ⟨by decide, _, hts _ k3_147, hG.2.2.2.2.2.1 ("java/lang/IllegalStateException", "java/lang/IndexOutOfBoundsException") (by decide)⟩) (fun h => by rw [List.mem_singleton.mp h]; exact Or.inr ⟨by decide, _, hts _ k3_95, hG.2.2.2.2.2.1 ("java/lang/IllegalStateException", "java/lang/IllegalArgumentException") (by decide)⟩)) (by decide) (by decide) (hts _ k3_103) (va_Nw.use rfl (hG.2.2.2.2.1 _ (by decide))) hce hcv hcl ?_
  refine lv_astore (lv' := [(4, .ref q9), (0, .ref a_t), (1, .int x1), (2, .int x2), (3, .ref a_out)]) hx hb dL_put_21 hl (by decide) rfl (fun ls hl => ?_)
  refine lv_iconst (v := 3) hx hb dL_put_23 (by decide) ?_
  exact hret H locs ls 24 (3 : Int32) _ hP hS rfl rfl dL_put_24
theorem mw_L_42 : GoodIn WL (wsV RL 42 RX5 yX5_take (Cond.code yX5_take cX5_take 3 (some .int) :: WL)) := gV_of k3_190 k3_191 k3_192 k1_1 k3_193
def rm_L_take : Room := { frames := 5, cells := 0, slots := 0, locals := 109 }
set_option maxHeartbeats 4000000 in
set_option maxRecDepth 100000 in
theorem cL_take_N (l : Launch) (D : va_G) (cI cJ : ClassId) (a_t a_row a_row_signs a_work a_work_signs a_rest a_rest_signs a_bag a_bag_often a_smooth a_smooth_madeFor a_smooth_weight a_smooth_inCell a_smooth_all a_smooth_starting a_text a_text_codes a_saves a_saves_slots a_out : Nat) (sz : Nat) (X : XS) (O : Nat → Int64) (x1 : Int32) (r : Int32) (X' : XS) (hF : G_X5_take X x1 = some (r, X')) : Met l yL_take (Cond.codeWith yL_take cL_take 4 (some .int) [(0, 9, 12, 31), (0, 9, 15, 18)] :: WL) rm_L_take (preM D [(cI, .int), (cJ, .long)] (wdXO cI cJ a_t a_row a_row_signs a_work a_work_signs a_rest a_rest_signs a_bag a_bag_often a_smooth a_smooth_madeFor a_smooth_weight a_smooth_inCell a_smooth_all a_smooth_starting a_text a_text_codes a_saves a_saves_slots a_out X O) sz [.ref a_t, .int x1, .ref a_out]) (postI D 0 (wdXO cI cJ a_t a_row a_row_signs a_work a_work_signs a_rest a_rest_signs a_bag a_bag_often a_smooth a_smooth_madeFor a_smooth_weight a_smooth_inCell a_smooth_all a_smooth_starting a_text a_text_codes a_saves a_saves_slots a_out X' (vp_updL O (0 : Int32).toNatClampNeg (r).toInt64)) (wdXO cI cJ a_t a_row a_row_signs a_work a_work_signs a_rest a_rest_signs a_bag a_bag_often a_smooth a_smooth_madeFor a_smooth_weight a_smooth_inCell a_smooth_all a_smooth_starting a_text a_text_codes a_saves a_saves_slots a_out X O) sz) 0 0 (va_A (wdXO cI cJ a_t a_row a_row_signs a_work a_work_signs a_rest a_rest_signs a_bag a_bag_often a_smooth a_smooth_madeFor a_smooth_weight a_smooth_inCell a_smooth_all a_smooth_starting a_text a_text_codes a_saves a_saves_slots a_out X O) sz) := by
  unfold G_X5_take at hF
  obtain ⟨o, ho, he⟩ := Option.map_eq_some_iff.mp hF
  obtain ⟨rfl, rfl⟩ := Prod.mk.inj he
  refine mofWI (by decide +kernel) (Nat.le_of_ble_eq_true rfl) ?_
  intro p e s m args below meth c Q A ls hx hb hml hown hts hK hP hD hS hA hG hl htab hret hsz0
  have hl : lv_has ls 4 [(0, .ref a_t), (1, .int x1), (2, .ref a_out)] := hl
  have hP : va_P D vwCl (wdXO cI cJ a_t a_row a_row_signs a_work a_work_signs a_rest a_rest_signs a_bag a_bag_often a_smooth a_smooth_madeFor a_smooth_weight a_smooth_inCell a_smooth_all a_smooth_starting a_text a_text_codes a_saves a_saves_slots a_out X O) s.heap := hP
  obtain ⟨H, hH⟩ : ∃ H, H = s.heap := ⟨_, rfl⟩
  rw [← hH]
  rw [← hH] at hP
  obtain ⟨locs, hlo⟩ : ∃ z : List Loc, z = [] := ⟨_, rfl⟩
  rw [← hlo]
  have hS : va_S A s.heap H locs := by rw [hH, hlo]; exact hS
  refine lv_aload_n hx hb dL_take_0 rfl (lv_at hl 2 rfl) ?_
  refine lv_iconst (v := 0) hx hb dL_take_1 (by decide) ?_
  refine lv_aload_n hx hb dL_take_2 rfl (lv_at hl 0 rfl) ?_
  refine lv_iload_n hx hb dL_take_3 rfl (lv_at hl 1 rfl) ?_
  refine kVI (As := [.int x1]) (rest := [.int (0 : Int32), .ref a_out]) (ws' := (wdXO cI cJ a_t a_row a_row_signs a_work a_work_signs a_rest a_rest_signs a_bag a_bag_often a_smooth a_smooth_madeFor a_smooth_weight a_smooth_inCell a_smooth_all a_smooth_starting a_text a_text_codes a_saves a_saves_slots a_out (X.1, o.2.1, o.2.2.1, X.2.2.2.1, X.2.2.2.2.1, X.2.2.2.2.2.1, X.2.2.2.2.2.2.1, X.2.2.2.2.2.2.2.1, X.2.2.2.2.2.2.2.2.1, X.2.2.2.2.2.2.2.2.2.1, X.2.2.2.2.2.2.2.2.2.2.1, X.2.2.2.2.2.2.2.2.2.2.2.1, X.2.2.2.2.2.2.2.2.2.2.2.2.1, X.2.2.2.2.2.2.2.2.2.2.2.2.2.1, X.2.2.2.2.2.2.2.2.2.2.2.2.2.2.1, X.2.2.2.2.2.2.2.2.2.2.2.2.2.2.2.1, o.2.2.2.1, o.2.2.2.2) O)) ⟨hx, hb, hml, hown, hts⟩ (c_X5_take l D cI a_t a_row a_work a_rest a_bag a_smooth a_text a_saves a_row_signs a_saves_slots H.size X.1 X.2.1 X.2.2.1 X.2.2.2.2.2.2.2.2.2.2.2.2.2.2.2.2.1 X.2.2.2.2.2.2.2.2.2.2.2.2.2.2.2.2.2 x1 o ho) (cwV 1 hts mw_L_42 rfl rfl rfl hd_X5_take ⟨Nat.le_of_ble_eq_true rfl, Nat.le_of_ble_eq_true rfl⟩) hS hA hG (hK.sub [0] rfl) hP hD [0, 1, 2, 17, 18] rfl rfl rfl rfl rfl ⟨Nat.zero_le _, Nat.zero_le _⟩ 5 0 rfl rfl rfl rfl hl.1 rfl (Nat.le_of_ble_eq_true rfl) dL_take_4 (fun H locs hP hD hS => ?_)
  refine lv_i2l hx hb dL_take_7 rfl ?_
  refine va_last hx hb hK hP hD hS 19 1 rfl rfl (vinb (by decide)) dL_take_8 (fun H locs hP hD hS => ?_)
  have hP : va_P D vwCl (wdXO cI cJ a_t a_row a_row_signs a_work a_work_signs a_rest a_rest_signs a_bag a_bag_often a_smooth a_smooth_madeFor a_smooth_weight a_smooth_inCell a_smooth_all a_smooth_starting a_text a_text_codes a_saves a_saves_slots a_out (X.1, o.2.1, o.2.2.1, X.2.2.2.1, X.2.2.2.2.1, X.2.2.2.2.2.1, X.2.2.2.2.2.2.1, X.2.2.2.2.2.2.2.1, X.2.2.2.2.2.2.2.2.1, X.2.2.2.2.2.2.2.2.2.1, X.2.2.2.2.2.2.2.2.2.2.1, X.2.2.2.2.2.2.2.2.2.2.2.1, X.2.2.2.2.2.2.2.2.2.2.2.2.1, X.2.2.2.2.2.2.2.2.2.2.2.2.2.1, X.2.2.2.2.2.2.2.2.2.2.2.2.2.2.1, X.2.2.2.2.2.2.2.2.2.2.2.2.2.2.2.1, o.2.2.2.1, o.2.2.2.2) (vp_updL O (0 : Int32).toNatClampNeg (o.1).toInt64)) H := hP
  refine lv_goto (tgt := 18) hx hb dL_take_9 (by decide) ?_
  refine lv_iconst (v := 0) hx hb dL_take_18 (by decide) ?_
  exact hret H locs ls 19 (0 : Int32) _ hP hS rfl rfl dL_take_19
def rm_L_take_T : Room := { frames := 8, cells := 1, slots := 6, locals := 133 }
set_option maxHeartbeats 4000000 in
set_option maxRecDepth 100000 in
theorem cL_take_T3 (l : Launch) (hl0 : l.stackTraces = false) (D : va_G) (cI cJ : ClassId) (a_t a_row a_row_signs a_work a_work_signs a_rest a_rest_signs a_bag a_bag_often a_smooth a_smooth_madeFor a_smooth_weight a_smooth_inCell a_smooth_all a_smooth_starting a_text a_text_codes a_saves a_saves_slots a_out : Nat) (sz : Nat) (X : XS) (O : Nat → Int64) (x1 : Int32) (X' : XS) (hF : G_X5_take_T X x1 = some (3, X')) : Met l yL_take (Cond.codeWith yL_take cL_take 4 (some .int) [(0, 9, 12, 31), (0, 9, 15, 18)] :: WL) rm_L_take_T (preM D [(cI, .int), (cJ, .long)] (wdXO cI cJ a_t a_row a_row_signs a_work a_work_signs a_rest a_rest_signs a_bag a_bag_often a_smooth a_smooth_madeFor a_smooth_weight a_smooth_inCell a_smooth_all a_smooth_starting a_text a_text_codes a_saves a_saves_slots a_out X O) sz [.ref a_t, .int x1, .ref a_out]) (postI D 1 (wdXO cI cJ a_t a_row a_row_signs a_work a_work_signs a_rest a_rest_signs a_bag a_bag_often a_smooth a_smooth_madeFor a_smooth_weight a_smooth_inCell a_smooth_all a_smooth_starting a_text a_text_codes a_saves a_saves_slots a_out X' O) (wdXO cI cJ a_t a_row a_row_signs a_work a_work_signs a_rest a_rest_signs a_bag a_bag_often a_smooth a_smooth_madeFor a_smooth_weight a_smooth_inCell a_smooth_all a_smooth_starting a_text a_text_codes a_saves a_saves_slots a_out X O) sz) 1 6 (va_A (wdXO cI cJ a_t a_row a_row_signs a_work a_work_signs a_rest a_rest_signs a_bag a_bag_often a_smooth a_smooth_madeFor a_smooth_weight a_smooth_inCell a_smooth_all a_smooth_starting a_text a_text_codes a_saves a_saves_slots a_out X O) sz) := by
  unfold G_X5_take_T at hF
  obtain ⟨o, ho, he⟩ := Option.map_eq_some_iff.mp hF
  obtain ⟨hk9, rfl⟩ := Prod.mk.inj he
  refine mofWI (by decide +kernel) (Nat.le_of_ble_eq_true rfl) ?_
  intro p e s m args below meth c Q A ls hx hb hml hown hts hK hP hD hS hA hG hl htab hret hsz0
  have hl : lv_has ls 4 [(0, .ref a_t), (1, .int x1), (2, .ref a_out)] := hl
  have hP : va_P D vwCl (wdXO cI cJ a_t a_row a_row_signs a_work a_work_signs a_rest a_rest_signs a_bag a_bag_often a_smooth a_smooth_madeFor a_smooth_weight a_smooth_inCell a_smooth_all a_smooth_starting a_text a_text_codes a_saves a_saves_slots a_out X O) s.heap := hP
  obtain ⟨H, hH⟩ : ∃ H, H = s.heap := ⟨_, rfl⟩
  rw [← hH]
  rw [← hH] at hP
  obtain ⟨locs, hlo⟩ : ∃ z : List Loc, z = [] := ⟨_, rfl⟩
  rw [← hlo]
  have hS : va_S A s.heap H locs := by rw [hH, hlo]; exact hS
  refine lv_aload_n hx hb dL_take_0 rfl (lv_at hl 2 rfl) ?_
  refine lv_iconst (v := 0) hx hb dL_take_1 (by decide) ?_
  refine lv_aload_n hx hb dL_take_2 rfl (lv_at hl 0 rfl) ?_
  refine lv_iload_n hx hb dL_take_3 rfl (lv_at hl 1 rfl) ?_
  refine kVT (As := [.int x1]) (rest := [.int (0 : Int32), .ref a_out]) (ws' := (wdXO cI cJ a_t a_row a_row_signs a_work a_work_signs a_rest a_rest_signs a_bag a_bag_often a_smooth a_smooth_madeFor a_smooth_weight a_smooth_inCell a_smooth_all a_smooth_starting a_text a_text_codes a_saves a_saves_slots a_out (X.1, o.2.1, o.2.2.1, X.2.2.2.1, X.2.2.2.2.1, X.2.2.2.2.2.1, X.2.2.2.2.2.2.1, X.2.2.2.2.2.2.2.1, X.2.2.2.2.2.2.2.2.1, X.2.2.2.2.2.2.2.2.2.1, X.2.2.2.2.2.2.2.2.2.2.1, X.2.2.2.2.2.2.2.2.2.2.2.1, X.2.2.2.2.2.2.2.2.2.2.2.2.1, X.2.2.2.2.2.2.2.2.2.2.2.2.2.1, X.2.2.2.2.2.2.2.2.2.2.2.2.2.2.1, X.2.2.2.2.2.2.2.2.2.2.2.2.2.2.2.1, o.2.2.2.1, o.2.2.2.2) O)) ⟨hx, hb, hml, hown, hts⟩ (c_X5_take_T l D cI hl0 a_t a_row a_work a_rest a_bag a_smooth a_text a_saves a_row_signs a_saves_slots H.size X.1 X.2.1 X.2.2.1 X.2.2.2.2.2.2.2.2.2.2.2.2.2.2.2.2.1 X.2.2.2.2.2.2.2.2.2.2.2.2.2.2.2.2.2 x1 o ho) (cwV 1 hts mw_L_42 rfl rfl rfl hd_X5_take ⟨Nat.le_of_ble_eq_true rfl, Nat.le_of_ble_eq_true rfl⟩) hS hA hG (hK.sub [0] rfl) hP hD [0, 1, 2, 17, 18] rfl rfl rfl rfl rfl ⟨Nat.le_of_ble_eq_true rfl, Nat.le_of_ble_eq_true rfl⟩ 5 0 rfl rfl rfl rfl hl.1 rfl (Nat.le_of_ble_eq_true rfl) dL_take_4 (fun H locs q9 ce hP hD hS hce hcv hcl => ?_)
  rw [show kX o.1 = "java/lang/IndexOutOfBoundsException" by rw [hk9]; rfl] at hcl
  refine vx_catch (name := "java/lang/IndexOutOfBoundsException") hown [] ⟨0, 9, 12, 31⟩ [⟨0, 9, 15, 18⟩] (by rw [htab]; rfl) (fun z hz => by cases hz) (by decide) (by decide) (hts _ k3_147) (va_Nw.use rfl (hG.2.2.2.2.1 _ (by decide))) hce hcv hcl ?_
  refine lv_astore_n (lv' := [(3, .ref q9), (0, .ref a_t), (1, .int x1), (2, .ref a_out)]) hx hb dL_take_12 rfl hl (by decide) rfl (fun ls hl => ?_)
  refine lv_iconst (v := 1) hx hb dL_take_13 (by decide) ?_
  exact hret H locs ls 14 (1 : Int32) _ hP hS rfl rfl dL_take_14
set_option maxHeartbeats 4000000 in
set_option maxRecDepth 100000 in
theorem cL_take_T2 (l : Launch) (hl0 : l.stackTraces = false) (D : va_G) (cI cJ : ClassId) (a_t a_row a_row_signs a_work a_work_signs a_rest a_rest_signs a_bag a_bag_often a_smooth a_smooth_madeFor a_smooth_weight a_smooth_inCell a_smooth_all a_smooth_starting a_text a_text_codes a_saves a_saves_slots a_out : Nat) (sz : Nat) (X : XS) (O : Nat → Int64) (x1 : Int32) (X' : XS) (hF : G_X5_take_T X x1 = some (2, X')) : Met l yL_take (Cond.codeWith yL_take cL_take 4 (some .int) [(0, 9, 12, 31), (0, 9, 15, 18)] :: WL) rm_L_take_T (preM D [(cI, .int), (cJ, .long)] (wdXO cI cJ a_t a_row a_row_signs a_work a_work_signs a_rest a_rest_signs a_bag a_bag_often a_smooth a_smooth_madeFor a_smooth_weight a_smooth_inCell a_smooth_all a_smooth_starting a_text a_text_codes a_saves a_saves_slots a_out X O) sz [.ref a_t, .int x1, .ref a_out]) (postI D 2 (wdXO cI cJ a_t a_row a_row_signs a_work a_work_signs a_rest a_rest_signs a_bag a_bag_often a_smooth a_smooth_madeFor a_smooth_weight a_smooth_inCell a_smooth_all a_smooth_starting a_text a_text_codes a_saves a_saves_slots a_out X' O) (wdXO cI cJ a_t a_row a_row_signs a_work a_work_signs a_rest a_rest_signs a_bag a_bag_often a_smooth a_smooth_madeFor a_smooth_weight a_smooth_inCell a_smooth_all a_smooth_starting a_text a_text_codes a_saves a_saves_slots a_out X O) sz) 1 6 (va_A (wdXO cI cJ a_t a_row a_row_signs a_work a_work_signs a_rest a_rest_signs a_bag a_bag_often a_smooth a_smooth_madeFor a_smooth_weight a_smooth_inCell a_smooth_all a_smooth_starting a_text a_text_codes a_saves a_saves_slots a_out X O) sz) := by
  unfold G_X5_take_T at hF
  obtain ⟨o, ho, he⟩ := Option.map_eq_some_iff.mp hF
  obtain ⟨hk9, rfl⟩ := Prod.mk.inj he
  refine mofWI (by decide +kernel) (Nat.le_of_ble_eq_true rfl) ?_
  intro p e s m args below meth c Q A ls hx hb hml hown hts hK hP hD hS hA hG hl htab hret hsz0
  have hl : lv_has ls 4 [(0, .ref a_t), (1, .int x1), (2, .ref a_out)] := hl
  have hP : va_P D vwCl (wdXO cI cJ a_t a_row a_row_signs a_work a_work_signs a_rest a_rest_signs a_bag a_bag_often a_smooth a_smooth_madeFor a_smooth_weight a_smooth_inCell a_smooth_all a_smooth_starting a_text a_text_codes a_saves a_saves_slots a_out X O) s.heap := hP
  obtain ⟨H, hH⟩ : ∃ H, H = s.heap := ⟨_, rfl⟩
  rw [← hH]
  rw [← hH] at hP
  obtain ⟨locs, hlo⟩ : ∃ z : List Loc, z = [] := ⟨_, rfl⟩
  rw [← hlo]
  have hS : va_S A s.heap H locs := by rw [hH, hlo]; exact hS
  refine lv_aload_n hx hb dL_take_0 rfl (lv_at hl 2 rfl) ?_
  refine lv_iconst (v := 0) hx hb dL_take_1 (by decide) ?_
  refine lv_aload_n hx hb dL_take_2 rfl (lv_at hl 0 rfl) ?_
  refine lv_iload_n hx hb dL_take_3 rfl (lv_at hl 1 rfl) ?_
  refine kVT (As := [.int x1]) (rest := [.int (0 : Int32), .ref a_out]) (ws' := (wdXO cI cJ a_t a_row a_row_signs a_work a_work_signs a_rest a_rest_signs a_bag a_bag_often a_smooth a_smooth_madeFor a_smooth_weight a_smooth_inCell a_smooth_all a_smooth_starting a_text a_text_codes a_saves a_saves_slots a_out (X.1, o.2.1, o.2.2.1, X.2.2.2.1, X.2.2.2.2.1, X.2.2.2.2.2.1, X.2.2.2.2.2.2.1, X.2.2.2.2.2.2.2.1, X.2.2.2.2.2.2.2.2.1, X.2.2.2.2.2.2.2.2.2.1, X.2.2.2.2.2.2.2.2.2.2.1, X.2.2.2.2.2.2.2.2.2.2.2.1, X.2.2.2.2.2.2.2.2.2.2.2.2.1, X.2.2.2.2.2.2.2.2.2.2.2.2.2.1, X.2.2.2.2.2.2.2.2.2.2.2.2.2.2.1, X.2.2.2.2.2.2.2.2.2.2.2.2.2.2.2.1, o.2.2.2.1, o.2.2.2.2) O)) ⟨hx, hb, hml, hown, hts⟩ (c_X5_take_T l D cI hl0 a_t a_row a_work a_rest a_bag a_smooth a_text a_saves a_row_signs a_saves_slots H.size X.1 X.2.1 X.2.2.1 X.2.2.2.2.2.2.2.2.2.2.2.2.2.2.2.2.1 X.2.2.2.2.2.2.2.2.2.2.2.2.2.2.2.2.2 x1 o ho) (cwV 1 hts mw_L_42 rfl rfl rfl hd_X5_take ⟨Nat.le_of_ble_eq_true rfl, Nat.le_of_ble_eq_true rfl⟩) hS hA hG (hK.sub [0] rfl) hP hD [0, 1, 2, 17, 18] rfl rfl rfl rfl rfl ⟨Nat.le_of_ble_eq_true rfl, Nat.le_of_ble_eq_true rfl⟩ 5 0 rfl rfl rfl rfl hl.1 rfl (Nat.le_of_ble_eq_true rfl) dL_take_4 (fun H locs q9 ce hP hD hS hce hcv hcl => ?_)
  rw [show kX o.1 = "java/lang/IllegalStateException" by rw [hk9]; rfl] at hcl
  refine vx_catch (name := "java/lang/IllegalStateException") hown [⟨0, 9, 12, 31⟩] ⟨0, 9, 15, 18⟩ [] (by rw [htab]; rfl) (fun z hz => by rw [List.mem_singleton.mp hz]; exact Or.inr ⟨by decide, _, hts _ k3_147, hG.2.2.2.2.2.1 ("java/lang/IllegalStateException", "java/lang/IndexOutOfBoundsException") (by decide)⟩) (by decide) (by decide) (hts _ k3_103) (va_Nw.use rfl (hG.2.2.2.2.1 _ (by decide))) hce hcv hcl ?_
  refine lv_astore_n (lv' := [(3, .ref q9), (0, .ref a_t), (1, .int x1), (2, .ref a_out)]) hx hb dL_take_15 rfl hl (by decide) rfl (fun ls hl => ?_)
  refine lv_iconst (v := 2) hx hb dL_take_16 (by decide) ?_
  exact hret H locs ls 17 (2 : Int32) _ hP hS rfl rfl dL_take_17
theorem mw_L_45 : GoodIn WL (wsV RL 45 RX5 yX5_append (Cond.code yX5_append cX5_append 2 (some .int) :: WL)) := gV_of k3_203 k3_204 k3_205 k1_1 k3_206
def rm_L_append : Room := { frames := 2, cells := 0, slots := 0, locals := 42 }
set_option maxHeartbeats 4000000 in
set_option maxRecDepth 100000 in
theorem cL_append_N (l : Launch) (D : va_G) (cI cJ : ClassId) (a_t a_row a_row_signs a_work a_work_signs a_rest a_rest_signs a_bag a_bag_often a_smooth a_smooth_madeFor a_smooth_weight a_smooth_inCell a_smooth_all a_smooth_starting a_text a_text_codes a_saves a_saves_slots a_out : Nat) (sz : Nat) (X : XS) (O : Nat → Int64) (x1 : Int32) (r : Int32) (X' : XS) (hF : G_X5_append X x1 = some (r, X')) : Met l yL_append (Cond.codeWith yL_append cL_append 4 (some .int) [(0, 9, 12, 13), (0, 9, 15, 18)] :: WL) rm_L_append (preM D [(cI, .int), (cJ, .long)] (wdXO cI cJ a_t a_row a_row_signs a_work a_work_signs a_rest a_rest_signs a_bag a_bag_often a_smooth a_smooth_madeFor a_smooth_weight a_smooth_inCell a_smooth_all a_smooth_starting a_text a_text_codes a_saves a_saves_slots a_out X O) sz [.ref a_t, .int x1, .ref a_out]) (postI D 0 (wdXO cI cJ a_t a_row a_row_signs a_work a_work_signs a_rest a_rest_signs a_bag a_bag_often a_smooth a_smooth_madeFor a_smooth_weight a_smooth_inCell a_smooth_all a_smooth_starting a_text a_text_codes a_saves a_saves_slots a_out X' (vp_updL O (0 : Int32).toNatClampNeg (r).toInt64)) (wdXO cI cJ a_t a_row a_row_signs a_work a_work_signs a_rest a_rest_signs a_bag a_bag_often a_smooth a_smooth_madeFor a_smooth_weight a_smooth_inCell a_smooth_all a_smooth_starting a_text a_text_codes a_saves a_saves_slots a_out X O) sz) 0 0 (va_A (wdXO cI cJ a_t a_row a_row_signs a_work a_work_signs a_rest a_rest_signs a_bag a_bag_often a_smooth a_smooth_madeFor a_smooth_weight a_smooth_inCell a_smooth_all a_smooth_starting a_text a_text_codes a_saves a_saves_slots a_out X O) sz) := by
  unfold G_X5_append at hF
  obtain ⟨o, ho, he⟩ := Option.map_eq_some_iff.mp hF
  obtain ⟨rfl, rfl⟩ := Prod.mk.inj he
  refine mofWI (by decide +kernel) (Nat.le_of_ble_eq_true rfl) ?_
  intro p e s m args below meth c Q A ls hx hb hml hown hts hK hP hD hS hA hG hl htab hret hsz0
  have hl : lv_has ls 4 [(0, .ref a_t), (1, .int x1), (2, .ref a_out)] := hl
  have hP : va_P D vwCl (wdXO cI cJ a_t a_row a_row_signs a_work a_work_signs a_rest a_rest_signs a_bag a_bag_often a_smooth a_smooth_madeFor a_smooth_weight a_smooth_inCell a_smooth_all a_smooth_starting a_text a_text_codes a_saves a_saves_slots a_out X O) s.heap := hP
  obtain ⟨H, hH⟩ : ∃ H, H = s.heap := ⟨_, rfl⟩
  rw [← hH]
  rw [← hH] at hP
  obtain ⟨locs, hlo⟩ : ∃ z : List Loc, z = [] := ⟨_, rfl⟩
  rw [← hlo]
  have hS : va_S A s.heap H locs := by rw [hH, hlo]; exact hS
  refine lv_aload_n hx hb dL_append_0 rfl (lv_at hl 2 rfl) ?_
  refine lv_iconst (v := 0) hx hb dL_append_1 (by decide) ?_
  refine lv_aload_n hx hb dL_append_2 rfl (lv_at hl 0 rfl) ?_
  refine lv_iload_n hx hb dL_append_3 rfl (lv_at hl 1 rfl) ?_
  refine kVI (As := [.int x1]) (rest := [.int (0 : Int32), .ref a_out]) (ws' := (wdXO cI cJ a_t a_row a_row_signs a_work a_work_signs a_rest a_rest_signs a_bag a_bag_often a_smooth a_smooth_madeFor a_smooth_weight a_smooth_inCell a_smooth_all a_smooth_starting a_text a_text_codes a_saves a_saves_slots a_out (X.1, X.2.1, X.2.2.1, X.2.2.2.1, X.2.2.2.2.1, X.2.2.2.2.2.1, X.2.2.2.2.2.2.1, X.2.2.2.2.2.2.2.1, X.2.2.2.2.2.2.2.2.1, X.2.2.2.2.2.2.2.2.2.1, X.2.2.2.2.2.2.2.2.2.2.1, X.2.2.2.2.2.2.2.2.2.2.2.1, X.2.2.2.2.2.2.2.2.2.2.2.2.1, X.2.2.2.2.2.2.2.2.2.2.2.2.2.1, o.2.1, o.2.2, X.2.2.2.2.2.2.2.2.2.2.2.2.2.2.2.2.1, X.2.2.2.2.2.2.2.2.2.2.2.2.2.2.2.2.2) O)) ⟨hx, hb, hml, hown, hts⟩ (c_X5_append l D cI a_t a_row a_work a_rest a_bag a_smooth a_text a_saves a_text_codes H.size X.1 X.2.2.2.2.2.2.2.2.2.2.2.2.2.2.1 X.2.2.2.2.2.2.2.2.2.2.2.2.2.2.2.1 x1 o ho) (cwV 1 hts mw_L_45 rfl rfl rfl hd_X5_append ⟨Nat.le_of_ble_eq_true rfl, Nat.le_of_ble_eq_true rfl⟩) hS hA hG (hK.sub [0] rfl) hP hD [0, 15, 16] rfl rfl rfl rfl rfl ⟨Nat.zero_le _, Nat.zero_le _⟩ 5 0 rfl rfl rfl rfl hl.1 rfl (Nat.le_of_ble_eq_true rfl) dL_append_4 (fun H locs hP hD hS => ?_)
  refine lv_i2l hx hb dL_append_7 rfl ?_
  refine va_last hx hb hK hP hD hS 19 1 rfl rfl (vinb (by decide)) dL_append_8 (fun H locs hP hD hS => ?_)
  have hP : va_P D vwCl (wdXO cI cJ a_t a_row a_row_signs a_work a_work_signs a_rest a_rest_signs a_bag a_bag_often a_smooth a_smooth_madeFor a_smooth_weight a_smooth_inCell a_smooth_all a_smooth_starting a_text a_text_codes a_saves a_saves_slots a_out (X.1, X.2.1, X.2.2.1, X.2.2.2.1, X.2.2.2.2.1, X.2.2.2.2.2.1, X.2.2.2.2.2.2.1, X.2.2.2.2.2.2.2.1, X.2.2.2.2.2.2.2.2.1, X.2.2.2.2.2.2.2.2.2.1, X.2.2.2.2.2.2.2.2.2.2.1, X.2.2.2.2.2.2.2.2.2.2.2.1, X.2.2.2.2.2.2.2.2.2.2.2.2.1, X.2.2.2.2.2.2.2.2.2.2.2.2.2.1, o.2.1, o.2.2, X.2.2.2.2.2.2.2.2.2.2.2.2.2.2.2.2.1, X.2.2.2.2.2.2.2.2.2.2.2.2.2.2.2.2.2) (vp_updL O (0 : Int32).toNatClampNeg (o.1).toInt64)) H := hP
  refine lv_goto (tgt := 18) hx hb dL_append_9 (by decide) ?_
  refine lv_iconst (v := 0) hx hb dL_append_18 (by decide) ?_
  exact hret H locs ls 19 (0 : Int32) _ hP hS rfl rfl dL_append_19
def rm_L_append_T : Room := { frames := 8, cells := 1, slots := 6, locals := 131 }
set_option maxHeartbeats 4000000 in
set_option maxRecDepth 100000 in
theorem cL_append_T1 (l : Launch) (hl0 : l.stackTraces = false) (D : va_G) (cI cJ : ClassId) (a_t a_row a_row_signs a_work a_work_signs a_rest a_rest_signs a_bag a_bag_often a_smooth a_smooth_madeFor a_smooth_weight a_smooth_inCell a_smooth_all a_smooth_starting a_text a_text_codes a_saves a_saves_slots a_out : Nat) (sz : Nat) (X : XS) (O : Nat → Int64) (x1 : Int32) (X' : XS) (hF : G_X5_append_T X x1 = some (1, X')) : Met l yL_append (Cond.codeWith yL_append cL_append 4 (some .int) [(0, 9, 12, 13), (0, 9, 15, 18)] :: WL) rm_L_append_T (preM D [(cI, .int), (cJ, .long)] (wdXO cI cJ a_t a_row a_row_signs a_work a_work_signs a_rest a_rest_signs a_bag a_bag_often a_smooth a_smooth_madeFor a_smooth_weight a_smooth_inCell a_smooth_all a_smooth_starting a_text a_text_codes a_saves a_saves_slots a_out X O) sz [.ref a_t, .int x1, .ref a_out]) (postI D 1 (wdXO cI cJ a_t a_row a_row_signs a_work a_work_signs a_rest a_rest_signs a_bag a_bag_often a_smooth a_smooth_madeFor a_smooth_weight a_smooth_inCell a_smooth_all a_smooth_starting a_text a_text_codes a_saves a_saves_slots a_out X' O) (wdXO cI cJ a_t a_row a_row_signs a_work a_work_signs a_rest a_rest_signs a_bag a_bag_often a_smooth a_smooth_madeFor a_smooth_weight a_smooth_inCell a_smooth_all a_smooth_starting a_text a_text_codes a_saves a_saves_slots a_out X O) sz) 1 6 (va_A (wdXO cI cJ a_t a_row a_row_signs a_work a_work_signs a_rest a_rest_signs a_bag a_bag_often a_smooth a_smooth_madeFor a_smooth_weight a_smooth_inCell a_smooth_all a_smooth_starting a_text a_text_codes a_saves a_saves_slots a_out X O) sz) := by
  unfold G_X5_append_T at hF
  obtain ⟨o, ho, he⟩ := Option.map_eq_some_iff.mp hF
  obtain ⟨hk9, rfl⟩ := Prod.mk.inj he
  refine mofWI (by decide +kernel) (Nat.le_of_ble_eq_true rfl) ?_
  intro p e s m args below meth c Q A ls hx hb hml hown hts hK hP hD hS hA hG hl htab hret hsz0
  have hl : lv_has ls 4 [(0, .ref a_t), (1, .int x1), (2, .ref a_out)] := hl
  have hP : va_P D vwCl (wdXO cI cJ a_t a_row a_row_signs a_work a_work_signs a_rest a_rest_signs a_bag a_bag_often a_smooth a_smooth_madeFor a_smooth_weight a_smooth_inCell a_smooth_all a_smooth_starting a_text a_text_codes a_saves a_saves_slots a_out X O) s.heap := hP
  obtain ⟨H, hH⟩ : ∃ H, H = s.heap := ⟨_, rfl⟩
  rw [← hH]
  rw [← hH] at hP
  obtain ⟨locs, hlo⟩ : ∃ z : List Loc, z = [] := ⟨_, rfl⟩
  rw [← hlo]
  have hS : va_S A s.heap H locs := by rw [hH, hlo]; exact hS
  refine lv_aload_n hx hb dL_append_0 rfl (lv_at hl 2 rfl) ?_
  refine lv_iconst (v := 0) hx hb dL_append_1 (by decide) ?_
  refine lv_aload_n hx hb dL_append_2 rfl (lv_at hl 0 rfl) ?_
  refine lv_iload_n hx hb dL_append_3 rfl (lv_at hl 1 rfl) ?_
  refine kVT (As := [.int x1]) (rest := [.int (0 : Int32), .ref a_out]) (ws' := (wdXO cI cJ a_t a_row a_row_signs a_work a_work_signs a_rest a_rest_signs a_bag a_bag_often a_smooth a_smooth_madeFor a_smooth_weight a_smooth_inCell a_smooth_all a_smooth_starting a_text a_text_codes a_saves a_saves_slots a_out (X.1, X.2.1, X.2.2.1, X.2.2.2.1, X.2.2.2.2.1, X.2.2.2.2.2.1, X.2.2.2.2.2.2.1, X.2.2.2.2.2.2.2.1, X.2.2.2.2.2.2.2.2.1, X.2.2.2.2.2.2.2.2.2.1, X.2.2.2.2.2.2.2.2.2.2.1, X.2.2.2.2.2.2.2.2.2.2.2.1, X.2.2.2.2.2.2.2.2.2.2.2.2.1, X.2.2.2.2.2.2.2.2.2.2.2.2.2.1, o.2.1, o.2.2, X.2.2.2.2.2.2.2.2.2.2.2.2.2.2.2.2.1, X.2.2.2.2.2.2.2.2.2.2.2.2.2.2.2.2.2) O)) ⟨hx, hb, hml, hown, hts⟩ (c_X5_append_T l D cI hl0 a_t a_row a_work a_rest a_bag a_smooth a_text a_saves a_text_codes H.size X.1 X.2.2.2.2.2.2.2.2.2.2.2.2.2.2.1 X.2.2.2.2.2.2.2.2.2.2.2.2.2.2.2.1 x1 o ho) (cwV 1 hts mw_L_45 rfl rfl rfl hd_X5_append ⟨Nat.le_of_ble_eq_true rfl, Nat.le_of_ble_eq_true rfl⟩) hS hA hG (hK.sub [0] rfl) hP hD [0, 15, 16] rfl rfl rfl rfl rfl ⟨Nat.le_of_ble_eq_true rfl, Nat.le_of_ble_eq_true rfl⟩ 5 0 rfl rfl rfl rfl hl.1 rfl (Nat.le_of_ble_eq_true rfl) dL_append_4 (fun H locs q9 ce hP hD hS hce hcv hcl => ?_)
  rw [show kX o.1 = "java/lang/IllegalArgumentException" by rw [hk9]; rfl] at hcl
  refine vx_catch (name := "java/lang/IllegalArgumentException") hown [] ⟨0, 9, 12, 13⟩ [⟨0, 9, 15, 18⟩] (by rw [htab]; rfl) (fun z hz => by cases hz) (by decide) (by decide) (hts _ k3_95) (va_Nw.use rfl (hG.2.2.2.2.1 _ (by decide))) hce hcv hcl ?_
  refine lv_astore_n (lv' := [(3, .ref q9), (0, .ref a_t), (1, .int x1), (2, .ref a_out)]) hx hb dL_append_12 rfl hl (by decide) rfl (fun ls hl => ?_)
  refine lv_iconst (v := 1) hx hb dL_append_13 (by decide) ?_
  exact hret H locs ls 14 (1 : Int32) _ hP hS rfl rfl dL_append_14
set_option maxHeartbeats 4000000 in
set_option maxRecDepth 100000 in
theorem cL_append_T2 (l : Launch) (hl0 : l.stackTraces = false) (D : va_G) (cI cJ : ClassId) (a_t a_row a_row_signs a_work a_work_signs a_rest a_rest_signs a_bag a_bag_often a_smooth a_smooth_madeFor a_smooth_weight a_smooth_inCell a_smooth_all a_smooth_starting a_text a_text_codes a_saves a_saves_slots a_out : Nat) (sz : Nat) (X : XS) (O : Nat → Int64) (x1 : Int32) (X' : XS) (hF : G_X5_append_T X x1 = some (2, X')) : Met l yL_append (Cond.codeWith yL_append cL_append 4 (some .int) [(0, 9, 12, 13), (0, 9, 15, 18)] :: WL) rm_L_append_T (preM D [(cI, .int), (cJ, .long)] (wdXO cI cJ a_t a_row a_row_signs a_work a_work_signs a_rest a_rest_signs a_bag a_bag_often a_smooth a_smooth_madeFor a_smooth_weight a_smooth_inCell a_smooth_all a_smooth_starting a_text a_text_codes a_saves a_saves_slots a_out X O) sz [.ref a_t, .int x1, .ref a_out]) (postI D 2 (wdXO cI cJ a_t a_row a_row_signs a_work a_work_signs a_rest a_rest_signs a_bag a_bag_often a_smooth a_smooth_madeFor a_smooth_weight a_smooth_inCell a_smooth_all a_smooth_starting a_text a_text_codes a_saves a_saves_slots a_out X' O) (wdXO cI cJ a_t a_row a_row_signs a_work a_work_signs a_rest a_rest_signs a_bag a_bag_often a_smooth a_smooth_madeFor a_smooth_weight a_smooth_inCell a_smooth_all a_smooth_starting a_text a_text_codes a_saves a_saves_slots a_out X O) sz) 1 6 (va_A (wdXO cI cJ a_t a_row a_row_signs a_work a_work_signs a_rest a_rest_signs a_bag a_bag_often a_smooth a_smooth_madeFor a_smooth_weight a_smooth_inCell a_smooth_all a_smooth_starting a_text a_text_codes a_saves a_saves_slots a_out X O) sz) := by
  unfold G_X5_append_T at hF
  obtain ⟨o, ho, he⟩ := Option.map_eq_some_iff.mp hF
  obtain ⟨hk9, rfl⟩ := Prod.mk.inj he
  refine mofWI (by decide +kernel) (Nat.le_of_ble_eq_true rfl) ?_
  intro p e s m args below meth c Q A ls hx hb hml hown hts hK hP hD hS hA hG hl htab hret hsz0
  have hl : lv_has ls 4 [(0, .ref a_t), (1, .int x1), (2, .ref a_out)] := hl
  have hP : va_P D vwCl (wdXO cI cJ a_t a_row a_row_signs a_work a_work_signs a_rest a_rest_signs a_bag a_bag_often a_smooth a_smooth_madeFor a_smooth_weight a_smooth_inCell a_smooth_all a_smooth_starting a_text a_text_codes a_saves a_saves_slots a_out X O) s.heap := hP
  obtain ⟨H, hH⟩ : ∃ H, H = s.heap := ⟨_, rfl⟩
  rw [← hH]
  rw [← hH] at hP
  obtain ⟨locs, hlo⟩ : ∃ z : List Loc, z = [] := ⟨_, rfl⟩
  rw [← hlo]
  have hS : va_S A s.heap H locs := by rw [hH, hlo]; exact hS
  refine lv_aload_n hx hb dL_append_0 rfl (lv_at hl 2 rfl) ?_
  refine lv_iconst (v := 0) hx hb dL_append_1 (by decide) ?_
  refine lv_aload_n hx hb dL_append_2 rfl (lv_at hl 0 rfl) ?_
  refine lv_iload_n hx hb dL_append_3 rfl (lv_at hl 1 rfl) ?_
  refine kVT (As := [.int x1]) (rest := [.int (0 : Int32), .ref a_out]) (ws' := (wdXO cI cJ a_t a_row a_row_signs a_work a_work_signs a_rest a_rest_signs a_bag a_bag_often a_smooth a_smooth_madeFor a_smooth_weight a_smooth_inCell a_smooth_all a_smooth_starting a_text a_text_codes a_saves a_saves_slots a_out (X.1, X.2.1, X.2.2.1, X.2.2.2.1, X.2.2.2.2.1, X.2.2.2.2.2.1, X.2.2.2.2.2.2.1, X.2.2.2.2.2.2.2.1, X.2.2.2.2.2.2.2.2.1, X.2.2.2.2.2.2.2.2.2.1, X.2.2.2.2.2.2.2.2.2.2.1, X.2.2.2.2.2.2.2.2.2.2.2.1, X.2.2.2.2.2.2.2.2.2.2.2.2.1, X.2.2.2.2.2.2.2.2.2.2.2.2.2.1, o.2.1, o.2.2, X.2.2.2.2.2.2.2.2.2.2.2.2.2.2.2.2.1, X.2.2.2.2.2.2.2.2.2.2.2.2.2.2.2.2.2) O)) ⟨hx, hb, hml, hown, hts⟩ (c_X5_append_T l D cI hl0 a_t a_row a_work a_rest a_bag a_smooth a_text a_saves a_text_codes H.size X.1 X.2.2.2.2.2.2.2.2.2.2.2.2.2.2.1 X.2.2.2.2.2.2.2.2.2.2.2.2.2.2.2.1 x1 o ho) (cwV 1 hts mw_L_45 rfl rfl rfl hd_X5_append ⟨Nat.le_of_ble_eq_true rfl, Nat.le_of_ble_eq_true rfl⟩) hS hA hG (hK.sub [0] rfl) hP hD [0, 15, 16] rfl rfl rfl rfl rfl ⟨Nat.le_of_ble_eq_true rfl, Nat.le_of_ble_eq_true rfl⟩ 5 0 rfl rfl rfl rfl hl.1 rfl (Nat.le_of_ble_eq_true rfl) dL_append_4 (fun H locs q9 ce hP hD hS hce hcv hcl => ?_)
  rw [show kX o.1 = "java/lang/IllegalStateException" by rw [hk9]; rfl] at hcl
  refine vx_catch (name := "java/lang/IllegalStateException") hown [⟨0, 9, 12, 13⟩] ⟨0, 9, 15, 18⟩ [] (by rw [htab]; rfl) (fun z hz => by rw [List.mem_singleton.mp hz]; exact Or.inr ⟨by decide, _, hts _ k3_95, hG.2.2.2.2.2.1 ("java/lang/IllegalStateException", "java/lang/IllegalArgumentException") (by decide)⟩) (by decide) (by decide) (hts _ k3_103) (va_Nw.use rfl (hG.2.2.2.2.1 _ (by decide))) hce hcv hcl ?_
  refine lv_astore_n (lv' := [(3, .ref q9), (0, .ref a_t), (1, .int x1), (2, .ref a_out)]) hx hb dL_append_15 rfl hl (by decide) rfl (fun ls hl => ?_)
  refine lv_iconst (v := 2) hx hb dL_append_16 (by decide) ?_
  exact hret H locs ls 17 (2 : Int32) _ hP hS rfl rfl dL_append_17
theorem mw_L_48 : GoodIn WL (wsV RL 48 RX5 yX5_read (Cond.code yX5_read cX5_read 1 (some .int) :: WL)) := gV_of k3_215 k3_216 k3_217 k1_1 k3_218
def rm_L_read : Room := { frames := 5, cells := 0, slots := 0, locals := 111 }
set_option maxHeartbeats 4000000 in
set_option maxRecDepth 100000 in
theorem cL_read_N (l : Launch) (D : va_G) (cI cJ : ClassId) (a_t a_row a_row_signs a_work a_work_signs a_rest a_rest_signs a_bag a_bag_often a_smooth a_smooth_madeFor a_smooth_weight a_smooth_inCell a_smooth_all a_smooth_starting a_text a_text_codes a_saves a_saves_slots a_out : Nat) (sz : Nat) (X : XS) (O : Nat → Int64) (r : Int32) (X' : XS) (hF : G_X5_read X  = some (r, X')) : Met l yL_read (Cond.codeWith yL_read cL_read 3 (some .int) [(0, 8, 11, 13)] :: WL) rm_L_read (preM D [(cI, .int), (cJ, .long)] (wdXO cI cJ a_t a_row a_row_signs a_work a_work_signs a_rest a_rest_signs a_bag a_bag_often a_smooth a_smooth_madeFor a_smooth_weight a_smooth_inCell a_smooth_all a_smooth_starting a_text a_text_codes a_saves a_saves_slots a_out X O) sz [.ref a_t, .ref a_out]) (postI D 0 (wdXO cI cJ a_t a_row a_row_signs a_work a_work_signs a_rest a_rest_signs a_bag a_bag_often a_smooth a_smooth_madeFor a_smooth_weight a_smooth_inCell a_smooth_all a_smooth_starting a_text a_text_codes a_saves a_saves_slots a_out X' (vp_updL O (0 : Int32).toNatClampNeg (r).toInt64)) (wdXO cI cJ a_t a_row a_row_signs a_work a_work_signs a_rest a_rest_signs a_bag a_bag_often a_smooth a_smooth_madeFor a_smooth_weight a_smooth_inCell a_smooth_all a_smooth_starting a_text a_text_codes a_saves a_saves_slots a_out X O) sz) 0 0 (va_A (wdXO cI cJ a_t a_row a_row_signs a_work a_work_signs a_rest a_rest_signs a_bag a_bag_often a_smooth a_smooth_madeFor a_smooth_weight a_smooth_inCell a_smooth_all a_smooth_starting a_text a_text_codes a_saves a_saves_slots a_out X O) sz) := by
  unfold G_X5_read at hF
  obtain ⟨o, ho, he⟩ := Option.map_eq_some_iff.mp hF
  obtain ⟨rfl, rfl⟩ := Prod.mk.inj he
  refine mofWI (by decide +kernel) (Nat.le_of_ble_eq_true rfl) ?_
  intro p e s m args below meth c Q A ls hx hb hml hown hts hK hP hD hS hA hG hl htab hret hsz0
  have hl : lv_has ls 3 [(0, .ref a_t), (1, .ref a_out)] := hl
  have hP : va_P D vwCl (wdXO cI cJ a_t a_row a_row_signs a_work a_work_signs a_rest a_rest_signs a_bag a_bag_often a_smooth a_smooth_madeFor a_smooth_weight a_smooth_inCell a_smooth_all a_smooth_starting a_text a_text_codes a_saves a_saves_slots a_out X O) s.heap := hP
  obtain ⟨H, hH⟩ : ∃ H, H = s.heap := ⟨_, rfl⟩
  rw [← hH]
  rw [← hH] at hP
  obtain ⟨locs, hlo⟩ : ∃ z : List Loc, z = [] := ⟨_, rfl⟩
  rw [← hlo]
  have hS : va_S A s.heap H locs := by rw [hH, hlo]; exact hS
  refine lv_aload_n hx hb dL_read_0 rfl (lv_at hl 1 rfl) ?_
  refine lv_iconst (v := 0) hx hb dL_read_1 (by decide) ?_
  refine lv_aload_n hx hb dL_read_2 rfl (lv_at hl 0 rfl) ?_
  refine kVI (As := []) (rest := [.int (0 : Int32), .ref a_out]) (ws' := (wdXO cI cJ a_t a_row a_row_signs a_work a_work_signs a_rest a_rest_signs a_bag a_bag_often a_smooth a_smooth_madeFor a_smooth_weight a_smooth_inCell a_smooth_all a_smooth_starting a_text a_text_codes a_saves a_saves_slots a_out (X.1, o.2.2.2.1, o.2.2.2.2.1, X.2.2.2.1, X.2.2.2.2.1, X.2.2.2.2.2.1, X.2.2.2.2.2.2.1, o.2.1, o.2.2.1, X.2.2.2.2.2.2.2.2.2.1, X.2.2.2.2.2.2.2.2.2.2.1, X.2.2.2.2.2.2.2.2.2.2.2.1, X.2.2.2.2.2.2.2.2.2.2.2.2.1, X.2.2.2.2.2.2.2.2.2.2.2.2.2.1, o.2.2.2.2.2.2.2, X.2.2.2.2.2.2.2.2.2.2.2.2.2.2.2.1, o.2.2.2.2.2.1, o.2.2.2.2.2.2.1) O)) ⟨hx, hb, hml, hown, hts⟩ (c_X5_read l D cI a_t a_row a_work a_rest a_bag a_smooth a_text a_saves a_bag_often a_row_signs a_saves_slots a_text_codes H.size X.1 X.2.2.2.2.2.2.2.1 X.2.2.2.2.2.2.2.2.1 X.2.1 X.2.2.1 X.2.2.2.2.2.2.2.2.2.2.2.2.2.2.2.2.1 X.2.2.2.2.2.2.2.2.2.2.2.2.2.2.2.2.2 X.2.2.2.2.2.2.2.2.2.2.2.2.2.2.1 X.2.2.2.2.2.2.2.2.2.2.2.2.2.2.2.1  o ho) (cwV 0 hts mw_L_48 rfl rfl rfl hd_X5_read ⟨Nat.le_of_ble_eq_true rfl, Nat.le_of_ble_eq_true rfl⟩) hS hA hG (hK.sub [0] rfl) hP hD [0, 7, 8, 1, 2, 17, 18, 15, 16] rfl rfl rfl rfl rfl ⟨Nat.zero_le _, Nat.zero_le _⟩ 5 0 rfl rfl rfl rfl hl.1 rfl (Nat.le_of_ble_eq_true rfl) dL_read_3 (fun H locs hP hD hS => ?_)
  refine lv_i2l hx hb dL_read_6 rfl ?_
  refine va_last hx hb hK hP hD hS 19 1 rfl rfl (vinb (by decide)) dL_read_7 (fun H locs hP hD hS => ?_)
  have hP : va_P D vwCl (wdXO cI cJ a_t a_row a_row_signs a_work a_work_signs a_rest a_rest_signs a_bag a_bag_often a_smooth a_smooth_madeFor a_smooth_weight a_smooth_inCell a_smooth_all a_smooth_starting a_text a_text_codes a_saves a_saves_slots a_out (X.1, o.2.2.2.1, o.2.2.2.2.1, X.2.2.2.1, X.2.2.2.2.1, X.2.2.2.2.2.1, X.2.2.2.2.2.2.1, o.2.1, o.2.2.1, X.2.2.2.2.2.2.2.2.2.1, X.2.2.2.2.2.2.2.2.2.2.1, X.2.2.2.2.2.2.2.2.2.2.2.1, X.2.2.2.2.2.2.2.2.2.2.2.2.1, X.2.2.2.2.2.2.2.2.2.2.2.2.2.1, o.2.2.2.2.2.2.2, X.2.2.2.2.2.2.2.2.2.2.2.2.2.2.2.1, o.2.2.2.2.2.1, o.2.2.2.2.2.2.1) (vp_updL O (0 : Int32).toNatClampNeg (o.1).toInt64)) H := hP
  refine lv_goto (tgt := 14) hx hb dL_read_8 (by decide) ?_
  refine lv_iconst (v := 0) hx hb dL_read_14 (by decide) ?_
  exact hret H locs ls 15 (0 : Int32) _ hP hS rfl rfl dL_read_15
def rm_L_read_T : Room := { frames := 7, cells := 1, slots := 6, locals := 111 }
set_option maxHeartbeats 4000000 in
set_option maxRecDepth 100000 in
theorem cL_read_T1 (l : Launch) (hl0 : l.stackTraces = false) (D : va_G) (cI cJ : ClassId) (a_t a_row a_row_signs a_work a_work_signs a_rest a_rest_signs a_bag a_bag_often a_smooth a_smooth_madeFor a_smooth_weight a_smooth_inCell a_smooth_all a_smooth_starting a_text a_text_codes a_saves a_saves_slots a_out : Nat) (sz : Nat) (X : XS) (O : Nat → Int64) (X' : XS) (hF : G_X5_read_T X  = some (1, X')) : Met l yL_read (Cond.codeWith yL_read cL_read 3 (some .int) [(0, 8, 11, 13)] :: WL) rm_L_read_T (preM D [(cI, .int), (cJ, .long)] (wdXO cI cJ a_t a_row a_row_signs a_work a_work_signs a_rest a_rest_signs a_bag a_bag_often a_smooth a_smooth_madeFor a_smooth_weight a_smooth_inCell a_smooth_all a_smooth_starting a_text a_text_codes a_saves a_saves_slots a_out X O) sz [.ref a_t, .ref a_out]) (postI D 1 (wdXO cI cJ a_t a_row a_row_signs a_work a_work_signs a_rest a_rest_signs a_bag a_bag_often a_smooth a_smooth_madeFor a_smooth_weight a_smooth_inCell a_smooth_all a_smooth_starting a_text a_text_codes a_saves a_saves_slots a_out X' O) (wdXO cI cJ a_t a_row a_row_signs a_work a_work_signs a_rest a_rest_signs a_bag a_bag_often a_smooth a_smooth_madeFor a_smooth_weight a_smooth_inCell a_smooth_all a_smooth_starting a_text a_text_codes a_saves a_saves_slots a_out X O) sz) 1 6 (va_A (wdXO cI cJ a_t a_row a_row_signs a_work a_work_signs a_rest a_rest_signs a_bag a_bag_often a_smooth a_smooth_madeFor a_smooth_weight a_smooth_inCell a_smooth_all a_smooth_starting a_text a_text_codes a_saves a_saves_slots a_out X O) sz) := by
  unfold G_X5_read_T at hF
  obtain ⟨o, ho, he⟩ := Option.map_eq_some_iff.mp hF
  obtain ⟨hk9, rfl⟩ := Prod.mk.inj he
  refine mofWI (by decide +kernel) (Nat.le_of_ble_eq_true rfl) ?_
  intro p e s m args below meth c Q A ls hx hb hml hown hts hK hP hD hS hA hG hl htab hret hsz0
  have hl : lv_has ls 3 [(0, .ref a_t), (1, .ref a_out)] := hl
  have hP : va_P D vwCl (wdXO cI cJ a_t a_row a_row_signs a_work a_work_signs a_rest a_rest_signs a_bag a_bag_often a_smooth a_smooth_madeFor a_smooth_weight a_smooth_inCell a_smooth_all a_smooth_starting a_text a_text_codes a_saves a_saves_slots a_out X O) s.heap := hP
  obtain ⟨H, hH⟩ : ∃ H, H = s.heap := ⟨_, rfl⟩
  rw [← hH]
  rw [← hH] at hP
  obtain ⟨locs, hlo⟩ : ∃ z : List Loc, z = [] := ⟨_, rfl⟩
  rw [← hlo]
  have hS : va_S A s.heap H locs := by rw [hH, hlo]; exact hS
  refine lv_aload_n hx hb dL_read_0 rfl (lv_at hl 1 rfl) ?_
  refine lv_iconst (v := 0) hx hb dL_read_1 (by decide) ?_
  refine lv_aload_n hx hb dL_read_2 rfl (lv_at hl 0 rfl) ?_
  refine kVT (As := []) (rest := [.int (0 : Int32), .ref a_out]) (ws' := (wdXO cI cJ a_t a_row a_row_signs a_work a_work_signs a_rest a_rest_signs a_bag a_bag_often a_smooth a_smooth_madeFor a_smooth_weight a_smooth_inCell a_smooth_all a_smooth_starting a_text a_text_codes a_saves a_saves_slots a_out (X.1, o.2.2.2.1, o.2.2.2.2.1, X.2.2.2.1, X.2.2.2.2.1, X.2.2.2.2.2.1, X.2.2.2.2.2.2.1, o.2.1, o.2.2.1, X.2.2.2.2.2.2.2.2.2.1, X.2.2.2.2.2.2.2.2.2.2.1, X.2.2.2.2.2.2.2.2.2.2.2.1, X.2.2.2.2.2.2.2.2.2.2.2.2.1, X.2.2.2.2.2.2.2.2.2.2.2.2.2.1, o.2.2.2.2.2.2.2, X.2.2.2.2.2.2.2.2.2.2.2.2.2.2.2.1, o.2.2.2.2.2.1, o.2.2.2.2.2.2.1) O)) ⟨hx, hb, hml, hown, hts⟩ (c_X5_read_T l D cI hl0 a_t a_row a_work a_rest a_bag a_smooth a_text a_saves a_bag_often a_row_signs a_saves_slots a_text_codes H.size X.1 X.2.2.2.2.2.2.2.1 X.2.2.2.2.2.2.2.2.1 X.2.1 X.2.2.1 X.2.2.2.2.2.2.2.2.2.2.2.2.2.2.2.2.1 X.2.2.2.2.2.2.2.2.2.2.2.2.2.2.2.2.2 X.2.2.2.2.2.2.2.2.2.2.2.2.2.2.1 X.2.2.2.2.2.2.2.2.2.2.2.2.2.2.2.1  o ho) (cwV 0 hts mw_L_48 rfl rfl rfl hd_X5_read ⟨Nat.le_of_ble_eq_true rfl, Nat.le_of_ble_eq_true rfl⟩) hS hA hG (hK.sub [0] rfl) hP hD [0, 7, 8, 1, 2, 17, 18, 15, 16] rfl rfl rfl rfl rfl ⟨Nat.le_of_ble_eq_true rfl, Nat.le_of_ble_eq_true rfl⟩ 5 0 rfl rfl rfl rfl hl.1 rfl (Nat.le_of_ble_eq_true rfl) dL_read_3 (fun H locs q9 ce hP hD hS hce hcv hcl => ?_)
  rw [show kX o.1 = "java/lang/IllegalArgumentException" by rw [hk9]; rfl] at hcl
  refine vx_catch (name := "java/lang/IllegalArgumentException") hown [] ⟨0, 8, 11, 13⟩ [] (by rw [htab]; rfl) (fun z hz => by cases hz) (by decide) (by decide) (hts _ k3_95) (va_Nw.use rfl (hG.2.2.2.2.1 _ (by decide))) hce hcv hcl ?_
  refine lv_astore_n (lv' := [(2, .ref q9), (0, .ref a_t), (1, .ref a_out)]) hx hb dL_read_11 rfl hl (by decide) rfl (fun ls hl => ?_)
  refine lv_iconst (v := 1) hx hb dL_read_12 (by decide) ?_
  exact hret H locs ls 13 (1 : Int32) _ hP hS rfl rfl dL_read_13
theorem mw_L_51 : GoodIn WL (wsV RL 51 RX5 yX5_undo (Cond.code yX5_undo cX5_undo 1 (some .int) :: WL)) := gV_of k3_229 k3_230 k3_231 k1_1 k3_232
def rm_L_undo : Room := { frames := 4, cells := 0, slots := 0, locals := 87 }
set_option maxHeartbeats 4000000 in
set_option maxRecDepth 100000 in
theorem cL_undo_N (l : Launch) (D : va_G) (cI cJ : ClassId) (a_t a_row a_row_signs a_work a_work_signs a_rest a_rest_signs a_bag a_bag_often a_smooth a_smooth_madeFor a_smooth_weight a_smooth_inCell a_smooth_all a_smooth_starting a_text a_text_codes a_saves a_saves_slots a_out : Nat) (sz : Nat) (X : XS) (O : Nat → Int64) (r : Int32) (X' : XS) (hF : G_X5_undo X  = some (r, X')) : Met l yL_undo (Cond.codeWith yL_undo cL_undo 3 (some .int) [(0, 8, 11, 18)] :: WL) rm_L_undo (preM D [(cI, .int), (cJ, .long)] (wdXO cI cJ a_t a_row a_row_signs a_work a_work_signs a_rest a_rest_signs a_bag a_bag_often a_smooth a_smooth_madeFor a_smooth_weight a_smooth_inCell a_smooth_all a_smooth_starting a_text a_text_codes a_saves a_saves_slots a_out X O) sz [.ref a_t, .ref a_out]) (postI D 0 (wdXO cI cJ a_t a_row a_row_signs a_work a_work_signs a_rest a_rest_signs a_bag a_bag_often a_smooth a_smooth_madeFor a_smooth_weight a_smooth_inCell a_smooth_all a_smooth_starting a_text a_text_codes a_saves a_saves_slots a_out X' (vp_updL O (0 : Int32).toNatClampNeg (r).toInt64)) (wdXO cI cJ a_t a_row a_row_signs a_work a_work_signs a_rest a_rest_signs a_bag a_bag_often a_smooth a_smooth_madeFor a_smooth_weight a_smooth_inCell a_smooth_all a_smooth_starting a_text a_text_codes a_saves a_saves_slots a_out X O) sz) 0 0 (va_A (wdXO cI cJ a_t a_row a_row_signs a_work a_work_signs a_rest a_rest_signs a_bag a_bag_often a_smooth a_smooth_madeFor a_smooth_weight a_smooth_inCell a_smooth_all a_smooth_starting a_text a_text_codes a_saves a_saves_slots a_out X O) sz) := by
  unfold G_X5_undo at hF
  obtain ⟨o, ho, he⟩ := Option.map_eq_some_iff.mp hF
  obtain ⟨rfl, rfl⟩ := Prod.mk.inj he
  refine mofWI (by decide +kernel) (Nat.le_of_ble_eq_true rfl) ?_
  intro p e s m args below meth c Q A ls hx hb hml hown hts hK hP hD hS hA hG hl htab hret hsz0
  have hl : lv_has ls 3 [(0, .ref a_t), (1, .ref a_out)] := hl
  have hP : va_P D vwCl (wdXO cI cJ a_t a_row a_row_signs a_work a_work_signs a_rest a_rest_signs a_bag a_bag_often a_smooth a_smooth_madeFor a_smooth_weight a_smooth_inCell a_smooth_all a_smooth_starting a_text a_text_codes a_saves a_saves_slots a_out X O) s.heap := hP
  obtain ⟨H, hH⟩ : ∃ H, H = s.heap := ⟨_, rfl⟩
  rw [← hH]
  rw [← hH] at hP
  obtain ⟨locs, hlo⟩ : ∃ z : List Loc, z = [] := ⟨_, rfl⟩
  rw [← hlo]
  have hS : va_S A s.heap H locs := by rw [hH, hlo]; exact hS
  refine lv_aload_n hx hb dL_undo_0 rfl (lv_at hl 1 rfl) ?_
  refine lv_iconst (v := 0) hx hb dL_undo_1 (by decide) ?_
  refine lv_aload_n hx hb dL_undo_2 rfl (lv_at hl 0 rfl) ?_
  refine kVI (As := []) (rest := [.int (0 : Int32), .ref a_out]) (ws' := (wdXO cI cJ a_t a_row a_row_signs a_work a_work_signs a_rest a_rest_signs a_bag a_bag_often a_smooth a_smooth_madeFor a_smooth_weight a_smooth_inCell a_smooth_all a_smooth_starting a_text a_text_codes a_saves a_saves_slots a_out (o.2.1, o.2.2.1, o.2.2.2.1, X.2.2.2.1, X.2.2.2.2.1, X.2.2.2.2.2.1, X.2.2.2.2.2.2.1, X.2.2.2.2.2.2.2.1, X.2.2.2.2.2.2.2.2.1, X.2.2.2.2.2.2.2.2.2.1, X.2.2.2.2.2.2.2.2.2.2.1, X.2.2.2.2.2.2.2.2.2.2.2.1, X.2.2.2.2.2.2.2.2.2.2.2.2.1, X.2.2.2.2.2.2.2.2.2.2.2.2.2.1, X.2.2.2.2.2.2.2.2.2.2.2.2.2.2.1, X.2.2.2.2.2.2.2.2.2.2.2.2.2.2.2.1, o.2.2.2.2, X.2.2.2.2.2.2.2.2.2.2.2.2.2.2.2.2.2) O)) ⟨hx, hb, hml, hown, hts⟩ (c_X5_undo l D cI a_t a_row a_work a_rest a_bag a_smooth a_text a_saves a_row_signs a_saves_slots H.size X.1 X.2.1 X.2.2.1 X.2.2.2.2.2.2.2.2.2.2.2.2.2.2.2.2.1 X.2.2.2.2.2.2.2.2.2.2.2.2.2.2.2.2.2  o ho) (cwV 0 hts mw_L_51 rfl rfl rfl hd_X5_undo ⟨Nat.le_of_ble_eq_true rfl, Nat.le_of_ble_eq_true rfl⟩) hS hA hG (hK.sub [0] rfl) hP hD [0, 1, 2, 17, 18] rfl rfl rfl rfl rfl ⟨Nat.zero_le _, Nat.zero_le _⟩ 5 0 rfl rfl rfl rfl hl.1 rfl (Nat.le_of_ble_eq_true rfl) dL_undo_3 (fun H locs hP hD hS => ?_)
  refine lv_i2l hx hb dL_undo_6 rfl ?_
  refine va_last hx hb hK hP hD hS 19 1 rfl rfl (vinb (by decide)) dL_undo_7 (fun H locs hP hD hS => ?_)
  have hP : va_P D vwCl (wdXO cI cJ a_t a_row a_row_signs a_work a_work_signs a_rest a_rest_signs a_bag a_bag_often a_smooth a_smooth_madeFor a_smooth_weight a_smooth_inCell a_smooth_all a_smooth_starting a_text a_text_codes a_saves a_saves_slots a_out (o.2.1, o.2.2.1, o.2.2.2.1, X.2.2.2.1, X.2.2.2.2.1, X.2.2.2.2.2.1, X.2.2.2.2.2.2.1, X.2.2.2.2.2.2.2.1, X.2.2.2.2.2.2.2.2.1, X.2.2.2.2.2.2.2.2.2.1, X.2.2.2.2.2.2.2.2.2.2.1, X.2.2.2.2.2.2.2.2.2.2.2.1, X.2.2.2.2.2.2.2.2.2.2.2.2.1, X.2.2.2.2.2.2.2.2.2.2.2.2.2.1, X.2.2.2.2.2.2.2.2.2.2.2.2.2.2.1, X.2.2.2.2.2.2.2.2.2.2.2.2.2.2.2.1, o.2.2.2.2, X.2.2.2.2.2.2.2.2.2.2.2.2.2.2.2.2.2) (vp_updL O (0 : Int32).toNatClampNeg (o.1).toInt64)) H := hP
  refine lv_goto (tgt := 14) hx hb dL_undo_8 (by decide) ?_
  refine lv_iconst (v := 0) hx hb dL_undo_14 (by decide) ?_
  exact hret H locs ls 15 (0 : Int32) _ hP hS rfl rfl dL_undo_15
def rm_L_undo_T : Room := { frames := 7, cells := 1, slots := 6, locals := 110 }
set_option maxHeartbeats 4000000 in
set_option maxRecDepth 100000 in
theorem cL_undo_T2 (l : Launch) (hl0 : l.stackTraces = false) (D : va_G) (cI cJ : ClassId) (a_t a_row a_row_signs a_work a_work_signs a_rest a_rest_signs a_bag a_bag_often a_smooth a_smooth_madeFor a_smooth_weight a_smooth_inCell a_smooth_all a_smooth_starting a_text a_text_codes a_saves a_saves_slots a_out : Nat) (sz : Nat) (X : XS) (O : Nat → Int64) (X' : XS) (hF : G_X5_undo_T X  = some (2, X')) : Met l yL_undo (Cond.codeWith yL_undo cL_undo 3 (some .int) [(0, 8, 11, 18)] :: WL) rm_L_undo_T (preM D [(cI, .int), (cJ, .long)] (wdXO cI cJ a_t a_row a_row_signs a_work a_work_signs a_rest a_rest_signs a_bag a_bag_often a_smooth a_smooth_madeFor a_smooth_weight a_smooth_inCell a_smooth_all a_smooth_starting a_text a_text_codes a_saves a_saves_slots a_out X O) sz [.ref a_t, .ref a_out]) (postI D 1 (wdXO cI cJ a_t a_row a_row_signs a_work a_work_signs a_rest a_rest_signs a_bag a_bag_often a_smooth a_smooth_madeFor a_smooth_weight a_smooth_inCell a_smooth_all a_smooth_starting a_text a_text_codes a_saves a_saves_slots a_out X' O) (wdXO cI cJ a_t a_row a_row_signs a_work a_work_signs a_rest a_rest_signs a_bag a_bag_often a_smooth a_smooth_madeFor a_smooth_weight a_smooth_inCell a_smooth_all a_smooth_starting a_text a_text_codes a_saves a_saves_slots a_out X O) sz) 1 6 (va_A (wdXO cI cJ a_t a_row a_row_signs a_work a_work_signs a_rest a_rest_signs a_bag a_bag_often a_smooth a_smooth_madeFor a_smooth_weight a_smooth_inCell a_smooth_all a_smooth_starting a_text a_text_codes a_saves a_saves_slots a_out X O) sz) := by
  unfold G_X5_undo_T at hF
  obtain ⟨o, ho, he⟩ := Option.map_eq_some_iff.mp hF
  obtain ⟨hk9, rfl⟩ := Prod.mk.inj he
  refine mofWI (by decide +kernel) (Nat.le_of_ble_eq_true rfl) ?_
  intro p e s m args below meth c Q A ls hx hb hml hown hts hK hP hD hS hA hG hl htab hret hsz0
  have hl : lv_has ls 3 [(0, .ref a_t), (1, .ref a_out)] := hl
  have hP : va_P D vwCl (wdXO cI cJ a_t a_row a_row_signs a_work a_work_signs a_rest a_rest_signs a_bag a_bag_often a_smooth a_smooth_madeFor a_smooth_weight a_smooth_inCell a_smooth_all a_smooth_starting a_text a_text_codes a_saves a_saves_slots a_out X O) s.heap := hP
  obtain ⟨H, hH⟩ : ∃ H, H = s.heap := ⟨_, rfl⟩
  rw [← hH]
  rw [← hH] at hP
  obtain ⟨locs, hlo⟩ : ∃ z : List Loc, z = [] := ⟨_, rfl⟩
  rw [← hlo]
  have hS : va_S A s.heap H locs := by rw [hH, hlo]; exact hS
  refine lv_aload_n hx hb dL_undo_0 rfl (lv_at hl 1 rfl) ?_
  refine lv_iconst (v := 0) hx hb dL_undo_1 (by decide) ?_
  refine lv_aload_n hx hb dL_undo_2 rfl (lv_at hl 0 rfl) ?_
  refine kVT (As := []) (rest := [.int (0 : Int32), .ref a_out]) (ws' := (wdXO cI cJ a_t a_row a_row_signs a_work a_work_signs a_rest a_rest_signs a_bag a_bag_often a_smooth a_smooth_madeFor a_smooth_weight a_smooth_inCell a_smooth_all a_smooth_starting a_text a_text_codes a_saves a_saves_slots a_out (o.2.1, o.2.2.1, o.2.2.2.1, X.2.2.2.1, X.2.2.2.2.1, X.2.2.2.2.2.1, X.2.2.2.2.2.2.1, X.2.2.2.2.2.2.2.1, X.2.2.2.2.2.2.2.2.1, X.2.2.2.2.2.2.2.2.2.1, X.2.2.2.2.2.2.2.2.2.2.1, X.2.2.2.2.2.2.2.2.2.2.2.1, X.2.2.2.2.2.2.2.2.2.2.2.2.1, X.2.2.2.2.2.2.2.2.2.2.2.2.2.1, X.2.2.2.2.2.2.2.2.2.2.2.2.2.2.1, X.2.2.2.2.2.2.2.2.2.2.2.2.2.2.2.1, o.2.2.2.2, X.2.2.2.2.2.2.2.2.2.2.2.2.2.2.2.2.2) O)) ⟨hx, hb, hml, hown, hts⟩ (c_X5_undo_T l D cI hl0 a_t a_row a_work a_rest a_bag a_smooth a_text a_saves a_row_signs a_saves_slots H.size X.1 X.2.1 X.2.2.1 X.2.2.2.2.2.2.2.2.2.2.2.2.2.2.2.2.1 X.2.2.2.2.2.2.2.2.2.2.2.2.2.2.2.2.2  o ho) (cwV 0 hts mw_L_51 rfl rfl rfl hd_X5_undo ⟨Nat.le_of_ble_eq_true rfl, Nat.le_of_ble_eq_true rfl⟩) hS hA hG (hK.sub [0] rfl) hP hD [0, 1, 2, 17, 18] rfl rfl rfl rfl rfl ⟨Nat.le_of_ble_eq_true rfl, Nat.le_of_ble_eq_true rfl⟩ 5 0 rfl rfl rfl rfl hl.1 rfl (Nat.le_of_ble_eq_true rfl) dL_undo_3 (fun H locs q9 ce hP hD hS hce hcv hcl => ?_)
  rw [show kX o.1 = "java/lang/IllegalStateException" by rw [hk9]; rfl] at hcl
  refine vx_catch (name := "java/lang/IllegalStateException") hown [] ⟨0, 8, 11, 18⟩ [] (by rw [htab]; rfl) (fun z hz => by cases hz) (by decide) (by decide) (hts _ k3_103) (va_Nw.use rfl (hG.2.2.2.2.1 _ (by decide))) hce hcv hcl ?_
  refine lv_astore_n (lv' := [(2, .ref q9), (0, .ref a_t), (1, .ref a_out)]) hx hb dL_undo_11 rfl hl (by decide) rfl (fun ls hl => ?_)
  refine lv_iconst (v := 1) hx hb dL_undo_12 (by decide) ?_
  exact hret H locs ls 13 (1 : Int32) _ hP hS rfl rfl dL_undo_13
theorem mw_L_54 : GoodIn WL (wsV RL 54 RX5 yX5_sign (Cond.code yX5_sign cX5_sign 2 (some .int) :: WL)) := gV_of k4_3 k2_238 k2_239 k1_1 k3_0
def rm_L_sign : Room := { frames := 3, cells := 0, slots := 0, locals := 63 }
set_option maxHeartbeats 4000000 in
set_option maxRecDepth 100000 in
theorem cL_sign_N (l : Launch) (D : va_G) (cI cJ : ClassId) (a_t a_row a_row_signs a_work a_work_signs a_rest a_rest_signs a_bag a_bag_often a_smooth a_smooth_madeFor a_smooth_weight a_smooth_inCell a_smooth_all a_smooth_starting a_text a_text_codes a_saves a_saves_slots a_out : Nat) (sz : Nat) (X : XS) (O : Nat → Int64) (x1 : Int32) (r : Int32) (X' : XS) (hF : G_X5_sign X x1 = some (r, X')) : Met l yL_sign (Cond.codeWith yL_sign cL_sign 4 (some .int) [(0, 9, 12, 31)] :: WL) rm_L_sign (preM D [(cI, .int), (cJ, .long)] (wdXO cI cJ a_t a_row a_row_signs a_work a_work_signs a_rest a_rest_signs a_bag a_bag_often a_smooth a_smooth_madeFor a_smooth_weight a_smooth_inCell a_smooth_all a_smooth_starting a_text a_text_codes a_saves a_saves_slots a_out X O) sz [.ref a_t, .int x1, .ref a_out]) (postI D 0 (wdXO cI cJ a_t a_row a_row_signs a_work a_work_signs a_rest a_rest_signs a_bag a_bag_often a_smooth a_smooth_madeFor a_smooth_weight a_smooth_inCell a_smooth_all a_smooth_starting a_text a_text_codes a_saves a_saves_slots a_out X' (vp_updL O (0 : Int32).toNatClampNeg (r).toInt64)) (wdXO cI cJ a_t a_row a_row_signs a_work a_work_signs a_rest a_rest_signs a_bag a_bag_often a_smooth a_smooth_madeFor a_smooth_weight a_smooth_inCell a_smooth_all a_smooth_starting a_text a_text_codes a_saves a_saves_slots a_out X O) sz) 0 0 (va_A (wdXO cI cJ a_t a_row a_row_signs a_work a_work_signs a_rest a_rest_signs a_bag a_bag_often a_smooth a_smooth_madeFor a_smooth_weight a_smooth_inCell a_smooth_all a_smooth_starting a_text a_text_codes a_saves a_saves_slots a_out X O) sz) := by
  unfold G_X5_sign at hF
  obtain ⟨o, ho, he⟩ := Option.map_eq_some_iff.mp hF
  obtain ⟨rfl, rfl⟩ := Prod.mk.inj he
  refine mofWI (by decide +kernel) (Nat.le_of_ble_eq_true rfl) ?_
  intro p e s m args below meth c Q A ls hx hb hml hown hts hK hP hD hS hA hG hl htab hret hsz0
  have hl : lv_has ls 4 [(0, .ref a_t), (1, .int x1), (2, .ref a_out)] := hl
  have hP : va_P D vwCl (wdXO cI cJ a_t a_row a_row_signs a_work a_work_signs a_rest a_rest_signs a_bag a_bag_often a_smooth a_smooth_madeFor a_smooth_weight a_smooth_inCell a_smooth_all a_smooth_starting a_text a_text_codes a_saves a_saves_slots a_out X O) s.heap := hP
  obtain ⟨H, hH⟩ : ∃ H, H = s.heap := ⟨_, rfl⟩
  rw [← hH]
  rw [← hH] at hP
  obtain ⟨locs, hlo⟩ : ∃ z : List Loc, z = [] := ⟨_, rfl⟩
  rw [← hlo]
  have hS : va_S A s.heap H locs := by rw [hH, hlo]; exact hS
  refine lv_aload_n hx hb dL_sign_0 rfl (lv_at hl 2 rfl) ?_
  refine lv_iconst (v := 0) hx hb dL_sign_1 (by decide) ?_
  refine lv_aload_n hx hb dL_sign_2 rfl (lv_at hl 0 rfl) ?_
  refine lv_iload_n hx hb dL_sign_3 rfl (lv_at hl 1 rfl) ?_
  refine kVI (As := [.int x1]) (rest := [.int (0 : Int32), .ref a_out]) (ws' := (wdXO cI cJ a_t a_row a_row_signs a_work a_work_signs a_rest a_rest_signs a_bag a_bag_often a_smooth a_smooth_madeFor a_smooth_weight a_smooth_inCell a_smooth_all a_smooth_starting a_text a_text_codes a_saves a_saves_slots a_out (X.1, X.2.1, X.2.2.1, X.2.2.2.1, X.2.2.2.2.1, X.2.2.2.2.2.1, X.2.2.2.2.2.2.1, X.2.2.2.2.2.2.2.1, X.2.2.2.2.2.2.2.2.1, X.2.2.2.2.2.2.2.2.2.1, X.2.2.2.2.2.2.2.2.2.2.1, X.2.2.2.2.2.2.2.2.2.2.2.1, X.2.2.2.2.2.2.2.2.2.2.2.2.1, X.2.2.2.2.2.2.2.2.2.2.2.2.2.1, X.2.2.2.2.2.2.2.2.2.2.2.2.2.2.1, X.2.2.2.2.2.2.2.2.2.2.2.2.2.2.2.1, X.2.2.2.2.2.2.2.2.2.2.2.2.2.2.2.2.1, X.2.2.2.2.2.2.2.2.2.2.2.2.2.2.2.2.2) O)) ⟨hx, hb, hml, hown, hts⟩ (c_X5_sign l D cI a_t a_row a_work a_rest a_bag a_smooth a_text a_saves a_row_signs H.size X.1 X.2.1 X.2.2.1 x1 o ho) (cwV 1 hts mw_L_54 rfl rfl rfl hd_X5_sign ⟨Nat.le_of_ble_eq_true rfl, Nat.le_of_ble_eq_true rfl⟩) hS hA hG (hK.sub [0] rfl) hP hD [0, 1, 2] rfl rfl rfl rfl rfl ⟨Nat.zero_le _, Nat.zero_le _⟩ 5 0 rfl rfl rfl rfl hl.1 rfl (Nat.le_of_ble_eq_true rfl) dL_sign_4 (fun H locs hP hD hS => ?_)
  refine lv_i2l hx hb dL_sign_7 rfl ?_
  refine va_last hx hb hK hP hD hS 19 1 rfl rfl (vinb (by decide)) dL_sign_8 (fun H locs hP hD hS => ?_)
  have hP : va_P D vwCl (wdXO cI cJ a_t a_row a_row_signs a_work a_work_signs a_rest a_rest_signs a_bag a_bag_often a_smooth a_smooth_madeFor a_smooth_weight a_smooth_inCell a_smooth_all a_smooth_starting a_text a_text_codes a_saves a_saves_slots a_out (X.1, X.2.1, X.2.2.1, X.2.2.2.1, X.2.2.2.2.1, X.2.2.2.2.2.1, X.2.2.2.2.2.2.1, X.2.2.2.2.2.2.2.1, X.2.2.2.2.2.2.2.2.1, X.2.2.2.2.2.2.2.2.2.1, X.2.2.2.2.2.2.2.2.2.2.1, X.2.2.2.2.2.2.2.2.2.2.2.1, X.2.2.2.2.2.2.2.2.2.2.2.2.1, X.2.2.2.2.2.2.2.2.2.2.2.2.2.1, X.2.2.2.2.2.2.2.2.2.2.2.2.2.2.1, X.2.2.2.2.2.2.2.2.2.2.2.2.2.2.2.1, X.2.2.2.2.2.2.2.2.2.2.2.2.2.2.2.2.1, X.2.2.2.2.2.2.2.2.2.2.2.2.2.2.2.2.2) (vp_updL O (0 : Int32).toNatClampNeg (o).toInt64)) H := hP
  refine lv_goto (tgt := 15) hx hb dL_sign_9 (by decide) ?_
  refine lv_iconst (v := 0) hx hb dL_sign_15 (by decide) ?_
  exact hret H locs ls 16 (0 : Int32) _ hP hS rfl rfl dL_sign_16
def rm_L_sign_T : Room := { frames := 8, cells := 1, slots := 6, locals := 132 }
set_option maxHeartbeats 4000000 in
set_option maxRecDepth 100000 in
theorem cL_sign_T3 (l : Launch) (hl0 : l.stackTraces = false) (D : va_G) (cI cJ : ClassId) (a_t a_row a_row_signs a_work a_work_signs a_rest a_rest_signs a_bag a_bag_often a_smooth a_smooth_madeFor a_smooth_weight a_smooth_inCell a_smooth_all a_smooth_starting a_text a_text_codes a_saves a_saves_slots a_out : Nat) (sz : Nat) (X : XS) (O : Nat → Int64) (x1 : Int32) (X' : XS) (hF : G_X5_sign_T X x1 = some (3, X')) : Met l yL_sign (Cond.codeWith yL_sign cL_sign 4 (some .int) [(0, 9, 12, 31)] :: WL) rm_L_sign_T (preM D [(cI, .int), (cJ, .long)] (wdXO cI cJ a_t a_row a_row_signs a_work a_work_signs a_rest a_rest_signs a_bag a_bag_often a_smooth a_smooth_madeFor a_smooth_weight a_smooth_inCell a_smooth_all a_smooth_starting a_text a_text_codes a_saves a_saves_slots a_out X O) sz [.ref a_t, .int x1, .ref a_out]) (postI D 1 (wdXO cI cJ a_t a_row a_row_signs a_work a_work_signs a_rest a_rest_signs a_bag a_bag_often a_smooth a_smooth_madeFor a_smooth_weight a_smooth_inCell a_smooth_all a_smooth_starting a_text a_text_codes a_saves a_saves_slots a_out X' O) (wdXO cI cJ a_t a_row a_row_signs a_work a_work_signs a_rest a_rest_signs a_bag a_bag_often a_smooth a_smooth_madeFor a_smooth_weight a_smooth_inCell a_smooth_all a_smooth_starting a_text a_text_codes a_saves a_saves_slots a_out X O) sz) 1 6 (va_A (wdXO cI cJ a_t a_row a_row_signs a_work a_work_signs a_rest a_rest_signs a_bag a_bag_often a_smooth a_smooth_madeFor a_smooth_weight a_smooth_inCell a_smooth_all a_smooth_starting a_text a_text_codes a_saves a_saves_slots a_out X O) sz) := by
  unfold G_X5_sign_T at hF
  obtain ⟨o, ho, he⟩ := Option.map_eq_some_iff.mp hF
  obtain ⟨hk9, rfl⟩ := Prod.mk.inj he
  refine mofWI (by decide +kernel) (Nat.le_of_ble_eq_true rfl) ?_
  intro p e s m args below meth c Q A ls hx hb hml hown hts hK hP hD hS hA hG hl htab hret hsz0
  have hl : lv_has ls 4 [(0, .ref a_t), (1, .int x1), (2, .ref a_out)] := hl
  have hP : va_P D vwCl (wdXO cI cJ a_t a_row a_row_signs a_work a_work_signs a_rest a_rest_signs a_bag a_bag_often a_smooth a_smooth_madeFor a_smooth_weight a_smooth_inCell a_smooth_all a_smooth_starting a_text a_text_codes a_saves a_saves_slots a_out X O) s.heap := hP
  obtain ⟨H, hH⟩ : ∃ H, H = s.heap := ⟨_, rfl⟩
  rw [← hH]
  rw [← hH] at hP
  obtain ⟨locs, hlo⟩ : ∃ z : List Loc, z = [] := ⟨_, rfl⟩
  rw [← hlo]
  have hS : va_S A s.heap H locs := by rw [hH, hlo]; exact hS
  refine lv_aload_n hx hb dL_sign_0 rfl (lv_at hl 2 rfl) ?_
  refine lv_iconst (v := 0) hx hb dL_sign_1 (by decide) ?_
  refine lv_aload_n hx hb dL_sign_2 rfl (lv_at hl 0 rfl) ?_
  refine lv_iload_n hx hb dL_sign_3 rfl (lv_at hl 1 rfl) ?_
  refine kVT (As := [.int x1]) (rest := [.int (0 : Int32), .ref a_out]) (ws' := (wdXO cI cJ a_t a_row a_row_signs a_work a_work_signs a_rest a_rest_signs a_bag a_bag_often a_smooth a_smooth_madeFor a_smooth_weight a_smooth_inCell a_smooth_all a_smooth_starting a_text a_text_codes a_saves a_saves_slots a_out (X.1, X.2.1, X.2.2.1, X.2.2.2.1, X.2.2.2.2.1, X.2.2.2.2.2.1, X.2.2.2.2.2.2.1, X.2.2.2.2.2.2.2.1, X.2.2.2.2.2.2.2.2.1, X.2.2.2.2.2.2.2.2.2.1, X.2.2.2.2.2.2.2.2.2.2.1, X.2.2.2.2.2.2.2.2.2.2.2.1, X.2.2.2.2.2.2.2.2.2.2.2.2.1, X.2.2.2.2.2.2.2.2.2.2.2.2.2.1, X.2.2.2.2.2.2.2.2.2.2.2.2.2.2.1, X.2.2.2.2.2.2.2.2.2.2.2.2.2.2.2.1, X.2.2.2.2.2.2.2.2.2.2.2.2.2.2.2.2.1, X.2.2.2.2.2.2.2.2.2.2.2.2.2.2.2.2.2) O)) ⟨hx, hb, hml, hown, hts⟩ (c_X5_sign_T l D cI hl0 a_t a_row a_work a_rest a_bag a_smooth a_text a_saves a_row_signs H.size X.1 X.2.1 X.2.2.1 x1 o ho) (cwV 1 hts mw_L_54 rfl rfl rfl hd_X5_sign ⟨Nat.le_of_ble_eq_true rfl, Nat.le_of_ble_eq_true rfl⟩) hS hA hG (hK.sub [0] rfl) hP hD [0, 1, 2] rfl rfl rfl rfl rfl ⟨Nat.le_of_ble_eq_true rfl, Nat.le_of_ble_eq_true rfl⟩ 5 0 rfl rfl rfl rfl hl.1 rfl (Nat.le_of_ble_eq_true rfl) dL_sign_4 (fun H locs q9 ce hP hD hS hce hcv hcl => ?_)
  rw [show kX o = "java/lang/IndexOutOfBoundsException" by rw [hk9]; rfl] at hcl
  refine vx_catch (name := "java/lang/IndexOutOfBoundsException") hown [] ⟨0, 9, 12, 31⟩ [] (by rw [htab]; rfl) (fun z hz => by cases hz) (by decide) (by decide) (hts _ k3_147) (va_Nw.use rfl (hG.2.2.2.2.1 _ (by decide))) hce hcv hcl ?_
  refine lv_astore_n (lv' := [(3, .ref q9), (0, .ref a_t), (1, .int x1), (2, .ref a_out)]) hx hb dL_sign_12 rfl hl (by decide) rfl (fun ls hl => ?_)
  refine lv_iconst (v := 1) hx hb dL_sign_13 (by decide) ?_
  exact hret H locs ls 14 (1 : Int32) _ hP hS rfl rfl dL_sign_14
theorem mw_L_57 : GoodIn WL (wsV RL 57 RX5 yX5_digit (Cond.code yX5_digit cX5_digit 2 (some .int) :: WL)) := gV_of k4_7 k3_26 k3_27 k1_1 k3_28
def rm_L_digit : Room := { frames := 3, cells := 0, slots := 0, locals := 65 }
set_option maxHeartbeats 4000000 in
set_option maxRecDepth 100000 in
theorem cL_digit_N (l : Launch) (D : va_G) (cI cJ : ClassId) (a_t a_row a_row_signs a_work a_work_signs a_rest a_rest_signs a_bag a_bag_often a_smooth a_smooth_madeFor a_smooth_weight a_smooth_inCell a_smooth_all a_smooth_starting a_text a_text_codes a_saves a_saves_slots a_out : Nat) (sz : Nat) (X : XS) (O : Nat → Int64) (x1 : Int32) (r : Int32) (X' : XS) (hF : G_X5_digit X x1 = some (r, X')) : Met l yL_digit (Cond.codeWith yL_digit cL_digit 4 (some .int) [(0, 9, 12, 31)] :: WL) rm_L_digit (preM D [(cI, .int), (cJ, .long)] (wdXO cI cJ a_t a_row a_row_signs a_work a_work_signs a_rest a_rest_signs a_bag a_bag_often a_smooth a_smooth_madeFor a_smooth_weight a_smooth_inCell a_smooth_all a_smooth_starting a_text a_text_codes a_saves a_saves_slots a_out X O) sz [.ref a_t, .int x1, .ref a_out]) (postI D 0 (wdXO cI cJ a_t a_row a_row_signs a_work a_work_signs a_rest a_rest_signs a_bag a_bag_often a_smooth a_smooth_madeFor a_smooth_weight a_smooth_inCell a_smooth_all a_smooth_starting a_text a_text_codes a_saves a_saves_slots a_out X' (vp_updL O (0 : Int32).toNatClampNeg (r).toInt64)) (wdXO cI cJ a_t a_row a_row_signs a_work a_work_signs a_rest a_rest_signs a_bag a_bag_often a_smooth a_smooth_madeFor a_smooth_weight a_smooth_inCell a_smooth_all a_smooth_starting a_text a_text_codes a_saves a_saves_slots a_out X O) sz) 0 0 (va_A (wdXO cI cJ a_t a_row a_row_signs a_work a_work_signs a_rest a_rest_signs a_bag a_bag_often a_smooth a_smooth_madeFor a_smooth_weight a_smooth_inCell a_smooth_all a_smooth_starting a_text a_text_codes a_saves a_saves_slots a_out X O) sz) := by
  unfold G_X5_digit at hF
  obtain ⟨o, ho, he⟩ := Option.map_eq_some_iff.mp hF
  obtain ⟨rfl, rfl⟩ := Prod.mk.inj he
  refine mofWI (by decide +kernel) (Nat.le_of_ble_eq_true rfl) ?_
  intro p e s m args below meth c Q A ls hx hb hml hown hts hK hP hD hS hA hG hl htab hret hsz0
  have hl : lv_has ls 4 [(0, .ref a_t), (1, .int x1), (2, .ref a_out)] := hl
  have hP : va_P D vwCl (wdXO cI cJ a_t a_row a_row_signs a_work a_work_signs a_rest a_rest_signs a_bag a_bag_often a_smooth a_smooth_madeFor a_smooth_weight a_smooth_inCell a_smooth_all a_smooth_starting a_text a_text_codes a_saves a_saves_slots a_out X O) s.heap := hP
  obtain ⟨H, hH⟩ : ∃ H, H = s.heap := ⟨_, rfl⟩
  rw [← hH]
  rw [← hH] at hP
  obtain ⟨locs, hlo⟩ : ∃ z : List Loc, z = [] := ⟨_, rfl⟩
  rw [← hlo]
  have hS : va_S A s.heap H locs := by rw [hH, hlo]; exact hS
  refine lv_aload_n hx hb dL_digit_0 rfl (lv_at hl 2 rfl) ?_
  refine lv_iconst (v := 0) hx hb dL_digit_1 (by decide) ?_
  refine lv_aload_n hx hb dL_digit_2 rfl (lv_at hl 0 rfl) ?_
  refine lv_iload_n hx hb dL_digit_3 rfl (lv_at hl 1 rfl) ?_
  refine kVI (As := [.int x1]) (rest := [.int (0 : Int32), .ref a_out]) (ws' := (wdXO cI cJ a_t a_row a_row_signs a_work a_work_signs a_rest a_rest_signs a_bag a_bag_often a_smooth a_smooth_madeFor a_smooth_weight a_smooth_inCell a_smooth_all a_smooth_starting a_text a_text_codes a_saves a_saves_slots a_out (X.1, X.2.1, X.2.2.1, X.2.2.2.1, X.2.2.2.2.1, X.2.2.2.2.2.1, X.2.2.2.2.2.2.1, o.2.1, o.2.2, X.2.2.2.2.2.2.2.2.2.1, X.2.2.2.2.2.2.2.2.2.2.1, X.2.2.2.2.2.2.2.2.2.2.2.1, X.2.2.2.2.2.2.2.2.2.2.2.2.1, X.2.2.2.2.2.2.2.2.2.2.2.2.2.1, X.2.2.2.2.2.2.2.2.2.2.2.2.2.2.1, X.2.2.2.2.2.2.2.2.2.2.2.2.2.2.2.1, X.2.2.2.2.2.2.2.2.2.2.2.2.2.2.2.2.1, X.2.2.2.2.2.2.2.2.2.2.2.2.2.2.2.2.2) O)) ⟨hx, hb, hml, hown, hts⟩ (c_X5_digit l D cI a_t a_row a_work a_rest a_bag a_smooth a_text a_saves a_bag_often a_row_signs H.size X.1 X.2.2.2.2.2.2.2.1 X.2.2.2.2.2.2.2.2.1 X.2.1 X.2.2.1 x1 o ho) (cwV 1 hts mw_L_57 rfl rfl rfl hd_X5_digit ⟨Nat.le_of_ble_eq_true rfl, Nat.le_of_ble_eq_true rfl⟩) hS hA hG (hK.sub [0] rfl) hP hD [0, 7, 8, 1, 2] rfl rfl rfl rfl rfl ⟨Nat.zero_le _, Nat.zero_le _⟩ 5 0 rfl rfl rfl rfl hl.1 rfl (Nat.le_of_ble_eq_true rfl) dL_digit_4 (fun H locs hP hD hS => ?_)
  refine lv_i2l hx hb dL_digit_7 rfl ?_
  refine va_last hx hb hK hP hD hS 19 1 rfl rfl (vinb (by decide)) dL_digit_8 (fun H locs hP hD hS => ?_)
  have hP : va_P D vwCl (wdXO cI cJ a_t a_row a_row_signs a_work a_work_signs a_rest a_rest_signs a_bag a_bag_often a_smooth a_smooth_madeFor a_smooth_weight a_smooth_inCell a_smooth_all a_smooth_starting a_text a_text_codes a_saves a_saves_slots a_out (X.1, X.2.1, X.2.2.1, X.2.2.2.1, X.2.2.2.2.1, X.2.2.2.2.2.1, X.2.2.2.2.2.2.1, o.2.1, o.2.2, X.2.2.2.2.2.2.2.2.2.1, X.2.2.2.2.2.2.2.2.2.2.1, X.2.2.2.2.2.2.2.2.2.2.2.1, X.2.2.2.2.2.2.2.2.2.2.2.2.1, X.2.2.2.2.2.2.2.2.2.2.2.2.2.1, X.2.2.2.2.2.2.2.2.2.2.2.2.2.2.1, X.2.2.2.2.2.2.2.2.2.2.2.2.2.2.2.1, X.2.2.2.2.2.2.2.2.2.2.2.2.2.2.2.2.1, X.2.2.2.2.2.2.2.2.2.2.2.2.2.2.2.2.2) (vp_updL O (0 : Int32).toNatClampNeg (o.1).toInt64)) H := hP
  refine lv_goto (tgt := 15) hx hb dL_digit_9 (by decide) ?_
  refine lv_iconst (v := 0) hx hb dL_digit_15 (by decide) ?_
  exact hret H locs ls 16 (0 : Int32) _ hP hS rfl rfl dL_digit_16
def rm_L_digit_T : Room := { frames := 8, cells := 1, slots := 6, locals := 132 }
set_option maxHeartbeats 4000000 in
set_option maxRecDepth 100000 in
theorem cL_digit_T3 (l : Launch) (hl0 : l.stackTraces = false) (D : va_G) (cI cJ : ClassId) (a_t a_row a_row_signs a_work a_work_signs a_rest a_rest_signs a_bag a_bag_often a_smooth a_smooth_madeFor a_smooth_weight a_smooth_inCell a_smooth_all a_smooth_starting a_text a_text_codes a_saves a_saves_slots a_out : Nat) (sz : Nat) (X : XS) (O : Nat → Int64) (x1 : Int32) (X' : XS) (hF : G_X5_digit_T X x1 = some (3, X')) : Met l yL_digit (Cond.codeWith yL_digit cL_digit 4 (some .int) [(0, 9, 12, 31)] :: WL) rm_L_digit_T (preM D [(cI, .int), (cJ, .long)] (wdXO cI cJ a_t a_row a_row_signs a_work a_work_signs a_rest a_rest_signs a_bag a_bag_often a_smooth a_smooth_madeFor a_smooth_weight a_smooth_inCell a_smooth_all a_smooth_starting a_text a_text_codes a_saves a_saves_slots a_out X O) sz [.ref a_t, .int x1, .ref a_out]) (postI D 1 (wdXO cI cJ a_t a_row a_row_signs a_work a_work_signs a_rest a_rest_signs a_bag a_bag_often a_smooth a_smooth_madeFor a_smooth_weight a_smooth_inCell a_smooth_all a_smooth_starting a_text a_text_codes a_saves a_saves_slots a_out X' O) (wdXO cI cJ a_t a_row a_row_signs a_work a_work_signs a_rest a_rest_signs a_bag a_bag_often a_smooth a_smooth_madeFor a_smooth_weight a_smooth_inCell a_smooth_all a_smooth_starting a_text a_text_codes a_saves a_saves_slots a_out X O) sz) 1 6 (va_A (wdXO cI cJ a_t a_row a_row_signs a_work a_work_signs a_rest a_rest_signs a_bag a_bag_often a_smooth a_smooth_madeFor a_smooth_weight a_smooth_inCell a_smooth_all a_smooth_starting a_text a_text_codes a_saves a_saves_slots a_out X O) sz) := by
  unfold G_X5_digit_T at hF
  obtain ⟨o, ho, he⟩ := Option.map_eq_some_iff.mp hF
  obtain ⟨hk9, rfl⟩ := Prod.mk.inj he
  refine mofWI (by decide +kernel) (Nat.le_of_ble_eq_true rfl) ?_
  intro p e s m args below meth c Q A ls hx hb hml hown hts hK hP hD hS hA hG hl htab hret hsz0
  have hl : lv_has ls 4 [(0, .ref a_t), (1, .int x1), (2, .ref a_out)] := hl
  have hP : va_P D vwCl (wdXO cI cJ a_t a_row a_row_signs a_work a_work_signs a_rest a_rest_signs a_bag a_bag_often a_smooth a_smooth_madeFor a_smooth_weight a_smooth_inCell a_smooth_all a_smooth_starting a_text a_text_codes a_saves a_saves_slots a_out X O) s.heap := hP
  obtain ⟨H, hH⟩ : ∃ H, H = s.heap := ⟨_, rfl⟩
  rw [← hH]
  rw [← hH] at hP
  obtain ⟨locs, hlo⟩ : ∃ z : List Loc, z = [] := ⟨_, rfl⟩
  rw [← hlo]
  have hS : va_S A s.heap H locs := by rw [hH, hlo]; exact hS
  refine lv_aload_n hx hb dL_digit_0 rfl (lv_at hl 2 rfl) ?_
  refine lv_iconst (v := 0) hx hb dL_digit_1 (by decide) ?_
  refine lv_aload_n hx hb dL_digit_2 rfl (lv_at hl 0 rfl) ?_
  refine lv_iload_n hx hb dL_digit_3 rfl (lv_at hl 1 rfl) ?_
  refine kVT (As := [.int x1]) (rest := [.int (0 : Int32), .ref a_out]) (ws' := (wdXO cI cJ a_t a_row a_row_signs a_work a_work_signs a_rest a_rest_signs a_bag a_bag_often a_smooth a_smooth_madeFor a_smooth_weight a_smooth_inCell a_smooth_all a_smooth_starting a_text a_text_codes a_saves a_saves_slots a_out (X.1, X.2.1, X.2.2.1, X.2.2.2.1, X.2.2.2.2.1, X.2.2.2.2.2.1, X.2.2.2.2.2.2.1, o.2.1, o.2.2, X.2.2.2.2.2.2.2.2.2.1, X.2.2.2.2.2.2.2.2.2.2.1, X.2.2.2.2.2.2.2.2.2.2.2.1, X.2.2.2.2.2.2.2.2.2.2.2.2.1, X.2.2.2.2.2.2.2.2.2.2.2.2.2.1, X.2.2.2.2.2.2.2.2.2.2.2.2.2.2.1, X.2.2.2.2.2.2.2.2.2.2.2.2.2.2.2.1, X.2.2.2.2.2.2.2.2.2.2.2.2.2.2.2.2.1, X.2.2.2.2.2.2.2.2.2.2.2.2.2.2.2.2.2) O)) ⟨hx, hb, hml, hown, hts⟩ (c_X5_digit_T l D cI hl0 a_t a_row a_work a_rest a_bag a_smooth a_text a_saves a_bag_often a_row_signs H.size X.1 X.2.2.2.2.2.2.2.1 X.2.2.2.2.2.2.2.2.1 X.2.1 X.2.2.1 x1 o ho) (cwV 1 hts mw_L_57 rfl rfl rfl hd_X5_digit ⟨Nat.le_of_ble_eq_true rfl, Nat.le_of_ble_eq_true rfl⟩) hS hA hG (hK.sub [0] rfl) hP hD [0, 7, 8, 1, 2] rfl rfl rfl rfl rfl ⟨Nat.le_of_ble_eq_true rfl, Nat.le_of_ble_eq_true rfl⟩ 5 0 rfl rfl rfl rfl hl.1 rfl (Nat.le_of_ble_eq_true rfl) dL_digit_4 (fun H locs q9 ce hP hD hS hce hcv hcl => ?_)
  rw [show kX o.1 = "java/lang/IndexOutOfBoundsException" by rw [hk9]; rfl] at hcl
  refine vx_catch (name := "java/lang/IndexOutOfBoundsException") hown [] ⟨0, 9, 12, 31⟩ [] (by rw [htab]; rfl) (fun z hz => by cases hz) (by decide) (by decide) (hts _ k3_147) (va_Nw.use rfl (hG.2.2.2.2.1 _ (by decide))) hce hcv hcl ?_
  refine lv_astore_n (lv' := [(3, .ref q9), (0, .ref a_t), (1, .int x1), (2, .ref a_out)]) hx hb dL_digit_12 rfl hl (by decide) rfl (fun ls hl => ?_)
  refine lv_iconst (v := 1) hx hb dL_digit_13 (by decide) ?_
  exact hret H locs ls 14 (1 : Int32) _ hP hS rfl rfl dL_digit_14
theorem mw_L_60 : GoodIn WL (wsV RL 60 RX5 yX5_many (Cond.code yX5_many cX5_many 2 (some .int) :: WL)) := gV_of k4_11 k3_58 k3_59 k1_1 k3_60
def rm_L_many : Room := { frames := 3, cells := 0, slots := 0, locals := 65 }
set_option maxHeartbeats 4000000 in
set_option maxRecDepth 100000 in
theorem cL_many_N (l : Launch) (D : va_G) (cI cJ : ClassId) (a_t a_row a_row_signs a_work a_work_signs a_rest a_rest_signs a_bag a_bag_often a_smooth a_smooth_madeFor a_smooth_weight a_smooth_inCell a_smooth_all a_smooth_starting a_text a_text_codes a_saves a_saves_slots a_out : Nat) (sz : Nat) (X : XS) (O : Nat → Int64) (x1 : Int32) (r : Int32) (X' : XS) (hF : G_X5_many X x1 = some (r, X')) : Met l yL_many (Cond.codeWith yL_many cL_many 4 (some .int) [(0, 9, 12, 13)] :: WL) rm_L_many (preM D [(cI, .int), (cJ, .long)] (wdXO cI cJ a_t a_row a_row_signs a_work a_work_signs a_rest a_rest_signs a_bag a_bag_often a_smooth a_smooth_madeFor a_smooth_weight a_smooth_inCell a_smooth_all a_smooth_starting a_text a_text_codes a_saves a_saves_slots a_out X O) sz [.ref a_t, .int x1, .ref a_out]) (postI D 0 (wdXO cI cJ a_t a_row a_row_signs a_work a_work_signs a_rest a_rest_signs a_bag a_bag_often a_smooth a_smooth_madeFor a_smooth_weight a_smooth_inCell a_smooth_all a_smooth_starting a_text a_text_codes a_saves a_saves_slots a_out X' (vp_updL O (0 : Int32).toNatClampNeg (r).toInt64)) (wdXO cI cJ a_t a_row a_row_signs a_work a_work_signs a_rest a_rest_signs a_bag a_bag_often a_smooth a_smooth_madeFor a_smooth_weight a_smooth_inCell a_smooth_all a_smooth_starting a_text a_text_codes a_saves a_saves_slots a_out X O) sz) 0 0 (va_A (wdXO cI cJ a_t a_row a_row_signs a_work a_work_signs a_rest a_rest_signs a_bag a_bag_often a_smooth a_smooth_madeFor a_smooth_weight a_smooth_inCell a_smooth_all a_smooth_starting a_text a_text_codes a_saves a_saves_slots a_out X O) sz) := by
  unfold G_X5_many at hF
  obtain ⟨o, ho, he⟩ := Option.map_eq_some_iff.mp hF
  obtain ⟨rfl, rfl⟩ := Prod.mk.inj he
  refine mofWI (by decide +kernel) (Nat.le_of_ble_eq_true rfl) ?_
  intro p e s m args below meth c Q A ls hx hb hml hown hts hK hP hD hS hA hG hl htab hret hsz0
  have hl : lv_has ls 4 [(0, .ref a_t), (1, .int x1), (2, .ref a_out)] := hl
  have hP : va_P D vwCl (wdXO cI cJ a_t a_row a_row_signs a_work a_work_signs a_rest a_rest_signs a_bag a_bag_often a_smooth a_smooth_madeFor a_smooth_weight a_smooth_inCell a_smooth_all a_smooth_starting a_text a_text_codes a_saves a_saves_slots a_out X O) s.heap := hP
  obtain ⟨H, hH⟩ : ∃ H, H = s.heap := ⟨_, rfl⟩
  rw [← hH]
  rw [← hH] at hP
  obtain ⟨locs, hlo⟩ : ∃ z : List Loc, z = [] := ⟨_, rfl⟩
  rw [← hlo]
  have hS : va_S A s.heap H locs := by rw [hH, hlo]; exact hS
  refine lv_aload_n hx hb dL_many_0 rfl (lv_at hl 2 rfl) ?_
  refine lv_iconst (v := 0) hx hb dL_many_1 (by decide) ?_
  refine lv_aload_n hx hb dL_many_2 rfl (lv_at hl 0 rfl) ?_
  refine lv_iload_n hx hb dL_many_3 rfl (lv_at hl 1 rfl) ?_
  refine kVI (As := [.int x1]) (rest := [.int (0 : Int32), .ref a_out]) (ws' := (wdXO cI cJ a_t a_row a_row_signs a_work a_work_signs a_rest a_rest_signs a_bag a_bag_often a_smooth a_smooth_madeFor a_smooth_weight a_smooth_inCell a_smooth_all a_smooth_starting a_text a_text_codes a_saves a_saves_slots a_out (X.1, X.2.1, X.2.2.1, X.2.2.2.1, X.2.2.2.2.1, X.2.2.2.2.2.1, X.2.2.2.2.2.2.1, o.2.1, o.2.2, X.2.2.2.2.2.2.2.2.2.1, X.2.2.2.2.2.2.2.2.2.2.1, X.2.2.2.2.2.2.2.2.2.2.2.1, X.2.2.2.2.2.2.2.2.2.2.2.2.1, X.2.2.2.2.2.2.2.2.2.2.2.2.2.1, X.2.2.2.2.2.2.2.2.2.2.2.2.2.2.1, X.2.2.2.2.2.2.2.2.2.2.2.2.2.2.2.1, X.2.2.2.2.2.2.2.2.2.2.2.2.2.2.2.2.1, X.2.2.2.2.2.2.2.2.2.2.2.2.2.2.2.2.2) O)) ⟨hx, hb, hml, hown, hts⟩ (c_X5_many l D cI a_t a_row a_work a_rest a_bag a_smooth a_text a_saves a_bag_often a_row_signs H.size X.1 X.2.2.2.2.2.2.2.1 X.2.2.2.2.2.2.2.2.1 X.2.1 X.2.2.1 x1 o ho) (cwV 1 hts mw_L_60 rfl rfl rfl hd_X5_many ⟨Nat.le_of_ble_eq_true rfl, Nat.le_of_ble_eq_true rfl⟩) hS hA hG (hK.sub [0] rfl) hP hD [0, 7, 8, 1, 2] rfl rfl rfl rfl rfl ⟨Nat.zero_le _, Nat.zero_le _⟩ 5 0 rfl rfl rfl rfl hl.1 rfl (Nat.le_of_ble_eq_true rfl) dL_many_4 (fun H locs hP hD hS => ?_)
  refine lv_i2l hx hb dL_many_7 rfl ?_
  refine va_last hx hb hK hP hD hS 19 1 rfl rfl (vinb (by decide)) dL_many_8 (fun H locs hP hD hS => ?_)
  have hP : va_P D vwCl (wdXO cI cJ a_t a_row a_row_signs a_work a_work_signs a_rest a_rest_signs a_bag a_bag_often a_smooth a_smooth_madeFor a_smooth_weight a_smooth_inCell a_smooth_all a_smooth_starting a_text a_text_codes a_saves a_saves_slots a_out (X.1, X.2.1, X.2.2.1, X.2.2.2.1, X.2.2.2.2.1, X.2.2.2.2.2.1, X.2.2.2.2.2.2.1, o.2.1, o.2.2, X.2.2.2.2.2.2.2.2.2.1, X.2.2.2.2.2.2.2.2.2.2.1, X.2.2.2.2.2.2.2.2.2.2.2.1, X.2.2.2.2.2.2.2.2.2.2.2.2.1, X.2.2.2.2.2.2.2.2.2.2.2.2.2.1, X.2.2.2.2.2.2.2.2.2.2.2.2.2.2.1, X.2.2.2.2.2.2.2.2.2.2.2.2.2.2.2.1, X.2.2.2.2.2.2.2.2.2.2.2.2.2.2.2.2.1, X.2.2.2.2.2.2.2.2.2.2.2.2.2.2.2.2.2) (vp_updL O (0 : Int32).toNatClampNeg (o.1).toInt64)) H := hP
  refine lv_goto (tgt := 15) hx hb dL_many_9 (by decide) ?_
  refine lv_iconst (v := 0) hx hb dL_many_15 (by decide) ?_
  exact hret H locs ls 16 (0 : Int32) _ hP hS rfl rfl dL_many_16
def rm_L_many_T : Room := { frames := 9, cells := 1, slots := 6, locals := 151 }
set_option maxHeartbeats 4000000 in
set_option maxRecDepth 100000 in
theorem cL_many_T1 (l : Launch) (hl0 : l.stackTraces = false) (D : va_G) (cI cJ : ClassId) (a_t a_row a_row_signs a_work a_work_signs a_rest a_rest_signs a_bag a_bag_often a_smooth a_smooth_madeFor a_smooth_weight a_smooth_inCell a_smooth_all a_smooth_starting a_text a_text_codes a_saves a_saves_slots a_out : Nat) (sz : Nat) (X : XS) (O : Nat → Int64) (x1 : Int32) (X' : XS) (hF : G_X5_many_T X x1 = some (1, X')) : Met l yL_many (Cond.codeWith yL_many cL_many 4 (some .int) [(0, 9, 12, 13)] :: WL) rm_L_many_T (preM D [(cI, .int), (cJ, .long)] (wdXO cI cJ a_t a_row a_row_signs a_work a_work_signs a_rest a_rest_signs a_bag a_bag_often a_smooth a_smooth_madeFor a_smooth_weight a_smooth_inCell a_smooth_all a_smooth_starting a_text a_text_codes a_saves a_saves_slots a_out X O) sz [.ref a_t, .int x1, .ref a_out]) (postI D 1 (wdXO cI cJ a_t a_row a_row_signs a_work a_work_signs a_rest a_rest_signs a_bag a_bag_often a_smooth a_smooth_madeFor a_smooth_weight a_smooth_inCell a_smooth_all a_smooth_starting a_text a_text_codes a_saves a_saves_slots a_out X' O) (wdXO cI cJ a_t a_row a_row_signs a_work a_work_signs a_rest a_rest_signs a_bag a_bag_often a_smooth a_smooth_madeFor a_smooth_weight a_smooth_inCell a_smooth_all a_smooth_starting a_text a_text_codes a_saves a_saves_slots a_out X O) sz) 1 6 (va_A (wdXO cI cJ a_t a_row a_row_signs a_work a_work_signs a_rest a_rest_signs a_bag a_bag_often a_smooth a_smooth_madeFor a_smooth_weight a_smooth_inCell a_smooth_all a_smooth_starting a_text a_text_codes a_saves a_saves_slots a_out X O) sz) := by
  unfold G_X5_many_T at hF
  obtain ⟨o, ho, he⟩ := Option.map_eq_some_iff.mp hF
  obtain ⟨hk9, rfl⟩ := Prod.mk.inj he
  refine mofWI (by decide +kernel) (Nat.le_of_ble_eq_true rfl) ?_
  intro p e s m args below meth c Q A ls hx hb hml hown hts hK hP hD hS hA hG hl htab hret hsz0
  have hl : lv_has ls 4 [(0, .ref a_t), (1, .int x1), (2, .ref a_out)] := hl
  have hP : va_P D vwCl (wdXO cI cJ a_t a_row a_row_signs a_work a_work_signs a_rest a_rest_signs a_bag a_bag_often a_smooth a_smooth_madeFor a_smooth_weight a_smooth_inCell a_smooth_all a_smooth_starting a_text a_text_codes a_saves a_saves_slots a_out X O) s.heap := hP
  obtain ⟨H, hH⟩ : ∃ H, H = s.heap := ⟨_, rfl⟩
  rw [← hH]
  rw [← hH] at hP
  obtain ⟨locs, hlo⟩ : ∃ z : List Loc, z = [] := ⟨_, rfl⟩
  rw [← hlo]
  have hS : va_S A s.heap H locs := by rw [hH, hlo]; exact hS
  refine lv_aload_n hx hb dL_many_0 rfl (lv_at hl 2 rfl) ?_
  refine lv_iconst (v := 0) hx hb dL_many_1 (by decide) ?_
  refine lv_aload_n hx hb dL_many_2 rfl (lv_at hl 0 rfl) ?_
  refine lv_iload_n hx hb dL_many_3 rfl (lv_at hl 1 rfl) ?_
  refine kVT (As := [.int x1]) (rest := [.int (0 : Int32), .ref a_out]) (ws' := (wdXO cI cJ a_t a_row a_row_signs a_work a_work_signs a_rest a_rest_signs a_bag a_bag_often a_smooth a_smooth_madeFor a_smooth_weight a_smooth_inCell a_smooth_all a_smooth_starting a_text a_text_codes a_saves a_saves_slots a_out (X.1, X.2.1, X.2.2.1, X.2.2.2.1, X.2.2.2.2.1, X.2.2.2.2.2.1, X.2.2.2.2.2.2.1, o.2.1, o.2.2, X.2.2.2.2.2.2.2.2.2.1, X.2.2.2.2.2.2.2.2.2.2.1, X.2.2.2.2.2.2.2.2.2.2.2.1, X.2.2.2.2.2.2.2.2.2.2.2.2.1, X.2.2.2.2.2.2.2.2.2.2.2.2.2.1, X.2.2.2.2.2.2.2.2.2.2.2.2.2.2.1, X.2.2.2.2.2.2.2.2.2.2.2.2.2.2.2.1, X.2.2.2.2.2.2.2.2.2.2.2.2.2.2.2.2.1, X.2.2.2.2.2.2.2.2.2.2.2.2.2.2.2.2.2) O)) ⟨hx, hb, hml, hown, hts⟩ (c_X5_many_T l D cI hl0 a_t a_row a_work a_rest a_bag a_smooth a_text a_saves a_bag_often a_row_signs H.size X.1 X.2.2.2.2.2.2.2.1 X.2.2.2.2.2.2.2.2.1 X.2.1 X.2.2.1 x1 o ho) (cwV 1 hts mw_L_60 rfl rfl rfl hd_X5_many ⟨Nat.le_of_ble_eq_true rfl, Nat.le_of_ble_eq_true rfl⟩) hS hA hG (hK.sub [0] rfl) hP hD [0, 7, 8, 1, 2] rfl rfl rfl rfl rfl ⟨Nat.le_of_ble_eq_true rfl, Nat.le_of_ble_eq_true rfl⟩ 5 0 rfl rfl rfl rfl hl.1 rfl (Nat.le_of_ble_eq_true rfl) dL_many_4 (fun H locs q9 ce hP hD hS hce hcv hcl => ?_)
  rw [show kX o.1 = "java/lang/IllegalArgumentException" by rw [hk9]; rfl] at hcl
  refine vx_catch (name := "java/lang/IllegalArgumentException") hown [] ⟨0, 9, 12, 13⟩ [] (by rw [htab]; rfl) (fun z hz => by cases hz) (by decide) (by decide) (hts _ k3_95) (va_Nw.use rfl (hG.2.2.2.2.1 _ (by decide))) hce hcv hcl ?_
  refine lv_astore_n (lv' := [(3, .ref q9), (0, .ref a_t), (1, .int x1), (2, .ref a_out)]) hx hb dL_many_12 rfl hl (by decide) rfl (fun ls hl => ?_)
  refine lv_iconst (v := 1) hx hb dL_many_13 (by decide) ?_
  exact hret H locs ls 14 (1 : Int32) _ hP hS rfl rfl dL_many_14
theorem mw_L_63 : GoodIn WL (wsV RL 63 RX5 yX5_block (Cond.code yX5_block cX5_block 3 (some .int) :: WL)) := gV_of k4_15 k3_30 k3_31 k1_1 k3_32
def rm_L_block : Room := { frames := 6, cells := 0, slots := 0, locals := 135 }
set_option maxHeartbeats 4000000 in
set_option maxRecDepth 100000 in
theorem cL_block_N (l : Launch) (D : va_G) (cI cJ : ClassId) (a_t a_row a_row_signs a_work a_work_signs a_rest a_rest_signs a_bag a_bag_often a_smooth a_smooth_madeFor a_smooth_weight a_smooth_inCell a_smooth_all a_smooth_starting a_text a_text_codes a_saves a_saves_slots a_out : Nat) (sz : Nat) (X : XS) (O : Nat → Int64) (x1 : Int32) (x2 : Int32) (r : Int32) (X' : XS) (hF : G_X5_block X x1 x2 = some (r, X')) : Met l yL_block (Cond.codeWith yL_block cL_block 5 (some .int) [(0, 10, 13, 13)] :: WL) rm_L_block (preM D [(cI, .int), (cJ, .long)] (wdXO cI cJ a_t a_row a_row_signs a_work a_work_signs a_rest a_rest_signs a_bag a_bag_often a_smooth a_smooth_madeFor a_smooth_weight a_smooth_inCell a_smooth_all a_smooth_starting a_text a_text_codes a_saves a_saves_slots a_out X O) sz [.ref a_t, .int x1, .int x2, .ref a_out]) (postI D 0 (wdXO cI cJ a_t a_row a_row_signs a_work a_work_signs a_rest a_rest_signs a_bag a_bag_often a_smooth a_smooth_madeFor a_smooth_weight a_smooth_inCell a_smooth_all a_smooth_starting a_text a_text_codes a_saves a_saves_slots a_out X' (vp_updL O (0 : Int32).toNatClampNeg (r).toInt64)) (wdXO cI cJ a_t a_row a_row_signs a_work a_work_signs a_rest a_rest_signs a_bag a_bag_often a_smooth a_smooth_madeFor a_smooth_weight a_smooth_inCell a_smooth_all a_smooth_starting a_text a_text_codes a_saves a_saves_slots a_out X O) sz) 0 0 (va_A (wdXO cI cJ a_t a_row a_row_signs a_work a_work_signs a_rest a_rest_signs a_bag a_bag_often a_smooth a_smooth_madeFor a_smooth_weight a_smooth_inCell a_smooth_all a_smooth_starting a_text a_text_codes a_saves a_saves_slots a_out X O) sz) := by
  unfold G_X5_block at hF
  obtain ⟨o, ho, he⟩ := Option.map_eq_some_iff.mp hF
  obtain ⟨rfl, rfl⟩ := Prod.mk.inj he
  refine mofWI (by decide +kernel) (Nat.le_of_ble_eq_true rfl) ?_
  intro p e s m args below meth c Q A ls hx hb hml hown hts hK hP hD hS hA hG hl htab hret hsz0
  have hl : lv_has ls 5 [(0, .ref a_t), (1, .int x1), (2, .int x2), (3, .ref a_out)] := hl
  have hP : va_P D vwCl (wdXO cI cJ a_t a_row a_row_signs a_work a_work_signs a_rest a_rest_signs a_bag a_bag_often a_smooth a_smooth_madeFor a_smooth_weight a_smooth_inCell a_smooth_all a_smooth_starting a_text a_text_codes a_saves a_saves_slots a_out X O) s.heap := hP
  obtain ⟨H, hH⟩ : ∃ H, H = s.heap := ⟨_, rfl⟩
  rw [← hH]
  rw [← hH] at hP
  obtain ⟨locs, hlo⟩ : ∃ z : List Loc, z = [] := ⟨_, rfl⟩
  rw [← hlo]
  have hS : va_S A s.heap H locs := by rw [hH, hlo]; exact hS
  refine lv_aload_n hx hb dL_block_0 rfl (lv_at hl 3 rfl) ?_
  refine lv_iconst (v := 0) hx hb dL_block_1 (by decide) ?_
  refine lv_aload_n hx hb dL_block_2 rfl (lv_at hl 0 rfl) ?_
  refine lv_iload_n hx hb dL_block_3 rfl (lv_at hl 1 rfl) ?_
  refine lv_iload_n hx hb dL_block_4 rfl (lv_at hl 2 rfl) ?_
  refine kVI (As := [.int x1, .int x2]) (rest := [.int (0 : Int32), .ref a_out]) (ws' := (wdXO cI cJ a_t a_row a_row_signs a_work a_work_signs a_rest a_rest_signs a_bag a_bag_often a_smooth a_smooth_madeFor a_smooth_weight a_smooth_inCell a_smooth_all a_smooth_starting a_text a_text_codes a_saves a_saves_slots a_out (X.1, X.2.1, X.2.2.1, X.2.2.2.1, X.2.2.2.2.1, X.2.2.2.2.2.1, X.2.2.2.2.2.2.1, o.2.1, o.2.2.1, o.2.2.2.2.2.1, o.2.2.2.2.2.2.2, o.2.2.2.2.1, o.2.2.2.1, o.2.2.2.2.2.2.1, X.2.2.2.2.2.2.2.2.2.2.2.2.2.2.1, X.2.2.2.2.2.2.2.2.2.2.2.2.2.2.2.1, X.2.2.2.2.2.2.2.2.2.2.2.2.2.2.2.2.1, X.2.2.2.2.2.2.2.2.2.2.2.2.2.2.2.2.2) O)) ⟨hx, hb, hml, hown, hts⟩ (c_X5_block l D cI a_t a_row a_work a_rest a_bag a_smooth a_text a_saves a_bag_often a_row_signs a_smooth_madeFor a_smooth_weight a_smooth_inCell a_smooth_all a_smooth_starting H.size X.1 X.2.2.2.2.2.2.2.1 X.2.2.2.2.2.2.2.2.1 X.2.1 X.2.2.1 X.2.2.2.2.2.2.2.2.2.2.2.2.1 X.2.2.2.2.2.2.2.2.2.2.2.1 X.2.2.2.2.2.2.2.2.2.1 X.2.2.2.2.2.2.2.2.2.2.2.2.2.1 X.2.2.2.2.2.2.2.2.2.2.1 x1 x2 o ho) (cwV 2 hts mw_L_63 rfl rfl rfl hd_X5_block ⟨Nat.le_of_ble_eq_true rfl, Nat.le_of_ble_eq_true rfl⟩) hS hA hG (hK.sub [0] rfl) hP hD [0, 7, 8, 1, 2, 9, 13, 12, 10, 14, 11] rfl rfl rfl rfl rfl ⟨Nat.zero_le _, Nat.zero_le _⟩ 5 0 rfl rfl rfl rfl hl.1 rfl (Nat.le_of_ble_eq_true rfl) dL_block_5 (fun H locs hP hD hS => ?_)
  refine lv_i2l hx hb dL_block_8 rfl ?_
  refine va_last hx hb hK hP hD hS 19 1 rfl rfl (vinb (by decide)) dL_block_9 (fun H locs hP hD hS => ?_)
  have hP : va_P D vwCl (wdXO cI cJ a_t a_row a_row_signs a_work a_work_signs a_rest a_rest_signs a_bag a_bag_often a_smooth a_smooth_madeFor a_smooth_weight a_smooth_inCell a_smooth_all a_smooth_starting a_text a_text_codes a_saves a_saves_slots a_out (X.1, X.2.1, X.2.2.1, X.2.2.2.1, X.2.2.2.2.1, X.2.2.2.2.2.1, X.2.2.2.2.2.2.1, o.2.1, o.2.2.1, o.2.2.2.2.2.1, o.2.2.2.2.2.2.2, o.2.2.2.2.1, o.2.2.2.1, o.2.2.2.2.2.2.1, X.2.2.2.2.2.2.2.2.2.2.2.2.2.2.1, X.2.2.2.2.2.2.2.2.2.2.2.2.2.2.2.1, X.2.2.2.2.2.2.2.2.2.2.2.2.2.2.2.2.1, X.2.2.2.2.2.2.2.2.2.2.2.2.2.2.2.2.2) (vp_updL O (0 : Int32).toNatClampNeg (o.1).toInt64)) H := hP
  refine lv_goto (tgt := 17) hx hb dL_block_10 (by decide) ?_
  refine lv_iconst (v := 0) hx hb dL_block_17 (by decide) ?_
  exact hret H locs ls 18 (0 : Int32) _ hP hS rfl rfl dL_block_18
def rm_L_block_T : Room := { frames := 8, cells := 1, slots := 6, locals := 135 }
set_option maxHeartbeats 4000000 in
set_option maxRecDepth 100000 in
theorem cL_block_T1 (l : Launch) (hl0 : l.stackTraces = false) (D : va_G) (cI cJ : ClassId) (a_t a_row a_row_signs a_work a_work_signs a_rest a_rest_signs a_bag a_bag_often a_smooth a_smooth_madeFor a_smooth_weight a_smooth_inCell a_smooth_all a_smooth_starting a_text a_text_codes a_saves a_saves_slots a_out : Nat) (sz : Nat) (X : XS) (O : Nat → Int64) (x1 : Int32) (x2 : Int32) (X' : XS) (hF : G_X5_block_T X x1 x2 = some (1, X')) : Met l yL_block (Cond.codeWith yL_block cL_block 5 (some .int) [(0, 10, 13, 13)] :: WL) rm_L_block_T (preM D [(cI, .int), (cJ, .long)] (wdXO cI cJ a_t a_row a_row_signs a_work a_work_signs a_rest a_rest_signs a_bag a_bag_often a_smooth a_smooth_madeFor a_smooth_weight a_smooth_inCell a_smooth_all a_smooth_starting a_text a_text_codes a_saves a_saves_slots a_out X O) sz [.ref a_t, .int x1, .int x2, .ref a_out]) (postI D 1 (wdXO cI cJ a_t a_row a_row_signs a_work a_work_signs a_rest a_rest_signs a_bag a_bag_often a_smooth a_smooth_madeFor a_smooth_weight a_smooth_inCell a_smooth_all a_smooth_starting a_text a_text_codes a_saves a_saves_slots a_out X' O) (wdXO cI cJ a_t a_row a_row_signs a_work a_work_signs a_rest a_rest_signs a_bag a_bag_often a_smooth a_smooth_madeFor a_smooth_weight a_smooth_inCell a_smooth_all a_smooth_starting a_text a_text_codes a_saves a_saves_slots a_out X O) sz) 1 6 (va_A (wdXO cI cJ a_t a_row a_row_signs a_work a_work_signs a_rest a_rest_signs a_bag a_bag_often a_smooth a_smooth_madeFor a_smooth_weight a_smooth_inCell a_smooth_all a_smooth_starting a_text a_text_codes a_saves a_saves_slots a_out X O) sz) := by
  unfold G_X5_block_T at hF
  obtain ⟨o, ho, he⟩ := Option.map_eq_some_iff.mp hF
  obtain ⟨hk9, rfl⟩ := Prod.mk.inj he
  refine mofWI (by decide +kernel) (Nat.le_of_ble_eq_true rfl) ?_
  intro p e s m args below meth c Q A ls hx hb hml hown hts hK hP hD hS hA hG hl htab hret hsz0
  have hl : lv_has ls 5 [(0, .ref a_t), (1, .int x1), (2, .int x2), (3, .ref a_out)] := hl
  have hP : va_P D vwCl (wdXO cI cJ a_t a_row a_row_signs a_work a_work_signs a_rest a_rest_signs a_bag a_bag_often a_smooth a_smooth_madeFor a_smooth_weight a_smooth_inCell a_smooth_all a_smooth_starting a_text a_text_codes a_saves a_saves_slots a_out X O) s.heap := hP
  obtain ⟨H, hH⟩ : ∃ H, H = s.heap := ⟨_, rfl⟩
  rw [← hH]
  rw [← hH] at hP
  obtain ⟨locs, hlo⟩ : ∃ z : List Loc, z = [] := ⟨_, rfl⟩
  rw [← hlo]
  have hS : va_S A s.heap H locs := by rw [hH, hlo]; exact hS
  refine lv_aload_n hx hb dL_block_0 rfl (lv_at hl 3 rfl) ?_
  refine lv_iconst (v := 0) hx hb dL_block_1 (by decide) ?_
  refine lv_aload_n hx hb dL_block_2 rfl (lv_at hl 0 rfl) ?_
  refine lv_iload_n hx hb dL_block_3 rfl (lv_at hl 1 rfl) ?_
  refine lv_iload_n hx hb dL_block_4 rfl (lv_at hl 2 rfl) ?_
  refine kVT (As := [.int x1, .int x2]) (rest := [.int (0 : Int32), .ref a_out]) (ws' := (wdXO cI cJ a_t a_row a_row_signs a_work a_work_signs a_rest a_rest_signs a_bag a_bag_often a_smooth a_smooth_madeFor a_smooth_weight a_smooth_inCell a_smooth_all a_smooth_starting a_text a_text_codes a_saves a_saves_slots a_out (X.1, X.2.1, X.2.2.1, X.2.2.2.1, X.2.2.2.2.1, X.2.2.2.2.2.1, X.2.2.2.2.2.2.1, o.2.1, o.2.2.1, o.2.2.2.2.2.1, o.2.2.2.2.2.2.2, o.2.2.2.2.1, o.2.2.2.1, o.2.2.2.2.2.2.1, X.2.2.2.2.2.2.2.2.2.2.2.2.2.2.1, X.2.2.2.2.2.2.2.2.2.2.2.2.2.2.2.1, X.2.2.2.2.2.2.2.2.2.2.2.2.2.2.2.2.1, X.2.2.2.2.2.2.2.2.2.2.2.2.2.2.2.2.2) O)) ⟨hx, hb, hml, hown, hts⟩ (c_X5_block_T l D cI hl0 a_t a_row a_work a_rest a_bag a_smooth a_text a_saves a_bag_often a_row_signs a_smooth_madeFor a_smooth_weight a_smooth_inCell a_smooth_all a_smooth_starting H.size X.1 X.2.2.2.2.2.2.2.1 X.2.2.2.2.2.2.2.2.1 X.2.1 X.2.2.1 X.2.2.2.2.2.2.2.2.2.2.2.2.1 X.2.2.2.2.2.2.2.2.2.2.2.1 X.2.2.2.2.2.2.2.2.2.1 X.2.2.2.2.2.2.2.2.2.2.2.2.2.1 X.2.2.2.2.2.2.2.2.2.2.1 x1 x2 o ho) (cwV 2 hts mw_L_63 rfl rfl rfl hd_X5_block ⟨Nat.le_of_ble_eq_true rfl, Nat.le_of_ble_eq_true rfl⟩) hS hA hG (hK.sub [0] rfl) hP hD [0, 7, 8, 1, 2, 9, 13, 12, 10, 14, 11] rfl rfl rfl rfl rfl ⟨Nat.le_of_ble_eq_true rfl, Nat.le_of_ble_eq_true rfl⟩ 5 0 rfl rfl rfl rfl hl.1 rfl (Nat.le_of_ble_eq_true rfl) dL_block_5 (fun H locs q9 ce hP hD hS hce hcv hcl => ?_)
  rw [show kX o.1 = "java/lang/IllegalArgumentException" by rw [hk9]; rfl] at hcl
  refine vx_catch (name := "java/lang/IllegalArgumentException") hown [] ⟨0, 10, 13, 13⟩ [] (by rw [htab]; rfl) (fun z hz => by cases hz) (by decide) (by decide) (hts _ k3_95) (va_Nw.use rfl (hG.2.2.2.2.1 _ (by decide))) hce hcv hcl ?_
  refine lv_astore (lv' := [(4, .ref q9), (0, .ref a_t), (1, .int x1), (2, .int x2), (3, .ref a_out)]) hx hb dL_block_13 hl (by decide) rfl (fun ls hl => ?_)
  refine lv_iconst (v := 1) hx hb dL_block_15 (by decide) ?_
  exact hret H locs ls 16 (1 : Int32) _ hP hS rfl rfl dL_block_16
theorem mw_L_66 : GoodIn WL (wsV RL 66 RX5 yX5_count (Cond.code yX5_count cX5_count 2 (some .int) :: WL)) := gV_of k4_19 k2_52 k2_53 k1_1 k2_54
def rm_L_count : Room := { frames := 7, cells := 0, slots := 0, locals := 154 }
set_option maxHeartbeats 4000000 in
set_option maxRecDepth 100000 in
theorem cL_count_N (l : Launch) (D : va_G) (cI cJ : ClassId) (a_t a_row a_row_signs a_work a_work_signs a_rest a_rest_signs a_bag a_bag_often a_smooth a_smooth_madeFor a_smooth_weight a_smooth_inCell a_smooth_all a_smooth_starting a_text a_text_codes a_saves a_saves_slots a_out : Nat) (sz : Nat) (X : XS) (O : Nat → Int64) (x1 : Int32) (r : Int32) (X' : XS) (hF : G_X5_count X x1 = some (r, X')) : Met l yL_count (Cond.codeWith yL_count cL_count 4 (some .int) [(0, 9, 12, 13)] :: WL) rm_L_count (preM D [(cI, .int), (cJ, .long)] (wdXO cI cJ a_t a_row a_row_signs a_work a_work_signs a_rest a_rest_signs a_bag a_bag_often a_smooth a_smooth_madeFor a_smooth_weight a_smooth_inCell a_smooth_all a_smooth_starting a_text a_text_codes a_saves a_saves_slots a_out X O) sz [.ref a_t, .int x1, .ref a_out]) (postI D 0 (wdXO cI cJ a_t a_row a_row_signs a_work a_work_signs a_rest a_rest_signs a_bag a_bag_often a_smooth a_smooth_madeFor a_smooth_weight a_smooth_inCell a_smooth_all a_smooth_starting a_text a_text_codes a_saves a_saves_slots a_out X' (vp_updL O (0 : Int32).toNatClampNeg (r).toInt64)) (wdXO cI cJ a_t a_row a_row_signs a_work a_work_signs a_rest a_rest_signs a_bag a_bag_often a_smooth a_smooth_madeFor a_smooth_weight a_smooth_inCell a_smooth_all a_smooth_starting a_text a_text_codes a_saves a_saves_slots a_out X O) sz) 0 0 (va_A (wdXO cI cJ a_t a_row a_row_signs a_work a_work_signs a_rest a_rest_signs a_bag a_bag_often a_smooth a_smooth_madeFor a_smooth_weight a_smooth_inCell a_smooth_all a_smooth_starting a_text a_text_codes a_saves a_saves_slots a_out X O) sz) := by
  unfold G_X5_count at hF
  obtain ⟨o, ho, he⟩ := Option.map_eq_some_iff.mp hF
  obtain ⟨rfl, rfl⟩ := Prod.mk.inj he
  refine mofWI (by decide +kernel) (Nat.le_of_ble_eq_true rfl) ?_
  intro p e s m args below meth c Q A ls hx hb hml hown hts hK hP hD hS hA hG hl htab hret hsz0
  have hl : lv_has ls 4 [(0, .ref a_t), (1, .int x1), (2, .ref a_out)] := hl
  have hP : va_P D vwCl (wdXO cI cJ a_t a_row a_row_signs a_work a_work_signs a_rest a_rest_signs a_bag a_bag_often a_smooth a_smooth_madeFor a_smooth_weight a_smooth_inCell a_smooth_all a_smooth_starting a_text a_text_codes a_saves a_saves_slots a_out X O) s.heap := hP
  obtain ⟨H, hH⟩ : ∃ H, H = s.heap := ⟨_, rfl⟩
  rw [← hH]
  rw [← hH] at hP
  obtain ⟨locs, hlo⟩ : ∃ z : List Loc, z = [] := ⟨_, rfl⟩
  rw [← hlo]
  have hS : va_S A s.heap H locs := by rw [hH, hlo]; exact hS
  refine lv_aload_n hx hb dL_count_0 rfl (lv_at hl 2 rfl) ?_
  refine lv_iconst (v := 0) hx hb dL_count_1 (by decide) ?_
  refine lv_aload_n hx hb dL_count_2 rfl (lv_at hl 0 rfl) ?_
  refine lv_iload_n hx hb dL_count_3 rfl (lv_at hl 1 rfl) ?_
  refine kVI (As := [.int x1]) (rest := [.int (0 : Int32), .ref a_out]) (ws' := (wdXO cI cJ a_t a_row a_row_signs a_work a_work_signs a_rest a_rest_signs a_bag a_bag_often a_smooth a_smooth_madeFor a_smooth_weight a_smooth_inCell a_smooth_all a_smooth_starting a_text a_text_codes a_saves a_saves_slots a_out (X.1, X.2.1, X.2.2.1, o.2.2.2.2.2.2.2.2.1, o.2.2.2.2.2.2.2.2.2, X.2.2.2.2.2.1, X.2.2.2.2.2.2.1, o.2.1, o.2.2.1, o.2.2.2.2.2.1, o.2.2.2.2.2.2.2.1, o.2.2.2.2.1, o.2.2.2.1, o.2.2.2.2.2.2.1, X.2.2.2.2.2.2.2.2.2.2.2.2.2.2.1, X.2.2.2.2.2.2.2.2.2.2.2.2.2.2.2.1, X.2.2.2.2.2.2.2.2.2.2.2.2.2.2.2.2.1, X.2.2.2.2.2.2.2.2.2.2.2.2.2.2.2.2.2) O)) ⟨hx, hb, hml, hown, hts⟩ (c_X5_count l D cI a_t a_row a_work a_rest a_bag a_smooth a_text a_saves a_bag_often a_row_signs a_saves_slots a_smooth_madeFor a_smooth_weight a_smooth_inCell a_smooth_all a_smooth_starting a_work_signs H.size X.1 X.2.2.2.2.2.2.2.1 X.2.2.2.2.2.2.2.2.1 X.2.1 X.2.2.1 X.2.2.2.2.2.2.2.2.2.2.2.2.2.2.2.2.1 X.2.2.2.2.2.2.2.2.2.2.2.2.1 X.2.2.2.2.2.2.2.2.2.2.2.1 X.2.2.2.2.2.2.2.2.2.1 X.2.2.2.2.2.2.2.2.2.2.2.2.2.1 X.2.2.2.2.2.2.2.2.2.2.1 X.2.2.2.1 X.2.2.2.2.1 x1 o ho) (cwV 1 hts mw_L_66 rfl rfl rfl hd_X5_count ⟨Nat.le_of_ble_eq_true rfl, Nat.le_of_ble_eq_true rfl⟩) hS hA hG (hK.sub [0] rfl) hP hD [0, 7, 8, 1, 2, 17, 9, 13, 12, 10, 14, 11, 3, 4] rfl rfl rfl rfl rfl ⟨Nat.zero_le _, Nat.zero_le _⟩ 5 0 rfl rfl rfl rfl hl.1 rfl (Nat.le_of_ble_eq_true rfl) dL_count_4 (fun H locs hP hD hS => ?_)
  refine lv_i2l hx hb dL_count_7 rfl ?_
  refine va_last hx hb hK hP hD hS 19 1 rfl rfl (vinb (by decide)) dL_count_8 (fun H locs hP hD hS => ?_)
  have hP : va_P D vwCl (wdXO cI cJ a_t a_row a_row_signs a_work a_work_signs a_rest a_rest_signs a_bag a_bag_often a_smooth a_smooth_madeFor a_smooth_weight a_smooth_inCell a_smooth_all a_smooth_starting a_text a_text_codes a_saves a_saves_slots a_out (X.1, X.2.1, X.2.2.1, o.2.2.2.2.2.2.2.2.1, o.2.2.2.2.2.2.2.2.2, X.2.2.2.2.2.1, X.2.2.2.2.2.2.1, o.2.1, o.2.2.1, o.2.2.2.2.2.1, o.2.2.2.2.2.2.2.1, o.2.2.2.2.1, o.2.2.2.1, o.2.2.2.2.2.2.1, X.2.2.2.2.2.2.2.2.2.2.2.2.2.2.1, X.2.2.2.2.2.2.2.2.2.2.2.2.2.2.2.1, X.2.2.2.2.2.2.2.2.2.2.2.2.2.2.2.2.1, X.2.2.2.2.2.2.2.2.2.2.2.2.2.2.2.2.2) (vp_updL O (0 : Int32).toNatClampNeg (o.1).toInt64)) H := hP
  refine lv_goto (tgt := 15) hx hb dL_count_9 (by decide) ?_
  refine lv_iconst (v := 0) hx hb dL_count_15 (by decide) ?_
  exact hret H locs ls 16 (0 : Int32) _ hP hS rfl rfl dL_count_16
def rm_L_count_T : Room := { frames := 8, cells := 1, slots := 6, locals := 154 }
set_option maxHeartbeats 4000000 in
set_option maxRecDepth 100000 in
theorem cL_count_T1 (l : Launch) (hl0 : l.stackTraces = false) (D : va_G) (cI cJ : ClassId) (a_t a_row a_row_signs a_work a_work_signs a_rest a_rest_signs a_bag a_bag_often a_smooth a_smooth_madeFor a_smooth_weight a_smooth_inCell a_smooth_all a_smooth_starting a_text a_text_codes a_saves a_saves_slots a_out : Nat) (sz : Nat) (X : XS) (O : Nat → Int64) (x1 : Int32) (X' : XS) (hF : G_X5_count_T X x1 = some (1, X')) : Met l yL_count (Cond.codeWith yL_count cL_count 4 (some .int) [(0, 9, 12, 13)] :: WL) rm_L_count_T (preM D [(cI, .int), (cJ, .long)] (wdXO cI cJ a_t a_row a_row_signs a_work a_work_signs a_rest a_rest_signs a_bag a_bag_often a_smooth a_smooth_madeFor a_smooth_weight a_smooth_inCell a_smooth_all a_smooth_starting a_text a_text_codes a_saves a_saves_slots a_out X O) sz [.ref a_t, .int x1, .ref a_out]) (postI D 1 (wdXO cI cJ a_t a_row a_row_signs a_work a_work_signs a_rest a_rest_signs a_bag a_bag_often a_smooth a_smooth_madeFor a_smooth_weight a_smooth_inCell a_smooth_all a_smooth_starting a_text a_text_codes a_saves a_saves_slots a_out X' O) (wdXO cI cJ a_t a_row a_row_signs a_work a_work_signs a_rest a_rest_signs a_bag a_bag_often a_smooth a_smooth_madeFor a_smooth_weight a_smooth_inCell a_smooth_all a_smooth_starting a_text a_text_codes a_saves a_saves_slots a_out X O) sz) 1 6 (va_A (wdXO cI cJ a_t a_row a_row_signs a_work a_work_signs a_rest a_rest_signs a_bag a_bag_often a_smooth a_smooth_madeFor a_smooth_weight a_smooth_inCell a_smooth_all a_smooth_starting a_text a_text_codes a_saves a_saves_slots a_out X O) sz) := by
  unfold G_X5_count_T at hF
  obtain ⟨o, ho, he⟩ := Option.map_eq_some_iff.mp hF
  obtain ⟨hk9, rfl⟩ := Prod.mk.inj he
  refine mofWI (by decide +kernel) (Nat.le_of_ble_eq_true rfl) ?_
  intro p e s m args below meth c Q A ls hx hb hml hown hts hK hP hD hS hA hG hl htab hret hsz0
  have hl : lv_has ls 4 [(0, .ref a_t), (1, .int x1), (2, .ref a_out)] := hl
  have hP : va_P D vwCl (wdXO cI cJ a_t a_row a_row_signs a_work a_work_signs a_rest a_rest_signs a_bag a_bag_often a_smooth a_smooth_madeFor a_smooth_weight a_smooth_inCell a_smooth_all a_smooth_starting a_text a_text_codes a_saves a_saves_slots a_out X O) s.heap := hP
  obtain ⟨H, hH⟩ : ∃ H, H = s.heap := ⟨_, rfl⟩
  rw [← hH]
  rw [← hH] at hP
  obtain ⟨locs, hlo⟩ : ∃ z : List Loc, z = [] := ⟨_, rfl⟩
  rw [← hlo]
  have hS : va_S A s.heap H locs := by rw [hH, hlo]; exact hS
  refine lv_aload_n hx hb dL_count_0 rfl (lv_at hl 2 rfl) ?_
  refine lv_iconst (v := 0) hx hb dL_count_1 (by decide) ?_
  refine lv_aload_n hx hb dL_count_2 rfl (lv_at hl 0 rfl) ?_
  refine lv_iload_n hx hb dL_count_3 rfl (lv_at hl 1 rfl) ?_
  refine kVT (As := [.int x1]) (rest := [.int (0 : Int32), .ref a_out]) (ws' := (wdXO cI cJ a_t a_row a_row_signs a_work a_work_signs a_rest a_rest_signs a_bag a_bag_often a_smooth a_smooth_madeFor a_smooth_weight a_smooth_inCell a_smooth_all a_smooth_starting a_text a_text_codes a_saves a_saves_slots a_out (X.1, X.2.1, X.2.2.1, o.2.2.2.2.2.2.2.2.1, o.2.2.2.2.2.2.2.2.2, X.2.2.2.2.2.1, X.2.2.2.2.2.2.1, o.2.1, o.2.2.1, o.2.2.2.2.2.1, o.2.2.2.2.2.2.2.1, o.2.2.2.2.1, o.2.2.2.1, o.2.2.2.2.2.2.1, X.2.2.2.2.2.2.2.2.2.2.2.2.2.2.1, X.2.2.2.2.2.2.2.2.2.2.2.2.2.2.2.1, X.2.2.2.2.2.2.2.2.2.2.2.2.2.2.2.2.1, X.2.2.2.2.2.2.2.2.2.2.2.2.2.2.2.2.2) O)) ⟨hx, hb, hml, hown, hts⟩ (c_X5_count_T l D cI hl0 a_t a_row a_work a_rest a_bag a_smooth a_text a_saves a_bag_often a_row_signs a_saves_slots a_smooth_madeFor a_smooth_weight a_smooth_inCell a_smooth_all a_smooth_starting a_work_signs H.size X.1 X.2.2.2.2.2.2.2.1 X.2.2.2.2.2.2.2.2.1 X.2.1 X.2.2.1 X.2.2.2.2.2.2.2.2.2.2.2.2.2.2.2.2.1 X.2.2.2.2.2.2.2.2.2.2.2.2.1 X.2.2.2.2.2.2.2.2.2.2.2.1 X.2.2.2.2.2.2.2.2.2.1 X.2.2.2.2.2.2.2.2.2.2.2.2.2.1 X.2.2.2.2.2.2.2.2.2.2.1 X.2.2.2.1 X.2.2.2.2.1 x1 o ho) (cwV 1 hts mw_L_66 rfl rfl rfl hd_X5_count ⟨Nat.le_of_ble_eq_true rfl, Nat.le_of_ble_eq_true rfl⟩) hS hA hG (hK.sub [0] rfl) hP hD [0, 7, 8, 1, 2, 17, 9, 13, 12, 10, 14, 11, 3, 4] rfl rfl rfl rfl rfl ⟨Nat.le_of_ble_eq_true rfl, Nat.le_of_ble_eq_true rfl⟩ 5 0 rfl rfl rfl rfl hl.1 rfl (Nat.le_of_ble_eq_true rfl) dL_count_4 (fun H locs q9 ce hP hD hS hce hcv hcl => ?_)
  rw [show kX o.1 = "java/lang/IllegalArgumentException" by rw [hk9]; rfl] at hcl
  refine vx_catch (name := "java/lang/IllegalArgumentException") hown [] ⟨0, 9, 12, 13⟩ [] (by rw [htab]; rfl) (fun z hz => by cases hz) (by decide) (by decide) (hts _ k3_95) (va_Nw.use rfl (hG.2.2.2.2.1 _ (by decide))) hce hcv hcl ?_
  refine lv_astore_n (lv' := [(3, .ref q9), (0, .ref a_t), (1, .int x1), (2, .ref a_out)]) hx hb dL_count_12 rfl hl (by decide) rfl (fun ls hl => ?_)
  refine lv_iconst (v := 1) hx hb dL_count_13 (by decide) ?_
  exact hret H locs ls 14 (1 : Int32) _ hP hS rfl rfl dL_count_14
theorem mw_L_69 : GoodIn WL (wsV RL 69 RX5 yX5_ifSwapped (Cond.code yX5_ifSwapped cX5_ifSwapped 3 (some .int) :: WL)) := gV_of k4_23 k3_34 k3_35 k1_1 k3_36
def rm_L_ifSwapped : Room := { frames := 6, cells := 0, slots := 0, locals := 135 }
set_option maxHeartbeats 4000000 in
set_option maxRecDepth 100000 in
theorem cL_ifSwapped_N (l : Launch) (D : va_G) (cI cJ : ClassId) (a_t a_row a_row_signs a_work a_work_signs a_rest a_rest_signs a_bag a_bag_often a_smooth a_smooth_madeFor a_smooth_weight a_smooth_inCell a_smooth_all a_smooth_starting a_text a_text_codes a_saves a_saves_slots a_out : Nat) (sz : Nat) (X : XS) (O : Nat → Int64) (x1 : Int32) (x2 : Int32) (r : Int32) (X' : XS) (hF : G_X5_ifSwapped X x1 x2 = some (r, X')) : Met l yL_ifSwapped (Cond.codeWith yL_ifSwapped cL_ifSwapped 5 (some .int) [(0, 10, 13, 31)] :: WL) rm_L_ifSwapped (preM D [(cI, .int), (cJ, .long)] (wdXO cI cJ a_t a_row a_row_signs a_work a_work_signs a_rest a_rest_signs a_bag a_bag_often a_smooth a_smooth_madeFor a_smooth_weight a_smooth_inCell a_smooth_all a_smooth_starting a_text a_text_codes a_saves a_saves_slots a_out X O) sz [.ref a_t, .int x1, .int x2, .ref a_out]) (postI D 0 (wdXO cI cJ a_t a_row a_row_signs a_work a_work_signs a_rest a_rest_signs a_bag a_bag_often a_smooth a_smooth_madeFor a_smooth_weight a_smooth_inCell a_smooth_all a_smooth_starting a_text a_text_codes a_saves a_saves_slots a_out X' (vp_updL O (0 : Int32).toNatClampNeg (r).toInt64)) (wdXO cI cJ a_t a_row a_row_signs a_work a_work_signs a_rest a_rest_signs a_bag a_bag_often a_smooth a_smooth_madeFor a_smooth_weight a_smooth_inCell a_smooth_all a_smooth_starting a_text a_text_codes a_saves a_saves_slots a_out X O) sz) 0 0 (va_A (wdXO cI cJ a_t a_row a_row_signs a_work a_work_signs a_rest a_rest_signs a_bag a_bag_often a_smooth a_smooth_madeFor a_smooth_weight a_smooth_inCell a_smooth_all a_smooth_starting a_text a_text_codes a_saves a_saves_slots a_out X O) sz) := by
  unfold G_X5_ifSwapped at hF
  obtain ⟨o, ho, he⟩ := Option.map_eq_some_iff.mp hF
  obtain ⟨rfl, rfl⟩ := Prod.mk.inj he
  refine mofWI (by decide +kernel) (Nat.le_of_ble_eq_true rfl) ?_
  intro p e s m args below meth c Q A ls hx hb hml hown hts hK hP hD hS hA hG hl htab hret hsz0
  have hl : lv_has ls 5 [(0, .ref a_t), (1, .int x1), (2, .int x2), (3, .ref a_out)] := hl
  have hP : va_P D vwCl (wdXO cI cJ a_t a_row a_row_signs a_work a_work_signs a_rest a_rest_signs a_bag a_bag_often a_smooth a_smooth_madeFor a_smooth_weight a_smooth_inCell a_smooth_all a_smooth_starting a_text a_text_codes a_saves a_saves_slots a_out X O) s.heap := hP
  obtain ⟨H, hH⟩ : ∃ H, H = s.heap := ⟨_, rfl⟩
  rw [← hH]
  rw [← hH] at hP
  obtain ⟨locs, hlo⟩ : ∃ z : List Loc, z = [] := ⟨_, rfl⟩
  rw [← hlo]
  have hS : va_S A s.heap H locs := by rw [hH, hlo]; exact hS
  refine lv_aload_n hx hb dL_ifSwapped_0 rfl (lv_at hl 3 rfl) ?_
  refine lv_iconst (v := 0) hx hb dL_ifSwapped_1 (by decide) ?_
  refine lv_aload_n hx hb dL_ifSwapped_2 rfl (lv_at hl 0 rfl) ?_
  refine lv_iload_n hx hb dL_ifSwapped_3 rfl (lv_at hl 1 rfl) ?_
  refine lv_iload_n hx hb dL_ifSwapped_4 rfl (lv_at hl 2 rfl) ?_
  refine kVI (As := [.int x1, .int x2]) (rest := [.int (0 : Int32), .ref a_out]) (ws' := (wdXO cI cJ a_t a_row a_row_signs a_work a_work_signs a_rest a_rest_signs a_bag a_bag_often a_smooth a_smooth_madeFor a_smooth_weight a_smooth_inCell a_smooth_all a_smooth_starting a_text a_text_codes a_saves a_saves_slots a_out (X.1, X.2.1, X.2.2.1, o.2.2.2.1, o.2.2.2.2, X.2.2.2.2.2.1, X.2.2.2.2.2.2.1, o.2.1, o.2.2.1, X.2.2.2.2.2.2.2.2.2.1, X.2.2.2.2.2.2.2.2.2.2.1, X.2.2.2.2.2.2.2.2.2.2.2.1, X.2.2.2.2.2.2.2.2.2.2.2.2.1, X.2.2.2.2.2.2.2.2.2.2.2.2.2.1, X.2.2.2.2.2.2.2.2.2.2.2.2.2.2.1, X.2.2.2.2.2.2.2.2.2.2.2.2.2.2.2.1, X.2.2.2.2.2.2.2.2.2.2.2.2.2.2.2.2.1, X.2.2.2.2.2.2.2.2.2.2.2.2.2.2.2.2.2) O)) ⟨hx, hb, hml, hown, hts⟩ (c_X5_ifSwapped l D cI a_t a_row a_work a_rest a_bag a_smooth a_text a_saves a_bag_often a_row_signs a_work_signs H.size X.1 X.2.2.2.2.2.2.2.1 X.2.2.2.2.2.2.2.2.1 X.2.1 X.2.2.1 X.2.2.2.1 X.2.2.2.2.1 x1 x2 o ho) (cwV 2 hts mw_L_69 rfl rfl rfl hd_X5_ifSwapped ⟨Nat.le_of_ble_eq_true rfl, Nat.le_of_ble_eq_true rfl⟩) hS hA hG (hK.sub [0] rfl) hP hD [0, 7, 8, 1, 2, 3, 4] rfl rfl rfl rfl rfl ⟨Nat.zero_le _, Nat.zero_le _⟩ 5 0 rfl rfl rfl rfl hl.1 rfl (Nat.le_of_ble_eq_true rfl) dL_ifSwapped_5 (fun H locs hP hD hS => ?_)
  refine lv_i2l hx hb dL_ifSwapped_8 rfl ?_
  refine va_last hx hb hK hP hD hS 19 1 rfl rfl (vinb (by decide)) dL_ifSwapped_9 (fun H locs hP hD hS => ?_)
  have hP : va_P D vwCl (wdXO cI cJ a_t a_row a_row_signs a_work a_work_signs a_rest a_rest_signs a_bag a_bag_often a_smooth a_smooth_madeFor a_smooth_weight a_smooth_inCell a_smooth_all a_smooth_starting a_text a_text_codes a_saves a_saves_slots a_out (X.1, X.2.1, X.2.2.1, o.2.2.2.1, o.2.2.2.2, X.2.2.2.2.2.1, X.2.2.2.2.2.2.1, o.2.1, o.2.2.1, X.2.2.2.2.2.2.2.2.2.1, X.2.2.2.2.2.2.2.2.2.2.1, X.2.2.2.2.2.2.2.2.2.2.2.1, X.2.2.2.2.2.2.2.2.2.2.2.2.1, X.2.2.2.2.2.2.2.2.2.2.2.2.2.1, X.2.2.2.2.2.2.2.2.2.2.2.2.2.2.1, X.2.2.2.2.2.2.2.2.2.2.2.2.2.2.2.1, X.2.2.2.2.2.2.2.2.2.2.2.2.2.2.2.2.1, X.2.2.2.2.2.2.2.2.2.2.2.2.2.2.2.2.2) (vp_updL O (0 : Int32).toNatClampNeg (o.1).toInt64)) H := hP
  refine lv_goto (tgt := 17) hx hb dL_ifSwapped_10 (by decide) ?_
  refine lv_iconst (v := 0) hx hb dL_ifSwapped_17 (by decide) ?_
  exact hret H locs ls 18 (0 : Int32) _ hP hS rfl rfl dL_ifSwapped_18
def rm_L_ifSwapped_T : Room := { frames := 8, cells := 1, slots := 6, locals := 135 }
set_option maxHeartbeats 4000000 in
set_option maxRecDepth 100000 in
theorem cL_ifSwapped_T3 (l : Launch) (hl0 : l.stackTraces = false) (D : va_G) (cI cJ : ClassId) (a_t a_row a_row_signs a_work a_work_signs a_rest a_rest_signs a_bag a_bag_often a_smooth a_smooth_madeFor a_smooth_weight a_smooth_inCell a_smooth_all a_smooth_starting a_text a_text_codes a_saves a_saves_slots a_out : Nat) (sz : Nat) (X : XS) (O : Nat → Int64) (x1 : Int32) (x2 : Int32) (X' : XS) (hF : G_X5_ifSwapped_T X x1 x2 = some (3, X')) : Met l yL_ifSwapped (Cond.codeWith yL_ifSwapped cL_ifSwapped 5 (some .int) [(0, 10, 13, 31)] :: WL) rm_L_ifSwapped_T (preM D [(cI, .int), (cJ, .long)] (wdXO cI cJ a_t a_row a_row_signs a_work a_work_signs a_rest a_rest_signs a_bag a_bag_often a_smooth a_smooth_madeFor a_smooth_weight a_smooth_inCell a_smooth_all a_smooth_starting a_text a_text_codes a_saves a_saves_slots a_out X O) sz [.ref a_t, .int x1, .int x2, .ref a_out]) (postI D 1 (wdXO cI cJ a_t a_row a_row_signs a_work a_work_signs a_rest a_rest_signs a_bag a_bag_often a_smooth a_smooth_madeFor a_smooth_weight a_smooth_inCell a_smooth_all a_smooth_starting a_text a_text_codes a_saves a_saves_slots a_out X' O) (wdXO cI cJ a_t a_row a_row_signs a_work a_work_signs a_rest a_rest_signs a_bag a_bag_often a_smooth a_smooth_madeFor a_smooth_weight a_smooth_inCell a_smooth_all a_smooth_starting a_text a_text_codes a_saves a_saves_slots a_out X O) sz) 1 6 (va_A (wdXO cI cJ a_t a_row a_row_signs a_work a_work_signs a_rest a_rest_signs a_bag a_bag_often a_smooth a_smooth_madeFor a_smooth_weight a_smooth_inCell a_smooth_all a_smooth_starting a_text a_text_codes a_saves a_saves_slots a_out X O) sz) := by
  unfold G_X5_ifSwapped_T at hF
  obtain ⟨o, ho, he⟩ := Option.map_eq_some_iff.mp hF
  obtain ⟨hk9, rfl⟩ := Prod.mk.inj he
  refine mofWI (by decide +kernel) (Nat.le_of_ble_eq_true rfl) ?_
  intro p e s m args below meth c Q A ls hx hb hml hown hts hK hP hD hS hA hG hl htab hret hsz0
  have hl : lv_has ls 5 [(0, .ref a_t), (1, .int x1), (2, .int x2), (3, .ref a_out)] := hl
  have hP : va_P D vwCl (wdXO cI cJ a_t a_row a_row_signs a_work a_work_signs a_rest a_rest_signs a_bag a_bag_often a_smooth a_smooth_madeFor a_smooth_weight a_smooth_inCell a_smooth_all a_smooth_starting a_text a_text_codes a_saves a_saves_slots a_out X O) s.heap := hP
  obtain ⟨H, hH⟩ : ∃ H, H = s.heap := ⟨_, rfl⟩
  rw [← hH]
  rw [← hH] at hP
  obtain ⟨locs, hlo⟩ : ∃ z : List Loc, z = [] := ⟨_, rfl⟩
  rw [← hlo]
  have hS : va_S A s.heap H locs := by rw [hH, hlo]; exact hS
  refine lv_aload_n hx hb dL_ifSwapped_0 rfl (lv_at hl 3 rfl) ?_
  refine lv_iconst (v := 0) hx hb dL_ifSwapped_1 (by decide) ?_
  refine lv_aload_n hx hb dL_ifSwapped_2 rfl (lv_at hl 0 rfl) ?_
  refine lv_iload_n hx hb dL_ifSwapped_3 rfl (lv_at hl 1 rfl) ?_
  refine lv_iload_n hx hb dL_ifSwapped_4 rfl (lv_at hl 2 rfl) ?_
  refine kVT (As := [.int x1, .int x2]) (rest := [.int (0 : Int32), .ref a_out]) (ws' := (wdXO cI cJ a_t a_row a_row_signs a_work a_work_signs a_rest a_rest_signs a_bag a_bag_often a_smooth a_smooth_madeFor a_smooth_weight a_smooth_inCell a_smooth_all a_smooth_starting a_text a_text_codes a_saves a_saves_slots a_out (X.1, X.2.1, X.2.2.1, o.2.2.2.1, o.2.2.2.2, X.2.2.2.2.2.1, X.2.2.2.2.2.2.1, o.2.1, o.2.2.1, X.2.2.2.2.2.2.2.2.2.1, X.2.2.2.2.2.2.2.2.2.2.1, X.2.2.2.2.2.2.2.2.2.2.2.1, X.2.2.2.2.2.2.2.2.2.2.2.2.1, X.2.2.2.2.2.2.2.2.2.2.2.2.2.1, X.2.2.2.2.2.2.2.2.2.2.2.2.2.2.1, X.2.2.2.2.2.2.2.2.2.2.2.2.2.2.2.1, X.2.2.2.2.2.2.2.2.2.2.2.2.2.2.2.2.1, X.2.2.2.2.2.2.2.2.2.2.2.2.2.2.2.2.2) O)) ⟨hx, hb, hml, hown, hts⟩ (c_X5_ifSwapped_T l D cI hl0 a_t a_row a_work a_rest a_bag a_smooth a_text a_saves a_bag_often a_row_signs a_work_signs H.size X.1 X.2.2.2.2.2.2.2.1 X.2.2.2.2.2.2.2.2.1 X.2.1 X.2.2.1 X.2.2.2.1 X.2.2.2.2.1 x1 x2 o ho) (cwV 2 hts mw_L_69 rfl rfl rfl hd_X5_ifSwapped ⟨Nat.le_of_ble_eq_true rfl, Nat.le_of_ble_eq_true rfl⟩) hS hA hG (hK.sub [0] rfl) hP hD [0, 7, 8, 1, 2, 3, 4] rfl rfl rfl rfl rfl ⟨Nat.le_of_ble_eq_true rfl, Nat.le_of_ble_eq_true rfl⟩ 5 0 rfl rfl rfl rfl hl.1 rfl (Nat.le_of_ble_eq_true rfl) dL_ifSwapped_5 (fun H locs q9 ce hP hD hS hce hcv hcl => ?_)
  rw [show kX o.1 = "java/lang/IndexOutOfBoundsException" by rw [hk9]; rfl] at hcl
  refine vx_catch (name := "java/lang/IndexOutOfBoundsException") hown [] ⟨0, 10, 13, 31⟩ [] (by rw [htab]; rfl) (fun z hz => by cases hz) (by decide) (by decide) (hts _ k3_147) (va_Nw.use rfl (hG.2.2.2.2.1 _ (by decide))) hce hcv hcl ?_
  refine lv_astore (lv' := [(4, .ref q9), (0, .ref a_t), (1, .int x1), (2, .int x2), (3, .ref a_out)]) hx hb dL_ifSwapped_13 hl (by decide) rfl (fun ls hl => ?_)
  refine lv_iconst (v := 1) hx hb dL_ifSwapped_15 (by decide) ?_
  exact hret H locs ls 16 (1 : Int32) _ hP hS rfl rfl dL_ifSwapped_16
theorem mw_L_72 : GoodIn WL (wsV RL 72 RX5 yX5_signOf (Cond.code yX5_signOf cX5_signOf 3 (some .int) :: WL)) := gV_of k4_27 k3_62 k3_63 k1_1 k3_64
def rm_L_signOf : Room := { frames := 6, cells := 0, slots := 0, locals := 128 }
set_option maxHeartbeats 4000000 in
set_option maxRecDepth 100000 in
theorem cL_signOf_N (l : Launch) (D : va_G) (cI cJ : ClassId) (a_t a_row a_row_signs a_work a_work_signs a_rest a_rest_signs a_bag a_bag_often a_smooth a_smooth_madeFor a_smooth_weight a_smooth_inCell a_smooth_all a_smooth_starting a_text a_text_codes a_saves a_saves_slots a_out : Nat) (sz : Nat) (X : XS) (O : Nat → Int64) (x1 : Int32) (x2 : Int32) (r : Int32) (X' : XS) (hF : G_X5_signOf X x1 x2 = some (r, X')) : Met l yL_signOf (Cond.codeWith yL_signOf cL_signOf 5 (some .int) [(0, 10, 13, 31), (0, 10, 17, 13)] :: WL) rm_L_signOf (preM D [(cI, .int), (cJ, .long)] (wdXO cI cJ a_t a_row a_row_signs a_work a_work_signs a_rest a_rest_signs a_bag a_bag_often a_smooth a_smooth_madeFor a_smooth_weight a_smooth_inCell a_smooth_all a_smooth_starting a_text a_text_codes a_saves a_saves_slots a_out X O) sz [.ref a_t, .int x1, .int x2, .ref a_out]) (postI D 0 (wdXO cI cJ a_t a_row a_row_signs a_work a_work_signs a_rest a_rest_signs a_bag a_bag_often a_smooth a_smooth_madeFor a_smooth_weight a_smooth_inCell a_smooth_all a_smooth_starting a_text a_text_codes a_saves a_saves_slots a_out X' (vp_updL O (0 : Int32).toNatClampNeg (r).toInt64)) (wdXO cI cJ a_t a_row a_row_signs a_work a_work_signs a_rest a_rest_signs a_bag a_bag_often a_smooth a_smooth_madeFor a_smooth_weight a_smooth_inCell a_smooth_all a_smooth_starting a_text a_text_codes a_saves a_saves_slots a_out X O) sz) 0 0 (va_A (wdXO cI cJ a_t a_row a_row_signs a_work a_work_signs a_rest a_rest_signs a_bag a_bag_often a_smooth a_smooth_madeFor a_smooth_weight a_smooth_inCell a_smooth_all a_smooth_starting a_text a_text_codes a_saves a_saves_slots a_out X O) sz) := by
  unfold G_X5_signOf at hF
  obtain ⟨o, ho, he⟩ := Option.map_eq_some_iff.mp hF
  obtain ⟨rfl, rfl⟩ := Prod.mk.inj he
  refine mofWI (by decide +kernel) (Nat.le_of_ble_eq_true rfl) ?_
  intro p e s m args below meth c Q A ls hx hb hml hown hts hK hP hD hS hA hG hl htab hret hsz0
  have hl : lv_has ls 5 [(0, .ref a_t), (1, .int x1), (2, .int x2), (3, .ref a_out)] := hl
  have hP : va_P D vwCl (wdXO cI cJ a_t a_row a_row_signs a_work a_work_signs a_rest a_rest_signs a_bag a_bag_often a_smooth a_smooth_madeFor a_smooth_weight a_smooth_inCell a_smooth_all a_smooth_starting a_text a_text_codes a_saves a_saves_slots a_out X O) s.heap := hP
  obtain ⟨H, hH⟩ : ∃ H, H = s.heap := ⟨_, rfl⟩
  rw [← hH]
  rw [← hH] at hP
  obtain ⟨locs, hlo⟩ : ∃ z : List Loc, z = [] := ⟨_, rfl⟩
  rw [← hlo]
  have hS : va_S A s.heap H locs := by rw [hH, hlo]; exact hS
  refine lv_aload_n hx hb dL_signOf_0 rfl (lv_at hl 3 rfl) ?_
  refine lv_iconst (v := 0) hx hb dL_signOf_1 (by decide) ?_
  refine lv_aload_n hx hb dL_signOf_2 rfl (lv_at hl 0 rfl) ?_
  refine lv_iload_n hx hb dL_signOf_3 rfl (lv_at hl 1 rfl) ?_
  refine lv_iload_n hx hb dL_signOf_4 rfl (lv_at hl 2 rfl) ?_
  refine kVI (As := [.int x1, .int x2]) (rest := [.int (0 : Int32), .ref a_out]) (ws' := (wdXO cI cJ a_t a_row a_row_signs a_work a_work_signs a_rest a_rest_signs a_bag a_bag_often a_smooth a_smooth_madeFor a_smooth_weight a_smooth_inCell a_smooth_all a_smooth_starting a_text a_text_codes a_saves a_saves_slots a_out (X.1, X.2.1, X.2.2.1, o.2.2.2.1, o.2.2.2.2, X.2.2.2.2.2.1, X.2.2.2.2.2.2.1, o.2.1, o.2.2.1, X.2.2.2.2.2.2.2.2.2.1, X.2.2.2.2.2.2.2.2.2.2.1, X.2.2.2.2.2.2.2.2.2.2.2.1, X.2.2.2.2.2.2.2.2.2.2.2.2.1, X.2.2.2.2.2.2.2.2.2.2.2.2.2.1, X.2.2.2.2.2.2.2.2.2.2.2.2.2.2.1, X.2.2.2.2.2.2.2.2.2.2.2.2.2.2.2.1, X.2.2.2.2.2.2.2.2.2.2.2.2.2.2.2.2.1, X.2.2.2.2.2.2.2.2.2.2.2.2.2.2.2.2.2) O)) ⟨hx, hb, hml, hown, hts⟩ (c_X5_signOf l D cI a_t a_row a_work a_rest a_bag a_smooth a_text a_saves a_bag_often a_row_signs a_work_signs H.size X.1 X.2.2.2.2.2.2.2.1 X.2.2.2.2.2.2.2.2.1 X.2.1 X.2.2.1 X.2.2.2.1 X.2.2.2.2.1 x1 x2 o ho) (cwV 2 hts mw_L_72 rfl rfl rfl hd_X5_signOf ⟨Nat.le_of_ble_eq_true rfl, Nat.le_of_ble_eq_true rfl⟩) hS hA hG (hK.sub [0] rfl) hP hD [0, 7, 8, 1, 2, 3, 4] rfl rfl rfl rfl rfl ⟨Nat.zero_le _, Nat.zero_le _⟩ 5 0 rfl rfl rfl rfl hl.1 rfl (Nat.le_of_ble_eq_true rfl) dL_signOf_5 (fun H locs hP hD hS => ?_)
  refine lv_i2l hx hb dL_signOf_8 rfl ?_
  refine va_last hx hb hK hP hD hS 19 1 rfl rfl (vinb (by decide)) dL_signOf_9 (fun H locs hP hD hS => ?_)
  have hP : va_P D vwCl (wdXO cI cJ a_t a_row a_row_signs a_work a_work_signs a_rest a_rest_signs a_bag a_bag_often a_smooth a_smooth_madeFor a_smooth_weight a_smooth_inCell a_smooth_all a_smooth_starting a_text a_text_codes a_saves a_saves_slots a_out (X.1, X.2.1, X.2.2.1, o.2.2.2.1, o.2.2.2.2, X.2.2.2.2.2.1, X.2.2.2.2.2.2.1, o.2.1, o.2.2.1, X.2.2.2.2.2.2.2.2.2.1, X.2.2.2.2.2.2.2.2.2.2.1, X.2.2.2.2.2.2.2.2.2.2.2.1, X.2.2.2.2.2.2.2.2.2.2.2.2.1, X.2.2.2.2.2.2.2.2.2.2.2.2.2.1, X.2.2.2.2.2.2.2.2.2.2.2.2.2.2.1, X.2.2.2.2.2.2.2.2.2.2.2.2.2.2.2.1, X.2.2.2.2.2.2.2.2.2.2.2.2.2.2.2.2.1, X.2.2.2.2.2.2.2.2.2.2.2.2.2.2.2.2.2) (vp_updL O (0 : Int32).toNatClampNeg (o.1).toInt64)) H := hP
  refine lv_goto (tgt := 21) hx hb dL_signOf_10 (by decide) ?_
  refine lv_iconst (v := 0) hx hb dL_signOf_21 (by decide) ?_
  exact hret H locs ls 22 (0 : Int32) _ hP hS rfl rfl dL_signOf_22
def rm_L_signOf_T : Room := { frames := 9, cells := 1, slots := 6, locals := 153 }
set_option maxHeartbeats 4000000 in
set_option maxRecDepth 100000 in
theorem cL_signOf_T3 (l : Launch) (hl0 : l.stackTraces = false) (D : va_G) (cI cJ : ClassId) (a_t a_row a_row_signs a_work a_work_signs a_rest a_rest_signs a_bag a_bag_often a_smooth a_smooth_madeFor a_smooth_weight a_smooth_inCell a_smooth_all a_smooth_starting a_text a_text_codes a_saves a_saves_slots a_out : Nat) (sz : Nat) (X : XS) (O : Nat → Int64) (x1 : Int32) (x2 : Int32) (X' : XS) (hF : G_X5_signOf_T X x1 x2 = some (3, X')) : Met l yL_signOf (Cond.codeWith yL_signOf cL_signOf 5 (some .int) [(0, 10, 13, 31), (0, 10, 17, 13)] :: WL) rm_L_signOf_T (preM D [(cI, .int), (cJ, .long)] (wdXO cI cJ a_t a_row a_row_signs a_work a_work_signs a_rest a_rest_signs a_bag a_bag_often a_smooth a_smooth_madeFor a_smooth_weight a_smooth_inCell a_smooth_all a_smooth_starting a_text a_text_codes a_saves a_saves_slots a_out X O) sz [.ref a_t, .int x1, .int x2, .ref a_out]) (postI D 1 (wdXO cI cJ a_t a_row a_row_signs a_work a_work_signs a_rest a_rest_signs a_bag a_bag_often a_smooth a_smooth_madeFor a_smooth_weight a_smooth_inCell a_smooth_all a_smooth_starting a_text a_text_codes a_saves a_saves_slots a_out X' O) (wdXO cI cJ a_t a_row a_row_signs a_work a_work_signs a_rest a_rest_signs a_bag a_bag_often a_smooth a_smooth_madeFor a_smooth_weight a_smooth_inCell a_smooth_all a_smooth_starting a_text a_text_codes a_saves a_saves_slots a_out X O) sz) 1 6 (va_A (wdXO cI cJ a_t a_row a_row_signs a_work a_work_signs a_rest a_rest_signs a_bag a_bag_often a_smooth a_smooth_madeFor a_smooth_weight a_smooth_inCell a_smooth_all a_smooth_starting a_text a_text_codes a_saves a_saves_slots a_out X O) sz) := by
  unfold G_X5_signOf_T at hF
  obtain ⟨o, ho, he⟩ := Option.map_eq_some_iff.mp hF
  obtain ⟨hk9, rfl⟩ := Prod.mk.inj he
  refine mofWI (by decide +kernel) (Nat.le_of_ble_eq_true rfl) ?_
  intro p e s m args below meth c Q A ls hx hb hml hown hts hK hP hD hS hA hG hl htab hret hsz0
  have hl : lv_has ls 5 [(0, .ref a_t), (1, .int x1), (2, .int x2), (3, .ref a_out)] := hl
  have hP : va_P D vwCl (wdXO cI cJ a_t a_row a_row_signs a_work a_work_signs a_rest a_rest_signs a_bag a_bag_often a_smooth a_smooth_madeFor a_smooth_weight a_smooth_inCell a_smooth_all a_smooth_starting a_text a_text_codes a_saves a_saves_slots a_out X O) s.heap := hP
  obtain ⟨H, hH⟩ : ∃ H, H = s.heap := ⟨_, rfl⟩
  rw [← hH]
  rw [← hH] at hP
  obtain ⟨locs, hlo⟩ : ∃ z : List Loc, z = [] := ⟨_, rfl⟩
  rw [← hlo]
  have hS : va_S A s.heap H locs := by rw [hH, hlo]; exact hS
  refine lv_aload_n hx hb dL_signOf_0 rfl (lv_at hl 3 rfl) ?_
  refine lv_iconst (v := 0) hx hb dL_signOf_1 (by decide) ?_
  refine lv_aload_n hx hb dL_signOf_2 rfl (lv_at hl 0 rfl) ?_
  refine lv_iload_n hx hb dL_signOf_3 rfl (lv_at hl 1 rfl) ?_
  refine lv_iload_n hx hb dL_signOf_4 rfl (lv_at hl 2 rfl) ?_
  refine kVT (As := [.int x1, .int x2]) (rest := [.int (0 : Int32), .ref a_out]) (ws' := (wdXO cI cJ a_t a_row a_row_signs a_work a_work_signs a_rest a_rest_signs a_bag a_bag_often a_smooth a_smooth_madeFor a_smooth_weight a_smooth_inCell a_smooth_all a_smooth_starting a_text a_text_codes a_saves a_saves_slots a_out (X.1, X.2.1, X.2.2.1, o.2.2.2.1, o.2.2.2.2, X.2.2.2.2.2.1, X.2.2.2.2.2.2.1, o.2.1, o.2.2.1, X.2.2.2.2.2.2.2.2.2.1, X.2.2.2.2.2.2.2.2.2.2.1, X.2.2.2.2.2.2.2.2.2.2.2.1, X.2.2.2.2.2.2.2.2.2.2.2.2.1, X.2.2.2.2.2.2.2.2.2.2.2.2.2.1, X.2.2.2.2.2.2.2.2.2.2.2.2.2.2.1, X.2.2.2.2.2.2.2.2.2.2.2.2.2.2.2.1, X.2.2.2.2.2.2.2.2.2.2.2.2.2.2.2.2.1, X.2.2.2.2.2.2.2.2.2.2.2.2.2.2.2.2.2) O)) ⟨hx, hb, hml, hown, hts⟩ (c_X5_signOf_T l D cI hl0 a_t a_row a_work a_rest a_bag a_smooth a_text a_saves a_bag_often a_row_signs a_work_signs H.size X.1 X.2.2.2.2.2.2.2.1 X.2.2.2.2.2.2.2.2.1 X.2.1 X.2.2.1 X.2.2.2.1 X.2.2.2.2.1 x1 x2 o ho) (cwV 2 hts mw_L_72 rfl rfl rfl hd_X5_signOf ⟨Nat.le_of_ble_eq_true rfl, Nat.le_of_ble_eq_true rfl⟩) hS hA hG (hK.sub [0] rfl) hP hD [0, 7, 8, 1, 2, 3, 4] rfl rfl rfl rfl rfl ⟨Nat.le_of_ble_eq_true rfl, Nat.le_of_ble_eq_true rfl⟩ 5 0 rfl rfl rfl rfl hl.1 rfl (Nat.le_of_ble_eq_true rfl) dL_signOf_5 (fun H locs q9 ce hP hD hS hce hcv hcl => ?_)
  rw [show kX o.1 = "java/lang/IndexOutOfBoundsException" by rw [hk9]; rfl] at hcl
  refine vx_catch (name := "java/lang/IndexOutOfBoundsException") hown [] ⟨0, 10, 13, 31⟩ [⟨0, 10, 17, 13⟩] (by rw [htab]; rfl) (fun z hz => by cases hz) (by decide) (by decide) (hts _ k3_147) (va_Nw.use rfl (hG.2.2.2.2.1 _ (by decide))) hce hcv hcl ?_
  refine lv_astore (lv' := [(4, .ref q9), (0, .ref a_t), (1, .int x1), (2, .int x2), (3, .ref a_out)]) hx hb dL_signOf_13 hl (by decide) rfl (fun ls hl => ?_)
  refine lv_iconst (v := 1) hx hb dL_signOf_15 (by decide) ?_
  exact hret H locs ls 16 (1 : Int32) _ hP hS rfl rfl dL_signOf_16
set_option maxHeartbeats 4000000 in
set_option maxRecDepth 100000 in
theorem cL_signOf_T1 (l : Launch) (hl0 : l.stackTraces = false) (D : va_G) (cI cJ : ClassId) (a_t a_row a_row_signs a_work a_work_signs a_rest a_rest_signs a_bag a_bag_often a_smooth a_smooth_madeFor a_smooth_weight a_smooth_inCell a_smooth_all a_smooth_starting a_text a_text_codes a_saves a_saves_slots a_out : Nat) (sz : Nat) (X : XS) (O : Nat → Int64) (x1 : Int32) (x2 : Int32) (X' : XS) (hF : G_X5_signOf_T X x1 x2 = some (1, X')) : Met l yL_signOf (Cond.codeWith yL_signOf cL_signOf 5 (some .int) [(0, 10, 13, 31), (0, 10, 17, 13)] :: WL) rm_L_signOf_T (preM D [(cI, .int), (cJ, .long)] (wdXO cI cJ a_t a_row a_row_signs a_work a_work_signs a_rest a_rest_signs a_bag a_bag_often a_smooth a_smooth_madeFor a_smooth_weight a_smooth_inCell a_smooth_all a_smooth_starting a_text a_text_codes a_saves a_saves_slots a_out X O) sz [.ref a_t, .int x1, .int x2, .ref a_out]) (postI D 2 (wdXO cI cJ a_t a_row a_row_signs a_work a_work_signs a_rest a_rest_signs a_bag a_bag_often a_smooth a_smooth_madeFor a_smooth_weight a_smooth_inCell a_smooth_all a_smooth_starting a_text a_text_codes a_saves a_saves_slots a_out X' O) (wdXO cI cJ a_t a_row a_row_signs a_work a_work_signs a_rest a_rest_signs a_bag a_bag_often a_smooth a_smooth_madeFor a_smooth_weight a_smooth_inCell a_smooth_all a_smooth_starting a_text a_text_codes a_saves a_saves_slots a_out X O) sz) 1 6 (va_A (wdXO cI cJ a_t a_row a_row_signs a_work a_work_signs a_rest a_rest_signs a_bag a_bag_often a_smooth a_smooth_madeFor a_smooth_weight a_smooth_inCell a_smooth_all a_smooth_starting a_text a_text_codes a_saves a_saves_slots a_out X O) sz) := by
  unfold G_X5_signOf_T at hF
  obtain ⟨o, ho, he⟩ := Option.map_eq_some_iff.mp hF
  obtain ⟨hk9, rfl⟩ := Prod.mk.inj he
  refine mofWI (by decide +kernel) (Nat.le_of_ble_eq_true rfl) ?_
  intro p e s m args below meth c Q A ls hx hb hml hown hts hK hP hD hS hA hG hl htab hret hsz0
  have hl : lv_has ls 5 [(0, .ref a_t), (1, .int x1), (2, .int x2), (3, .ref a_out)] := hl
  have hP : va_P D vwCl (wdXO cI cJ a_t a_row a_row_signs a_work a_work_signs a_rest a_rest_signs a_bag a_bag_often a_smooth a_smooth_madeFor a_smooth_weight a_smooth_inCell a_smooth_all a_smooth_starting a_text a_text_codes a_saves a_saves_slots a_out X O) s.heap := hP
  obtain ⟨H, hH⟩ : ∃ H, H = s.heap := ⟨_, rfl⟩
  rw [← hH]
  rw [← hH] at hP
  obtain ⟨locs, hlo⟩ : ∃ z : List Loc, z = [] := ⟨_, rfl⟩
  rw [← hlo]
  have hS : va_S A s.heap H locs := by rw [hH, hlo]; exact hS
  refine lv_aload_n hx hb dL_signOf_0 rfl (lv_at hl 3 rfl) ?_
  refine lv_iconst (v := 0) hx hb dL_signOf_1 (by decide) ?_
  refine lv_aload_n hx hb dL_signOf_2 rfl (lv_at hl 0 rfl) ?_
  refine lv_iload_n hx hb dL_signOf_3 rfl (lv_at hl 1 rfl) ?_
  refine lv_iload_n hx hb dL_signOf_4 rfl (lv_at hl 2 rfl) ?_
  refine kVT (As := [.int x1, .int x2]) (rest := [.int (0 : Int32), .ref a_out]) (ws' := (wdXO cI cJ a_t a_row a_row_signs a_work a_work_signs a_rest a_rest_signs a_bag a_bag_often a_smooth a_smooth_madeFor a_smooth_weight a_smooth_inCell a_smooth_all a_smooth_starting a_text a_text_codes a_saves a_saves_slots a_out (X.1, X.2.1, X.2.2.1, o.2.2.2.1, o.2.2.2.2, X.2.2.2.2.2.1, X.2.2.2.2.2.2.1, o.2.1, o.2.2.1, X.2.2.2.2.2.2.2.2.2.1, X.2.2.2.2.2.2.2.2.2.2.1, X.2.2.2.2.2.2.2.2.2.2.2.1, X.2.2.2.2.2.2.2.2.2.2.2.2.1, X.2.2.2.2.2.2.2.2.2.2.2.2.2.1, X.2.2.2.2.2.2.2.2.2.2.2.2.2.2.1, X.2.2.2.2.2.2.2.2.2.2.2.2.2.2.2.1, X.2.2.2.2.2.2.2.2.2.2.2.2.2.2.2.2.1, X.2.2.2.2.2.2.2.2.2.2.2.2.2.2.2.2.2) O)) ⟨hx, hb, hml, hown, hts⟩ (c_X5_signOf_T l D cI hl0 a_t a_row a_work a_rest a_bag a_smooth a_text a_saves a_bag_often a_row_signs a_work_signs H.size X.1 X.2.2.2.2.2.2.2.1 X.2.2.2.2.2.2.2.2.1 X.2.1 X.2.2.1 X.2.2.2.1 X.2.2.2.2.1 x1 x2 o ho) (cwV 2 hts mw_L_72 rfl rfl rfl hd_X5_signOf ⟨Nat.le_of_ble_eq_true rfl, Nat.le_of_ble_eq_true rfl⟩) hS hA hG (hK.sub [0] rfl) hP hD [0, 7, 8, 1, 2, 3, 4] rfl rfl rfl rfl rfl ⟨Nat.le_of_ble_eq_true rfl, Nat.le_of_ble_eq_true rfl⟩ 5 0 rfl rfl rfl rfl hl.1 rfl (Nat.le_of_ble_eq_true rfl) dL_signOf_5 (fun H locs q9 ce hP hD hS hce hcv hcl => ?_)
  rw [show kX o.1 = "java/lang/IllegalArgumentException" by rw [hk9]; rfl] at hcl
  refine vx_catch (name := "java/lang/IllegalArgumentException") hown [⟨0, 10, 13, 31⟩] ⟨0, 10, 17, 13⟩ [] (by rw [htab]; rfl) (fun z hz => by rw [List.mem_singleton.mp hz]; exact Or.inr ⟨by decide, _, hts _ k3_147, hG.2.2.2.2.2.1 ("java/lang/IllegalArgumentException", "java/lang/IndexOutOfBoundsException") (by decide)⟩) (by decide) (by decide) (hts _ k3_95) (va_Nw.use rfl (hG.2.2.2.2.1 _ (by decide))) hce hcv hcl ?_
  refine lv_astore (lv' := [(4, .ref q9), (0, .ref a_t), (1, .int x1), (2, .int x2), (3, .ref a_out)]) hx hb dL_signOf_17 hl (by decide) rfl (fun ls hl => ?_)
  refine lv_iconst (v := 2) hx hb dL_signOf_19 (by decide) ?_
  exact hret H locs ls 20 (2 : Int32) _ hP hS rfl rfl dL_signOf_20
theorem mw_L_75 : GoodIn WL (wsV RL 75 RX5 yX5_having (Cond.code yX5_having cX5_having 5 (some .int) :: WL)) := gV_of k4_31 k3_43 k3_44 k1_1 k3_45
def rm_L_having : Room := { frames := 6, cells := 0, slots := 0, locals := 142 }
set_option maxHeartbeats 4000000 in
set_option maxRecDepth 100000 in
theorem cL_having_N (l : Launch) (D : va_G) (cI cJ : ClassId) (a_t a_row a_row_signs a_work a_work_signs a_rest a_rest_signs a_bag a_bag_often a_smooth a_smooth_madeFor a_smooth_weight a_smooth_inCell a_smooth_all a_smooth_starting a_text a_text_codes a_saves a_saves_slots a_out : Nat) (sz : Nat) (X : XS) (O : Nat → Int64) (x1 : Int32) (x2 : Int32) (x3 : Int32) (x4 : Int32) (r : Int32) (X' : XS) (hF : G_X5_having X x1 x2 x3 x4 = some (r, X')) : Met l yL_having (Cond.codeWith yL_having cL_having 7 (some .int) [(0, 14, 17, 31), (0, 14, 21, 13)] :: WL) rm_L_having (preM D [(cI, .int), (cJ, .long)] (wdXO cI cJ a_t a_row a_row_signs a_work a_work_signs a_rest a_rest_signs a_bag a_bag_often a_smooth a_smooth_madeFor a_smooth_weight a_smooth_inCell a_smooth_all a_smooth_starting a_text a_text_codes a_saves a_saves_slots a_out X O) sz [.ref a_t, .int x1, .int x2, .int x3, .int x4, .ref a_out]) (postI D 0 (wdXO cI cJ a_t a_row a_row_signs a_work a_work_signs a_rest a_rest_signs a_bag a_bag_often a_smooth a_smooth_madeFor a_smooth_weight a_smooth_inCell a_smooth_all a_smooth_starting a_text a_text_codes a_saves a_saves_slots a_out X' (vp_updL O (0 : Int32).toNatClampNeg (r).toInt64)) (wdXO cI cJ a_t a_row a_row_signs a_work a_work_signs a_rest a_rest_signs a_bag a_bag_often a_smooth a_smooth_madeFor a_smooth_weight a_smooth_inCell a_smooth_all a_smooth_starting a_text a_text_codes a_saves a_saves_slots a_out X O) sz) 0 0 (va_A (wdXO cI cJ a_t a_row a_row_signs a_work a_work_signs a_rest a_rest_signs a_bag a_bag_often a_smooth a_smooth_madeFor a_smooth_weight a_smooth_inCell a_smooth_all a_smooth_starting a_text a_text_codes a_saves a_saves_slots a_out X O) sz) := by
  unfold G_X5_having at hF
  obtain ⟨o, ho, he⟩ := Option.map_eq_some_iff.mp hF
  obtain ⟨rfl, rfl⟩ := Prod.mk.inj he
  refine mofWI (by decide +kernel) (Nat.le_of_ble_eq_true rfl) ?_
  intro p e s m args below meth c Q A ls hx hb hml hown hts hK hP hD hS hA hG hl htab hret hsz0
  have hl : lv_has ls 7 [(0, .ref a_t), (1, .int x1), (2, .int x2), (3, .int x3), (4, .int x4), (5, .ref a_out)] := hl
  have hP : va_P D vwCl (wdXO cI cJ a_t a_row a_row_signs a_work a_work_signs a_rest a_rest_signs a_bag a_bag_often a_smooth a_smooth_madeFor a_smooth_weight a_smooth_inCell a_smooth_all a_smooth_starting a_text a_text_codes a_saves a_saves_slots a_out X O) s.heap := hP
  obtain ⟨H, hH⟩ : ∃ H, H = s.heap := ⟨_, rfl⟩
  rw [← hH]
  rw [← hH] at hP
  obtain ⟨locs, hlo⟩ : ∃ z : List Loc, z = [] := ⟨_, rfl⟩
  rw [← hlo]
  have hS : va_S A s.heap H locs := by rw [hH, hlo]; exact hS
  refine lv_aload hx hb dL_having_0 (lv_at hl 5 rfl) ?_
  refine lv_iconst (v := 0) hx hb dL_having_2 (by decide) ?_
  refine lv_aload_n hx hb dL_having_3 rfl (lv_at hl 0 rfl) ?_
  refine lv_iload_n hx hb dL_having_4 rfl (lv_at hl 1 rfl) ?_
  refine lv_iload_n hx hb dL_having_5 rfl (lv_at hl 2 rfl) ?_
  refine lv_iload_n hx hb dL_having_6 rfl (lv_at hl 3 rfl) ?_
  refine lv_iload hx hb dL_having_7 (lv_at hl 4 rfl) ?_
  refine kVI (As := [.int x1, .int x2, .int x3, .int x4]) (rest := [.int (0 : Int32), .ref a_out]) (ws' := (wdXO cI cJ a_t a_row a_row_signs a_work a_work_signs a_rest a_rest_signs a_bag a_bag_often a_smooth a_smooth_madeFor a_smooth_weight a_smooth_inCell a_smooth_all a_smooth_starting a_text a_text_codes a_saves a_saves_slots a_out (X.1, X.2.1, X.2.2.1, o.2.2.2.1, o.2.2.2.2, X.2.2.2.2.2.1, X.2.2.2.2.2.2.1, o.2.1, o.2.2.1, X.2.2.2.2.2.2.2.2.2.1, X.2.2.2.2.2.2.2.2.2.2.1, X.2.2.2.2.2.2.2.2.2.2.2.1, X.2.2.2.2.2.2.2.2.2.2.2.2.1, X.2.2.2.2.2.2.2.2.2.2.2.2.2.1, X.2.2.2.2.2.2.2.2.2.2.2.2.2.2.1, X.2.2.2.2.2.2.2.2.2.2.2.2.2.2.2.1, X.2.2.2.2.2.2.2.2.2.2.2.2.2.2.2.2.1, X.2.2.2.2.2.2.2.2.2.2.2.2.2.2.2.2.2) O)) ⟨hx, hb, hml, hown, hts⟩ (c_X5_having l D cI a_t a_row a_work a_rest a_bag a_smooth a_text a_saves a_bag_often a_row_signs a_work_signs H.size X.1 X.2.2.2.2.2.2.2.1 X.2.2.2.2.2.2.2.2.1 X.2.1 X.2.2.1 X.2.2.2.1 X.2.2.2.2.1 x1 x2 x3 x4 o ho) (cwV 4 hts mw_L_75 rfl rfl rfl hd_X5_having ⟨Nat.le_of_ble_eq_true rfl, Nat.le_of_ble_eq_true rfl⟩) hS hA hG (hK.sub [0] rfl) hP hD [0, 7, 8, 1, 2, 3, 4] rfl rfl rfl rfl rfl ⟨Nat.zero_le _, Nat.zero_le _⟩ 5 0 rfl rfl rfl rfl hl.1 rfl (Nat.le_of_ble_eq_true rfl) dL_having_9 (fun H locs hP hD hS => ?_)
  refine lv_i2l hx hb dL_having_12 rfl ?_
  refine va_last hx hb hK hP hD hS 19 1 rfl rfl (vinb (by decide)) dL_having_13 (fun H locs hP hD hS => ?_)
  have hP : va_P D vwCl (wdXO cI cJ a_t a_row a_row_signs a_work a_work_signs a_rest a_rest_signs a_bag a_bag_often a_smooth a_smooth_madeFor a_smooth_weight a_smooth_inCell a_smooth_all a_smooth_starting a_text a_text_codes a_saves a_saves_slots a_out (X.1, X.2.1, X.2.2.1, o.2.2.2.1, o.2.2.2.2, X.2.2.2.2.2.1, X.2.2.2.2.2.2.1, o.2.1, o.2.2.1, X.2.2.2.2.2.2.2.2.2.1, X.2.2.2.2.2.2.2.2.2.2.1, X.2.2.2.2.2.2.2.2.2.2.2.1, X.2.2.2.2.2.2.2.2.2.2.2.2.1, X.2.2.2.2.2.2.2.2.2.2.2.2.2.1, X.2.2.2.2.2.2.2.2.2.2.2.2.2.2.1, X.2.2.2.2.2.2.2.2.2.2.2.2.2.2.2.1, X.2.2.2.2.2.2.2.2.2.2.2.2.2.2.2.2.1, X.2.2.2.2.2.2.2.2.2.2.2.2.2.2.2.2.2) (vp_updL O (0 : Int32).toNatClampNeg (o.1).toInt64)) H := hP
  refine lv_goto (tgt := 25) hx hb dL_having_14 (by decide) ?_
  refine lv_iconst (v := 0) hx hb dL_having_25 (by decide) ?_
  exact hret H locs ls 26 (0 : Int32) _ hP hS rfl rfl dL_having_26
def rm_L_having_T : Room := { frames := 9, cells := 1, slots := 6, locals := 154 }
set_option maxHeartbeats 4000000 in
set_option maxRecDepth 100000 in
theorem cL_having_T3 (l : Launch) (hl0 : l.stackTraces = false) (D : va_G) (cI cJ : ClassId) (a_t a_row a_row_signs a_work a_work_signs a_rest a_rest_signs a_bag a_bag_often a_smooth a_smooth_madeFor a_smooth_weight a_smooth_inCell a_smooth_all a_smooth_starting a_text a_text_codes a_saves a_saves_slots a_out : Nat) (sz : Nat) (X : XS) (O : Nat → Int64) (x1 : Int32) (x2 : Int32) (x3 : Int32) (x4 : Int32) (X' : XS) (hF : G_X5_having_T X x1 x2 x3 x4 = some (3, X')) : Met l yL_having (Cond.codeWith yL_having cL_having 7 (some .int) [(0, 14, 17, 31), (0, 14, 21, 13)] :: WL) rm_L_having_T (preM D [(cI, .int), (cJ, .long)] (wdXO cI cJ a_t a_row a_row_signs a_work a_work_signs a_rest a_rest_signs a_bag a_bag_often a_smooth a_smooth_madeFor a_smooth_weight a_smooth_inCell a_smooth_all a_smooth_starting a_text a_text_codes a_saves a_saves_slots a_out X O) sz [.ref a_t, .int x1, .int x2, .int x3, .int x4, .ref a_out]) (postI D 1 (wdXO cI cJ a_t a_row a_row_signs a_work a_work_signs a_rest a_rest_signs a_bag a_bag_often a_smooth a_smooth_madeFor a_smooth_weight a_smooth_inCell a_smooth_all a_smooth_starting a_text a_text_codes a_saves a_saves_slots a_out X' O) (wdXO cI cJ a_t a_row a_row_signs a_work a_work_signs a_rest a_rest_signs a_bag a_bag_often a_smooth a_smooth_madeFor a_smooth_weight a_smooth_inCell a_smooth_all a_smooth_starting a_text a_text_codes a_saves a_saves_slots a_out X O) sz) 1 6 (va_A (wdXO cI cJ a_t a_row a_row_signs a_work a_work_signs a_rest a_rest_signs a_bag a_bag_often a_smooth a_smooth_madeFor a_smooth_weight a_smooth_inCell a_smooth_all a_smooth_starting a_text a_text_codes a_saves a_saves_slots a_out X O) sz) := by
  unfold G_X5_having_T at hF
  obtain ⟨o, ho, he⟩ := Option.map_eq_some_iff.mp hF
  obtain ⟨hk9, rfl⟩ := Prod.mk.inj he
  refine mofWI (by decide +kernel) (Nat.le_of_ble_eq_true rfl) ?_
  intro p e s m args below meth c Q A ls hx hb hml hown hts hK hP hD hS hA hG hl htab hret hsz0
  have hl : lv_has ls 7 [(0, .ref a_t), (1, .int x1), (2, .int x2), (3, .int x3), (4, .int x4), (5, .ref a_out)] := hl
  have hP : va_P D vwCl (wdXO cI cJ a_t a_row a_row_signs a_work a_work_signs a_rest a_rest_signs a_bag a_bag_often a_smooth a_smooth_madeFor a_smooth_weight a_smooth_inCell a_smooth_all a_smooth_starting a_text a_text_codes a_saves a_saves_slots a_out X O) s.heap := hP
  obtain ⟨H, hH⟩ : ∃ H, H = s.heap := ⟨_, rfl⟩
  rw [← hH]
  rw [← hH] at hP
  obtain ⟨locs, hlo⟩ : ∃ z : List Loc, z = [] := ⟨_, rfl⟩
  rw [← hlo]
  have hS : va_S A s.heap H locs := by rw [hH, hlo]; exact hS
  refine lv_aload hx hb dL_having_0 (lv_at hl 5 rfl) ?_
  refine lv_iconst (v := 0) hx hb dL_having_2 (by decide) ?_
  refine lv_aload_n hx hb dL_having_3 rfl (lv_at hl 0 rfl) ?_
  refine lv_iload_n hx hb dL_having_4 rfl (lv_at hl 1 rfl) ?_
  refine lv_iload_n hx hb dL_having_5 rfl (lv_at hl 2 rfl) ?_
  refine lv_iload_n hx hb dL_having_6 rfl (lv_at hl 3 rfl) ?_
  refine lv_iload hx hb dL_having_7 (lv_at hl 4 rfl) ?_
  refine kVT (As := [.int x1, .int x2, .int x3, .int x4]) (rest := [.int (0 : Int32), .ref a_out]) (ws' := (wdXO cI cJ a_t a_row a_row_signs a_work a_work_signs a_rest a_rest_signs a_bag a_bag_often a_smooth a_smooth_madeFor a_smooth_weight a_smooth_inCell a_smooth_all a_smooth_starting a_text a_text_codes a_saves a_saves_slots a_out (X.1, X.2.1, X.2.2.1, o.2.2.2.1, o.2.2.2.2, X.2.2.2.2.2.1, X.2.2.2.2.2.2.1, o.2.1, o.2.2.1, X.2.2.2.2.2.2.2.2.2.1, X.2.2.2.2.2.2.2.2.2.2.1, X.2.2.2.2.2.2.2.2.2.2.2.1, X.2.2.2.2.2.2.2.2.2.2.2.2.1, X.2.2.2.2.2.2.2.2.2.2.2.2.2.1, X.2.2.2.2.2.2.2.2.2.2.2.2.2.2.1, X.2.2.2.2.2.2.2.2.2.2.2.2.2.2.2.1, X.2.2.2.2.2.2.2.2.2.2.2.2.2.2.2.2.1, X.2.2.2.2.2.2.2.2.2.2.2.2.2.2.2.2.2) O)) ⟨hx, hb, hml, hown, hts⟩ (c_X5_having_T l D cI hl0 a_t a_row a_work a_rest a_bag a_smooth a_text a_saves a_bag_often a_row_signs a_work_signs H.size X.1 X.2.2.2.2.2.2.2.1 X.2.2.2.2.2.2.2.2.1 X.2.1 X.2.2.1 X.2.2.2.1 X.2.2.2.2.1 x1 x2 x3 x4 o ho) (cwV 4 hts mw_L_75 rfl rfl rfl hd_X5_having ⟨Nat.le_of_ble_eq_true rfl, Nat.le_of_ble_eq_true rfl⟩) hS hA hG (hK.sub [0] rfl) hP hD [0, 7, 8, 1, 2, 3, 4] rfl rfl rfl rfl rfl ⟨Nat.le_of_ble_eq_true rfl, Nat.le_of_ble_eq_true rfl⟩ 5 0 rfl rfl rfl rfl hl.1 rfl (Nat.le_of_ble_eq_true rfl) dL_having_9 (fun H locs q9 ce hP hD hS hce hcv hcl => ?_)
  rw [show kX o.1 = "java/lang/IndexOutOfBoundsException" by rw [hk9]; rfl] at hcl
  refine vx_catch (name := "java/lang/IndexOutOfBoundsException") hown [] ⟨0, 14, 17, 31⟩ [⟨0, 14, 21, 13⟩] (by rw [htab]; rfl) (fun z hz => by cases hz) (by decide) (by decide) (hts _ k3_147) (va_Nw.use rfl (hG.2.2.2.2.1 _ (by decide))) hce hcv hcl ?_
  refine lv_astore (lv' := [(6, .ref q9), (0, .ref a_t), (1, .int x1), (2, .int x2), (3, .int x3), (4, .int x4), (5, .ref a_out)]) hx hb dL_having_17 hl (by decide) rfl (fun ls hl => ?_)
  refine lv_iconst (v := 1) hx hb dL_having_19 (by decide) ?_
  exact hret H locs ls 20 (1 : Int32) _ hP hS rfl rfl dL_having_20
set_option maxHeartbeats 4000000 in
set_option maxRecDepth 100000 in
theorem cL_having_T1 (l : Launch) (hl0 : l.stackTraces = false) (D : va_G) (cI cJ : ClassId) (a_t a_row a_row_signs a_work a_work_signs a_rest a_rest_signs a_bag a_bag_often a_smooth a_smooth_madeFor a_smooth_weight a_smooth_inCell a_smooth_all a_smooth_starting a_text a_text_codes a_saves a_saves_slots a_out : Nat) (sz : Nat) (X : XS) (O : Nat → Int64) (x1 : Int32) (x2 : Int32) (x3 : Int32) (x4 : Int32) (X' : XS) (hF : G_X5_having_T X x1 x2 x3 x4 = some (1, X')) : Met l yL_having (Cond.codeWith yL_having cL_having 7 (some .int) [(0, 14, 17, 31), (0, 14, 21, 13)] :: WL) rm_L_having_T (preM D [(cI, .int), (cJ, .long)] (wdXO cI cJ a_t a_row a_row_signs a_work a_work_signs a_rest a_rest_signs a_bag a_bag_often a_smooth a_smooth_madeFor a_smooth_weight a_smooth_inCell a_smooth_all a_smooth_starting a_text a_text_codes a_saves a_saves_slots a_out X O) sz [.ref a_t, .int x1, .int x2, .int x3, .int x4, .ref a_out]) (postI D 2 (wdXO cI cJ a_t a_row a_row_signs a_work a_work_signs a_rest a_rest_signs a_bag a_bag_often a_smooth a_smooth_madeFor a_smooth_weight a_smooth_inCell a_smooth_all a_smooth_starting a_text a_text_codes a_saves a_saves_slots a_out X' O) (wdXO cI cJ a_t a_row a_row_signs a_work a_work_signs a_rest a_rest_signs a_bag a_bag_often a_smooth a_smooth_madeFor a_smooth_weight a_smooth_inCell a_smooth_all a_smooth_starting a_text a_text_codes a_saves a_saves_slots a_out X O) sz) 1 6 (va_A (wdXO cI cJ a_t a_row a_row_signs a_work a_work_signs a_rest a_rest_signs a_bag a_bag_often a_smooth a_smooth_madeFor a_smooth_weight a_smooth_inCell a_smooth_all a_smooth_starting a_text a_text_codes a_saves a_saves_slots a_out X O) sz) := by
  unfold G_X5_having_T at hF
  obtain ⟨o, ho, he⟩ := Option.map_eq_some_iff.mp hF
  obtain ⟨hk9, rfl⟩ := Prod.mk.inj he
  refine mofWI (by decide +kernel) (Nat.le_of_ble_eq_true rfl) ?_
  intro p e s m args below meth c Q A ls hx hb hml hown hts hK hP hD hS hA hG hl htab hret hsz0
  have hl : lv_has ls 7 [(0, .ref a_t), (1, .int x1), (2, .int x2), (3, .int x3), (4, .int x4), (5, .ref a_out)] := hl
  have hP : va_P D vwCl (wdXO cI cJ a_t a_row a_row_signs a_work a_work_signs a_rest a_rest_signs a_bag a_bag_often a_smooth a_smooth_madeFor a_smooth_weight a_smooth_inCell a_smooth_all a_smooth_starting a_text a_text_codes a_saves a_saves_slots a_out X O) s.heap := hP
  obtain ⟨H, hH⟩ : ∃ H, H = s.heap := ⟨_, rfl⟩
  rw [← hH]
  rw [← hH] at hP
  obtain ⟨locs, hlo⟩ : ∃ z : List Loc, z = [] := ⟨_, rfl⟩
  rw [← hlo]
  have hS : va_S A s.heap H locs := by rw [hH, hlo]; exact hS
  refine lv_aload hx hb dL_having_0 (lv_at hl 5 rfl) ?_
  refine lv_iconst (v := 0) hx hb dL_having_2 (by decide) ?_
  refine lv_aload_n hx hb dL_having_3 rfl (lv_at hl 0 rfl) ?_
  refine lv_iload_n hx hb dL_having_4 rfl (lv_at hl 1 rfl) ?_
  refine lv_iload_n hx hb dL_having_5 rfl (lv_at hl 2 rfl) ?_
  refine lv_iload_n hx hb dL_having_6 rfl (lv_at hl 3 rfl) ?_
  refine lv_iload hx hb dL_having_7 (lv_at hl 4 rfl) ?_
  refine kVT (As := [.int x1, .int x2, .int x3, .int x4]) (rest := [.int (0 : Int32), .ref a_out]) (ws' := (wdXO cI cJ a_t a_row a_row_signs a_work a_work_signs a_rest a_rest_signs a_bag a_bag_often a_smooth a_smooth_madeFor a_smooth_weight a_smooth_inCell a_smooth_all a_smooth_starting a_text a_text_codes a_saves a_saves_slots a_out (X.1, X.2.1, X.2.2.1, o.2.2.2.1, o.2.2.2.2, X.2.2.2.2.2.1, X.2.2.2.2.2.2.1, o.2.1, o.2.2.1, X.2.2.2.2.2.2.2.2.2.1, X.2.2.2.2.2.2.2.2.2.2.1, X.2.2.2.2.2.2.2.2.2.2.2.1, X.2.2.2.2.2.2.2.2.2.2.2.2.1, X.2.2.2.2.2.2.2.2.2.2.2.2.2.1, X.2.2.2.2.2.2.2.2.2.2.2.2.2.2.1, X.2.2.2.2.2.2.2.2.2.2.2.2.2.2.2.1, X.2.2.2.2.2.2.2.2.2.2.2.2.2.2.2.2.1, X.2.2.2.2.2.2.2.2.2.2.2.2.2.2.2.2.2) O)) ⟨hx, hb, hml, hown, hts⟩ (c_X5_having_T l D cI hl0 a_t a_row a_work a_rest a_bag a_smooth a_text a_saves a_bag_often a_row_signs a_work_signs H.size X.1 X.2.2.2.2.2.2.2.1 X.2.2.2.2.2.2.2.2.1 X.2.1 X.2.2.1 X.2.2.2.1 X.2.2.2.2.1 x1 x2 x3 x4 o ho) (cwV 4 hts mw_L_75 rfl rfl rfl hd_X5_having ⟨Nat.le_of_ble_eq_true rfl, Nat.le_of_ble_eq_true rfl⟩) hS hA hG (hK.sub [0] rfl) hP hD [0, 7, 8, 1, 2, 3, 4] rfl rfl rfl rfl rfl ⟨Nat.le_of_ble_eq_true rfl, Nat.le_of_ble_eq_true rfl⟩ 5 0 rfl rfl rfl rfl hl.1 rfl (Nat.le_of_ble_eq_true rfl) dL_having_9 (fun H locs q9 ce hP hD hS hce hcv hcl => ?_)
  rw [show kX o.1 = "java/lang/IllegalArgumentException" by rw [hk9]; rfl] at hcl
  refine vx_catch (name := "java/lang/IllegalArgumentException") hown [⟨0, 14, 17, 31⟩] ⟨0, 14, 21, 13⟩ [] (by rw [htab]; rfl) (fun z hz => by rw [List.mem_singleton.mp hz]; exact Or.inr ⟨by decide, _, hts _ k3_147, hG.2.2.2.2.2.1 ("java/lang/IllegalArgumentException", "java/lang/IndexOutOfBoundsException") (by decide)⟩) (by decide) (by decide) (hts _ k3_95) (va_Nw.use rfl (hG.2.2.2.2.1 _ (by decide))) hce hcv hcl ?_
  refine lv_astore (lv' := [(6, .ref q9), (0, .ref a_t), (1, .int x1), (2, .int x2), (3, .int x3), (4, .int x4), (5, .ref a_out)]) hx hb dL_having_21 hl (by decide) rfl (fun ls hl => ?_)
  refine lv_iconst (v := 2) hx hb dL_having_23 (by decide) ?_
  exact hret H locs ls 24 (2 : Int32) _ hP hS rfl rfl dL_having_24
theorem mw_L_79 : GoodIn WL (wsV RL 79 RX5 yX5_stepsTo (Cond.code yX5_stepsTo cX5_stepsTo 5 (some .int) :: WL)) := gV_of k4_35 k3_70 k3_71 k1_1 k3_72
def rm_L_stepsTo : Room := { frames := 6, cells := 0, slots := 0, locals := 130 }
set_option maxHeartbeats 4000000 in
set_option maxRecDepth 100000 in
theorem cL_stepsTo_N (l : Launch) (D : va_G) (cI cJ : ClassId) (a_t a_row a_row_signs a_work a_work_signs a_rest a_rest_signs a_bag a_bag_often a_smooth a_smooth_madeFor a_smooth_weight a_smooth_inCell a_smooth_all a_smooth_starting a_text a_text_codes a_saves a_saves_slots a_out : Nat) (sz : Nat) (X : XS) (O : Nat → Int64) (x1 : Int32) (r : Int32) (X' : XS) (hF : G_X5_stepsTo X x1 = some (r, X')) : Met l yL_stepsTo (Cond.codeWith yL_stepsTo cL_stepsTo 4 (some .int) [(0, 9, 12, 13)] :: WL) rm_L_stepsTo (preM D [(cI, .int), (cJ, .long)] (wdXO cI cJ a_t a_row a_row_signs a_work a_work_signs a_rest a_rest_signs a_bag a_bag_often a_smooth a_smooth_madeFor a_smooth_weight a_smooth_inCell a_smooth_all a_smooth_starting a_text a_text_codes a_saves a_saves_slots a_out X O) sz [.ref a_t, .int x1, .ref a_out]) (postI D 0 (wdXO cI cJ a_t a_row a_row_signs a_work a_work_signs a_rest a_rest_signs a_bag a_bag_often a_smooth a_smooth_madeFor a_smooth_weight a_smooth_inCell a_smooth_all a_smooth_starting a_text a_text_codes a_saves a_saves_slots a_out X' (vp_updL O (0 : Int32).toNatClampNeg (r).toInt64)) (wdXO cI cJ a_t a_row a_row_signs a_work a_work_signs a_rest a_rest_signs a_bag a_bag_often a_smooth a_smooth_madeFor a_smooth_weight a_smooth_inCell a_smooth_all a_smooth_starting a_text a_text_codes a_saves a_saves_slots a_out X O) sz) 0 0 (va_A (wdXO cI cJ a_t a_row a_row_signs a_work a_work_signs a_rest a_rest_signs a_bag a_bag_often a_smooth a_smooth_madeFor a_smooth_weight a_smooth_inCell a_smooth_all a_smooth_starting a_text a_text_codes a_saves a_saves_slots a_out X O) sz) := by
  unfold G_X5_stepsTo at hF
  obtain ⟨o, ho, he⟩ := Option.map_eq_some_iff.mp hF
  obtain ⟨rfl, rfl⟩ := Prod.mk.inj he
  refine mofWI (by decide +kernel) (Nat.le_of_ble_eq_true rfl) ?_
  intro p e s m args below meth c Q A ls hx hb hml hown hts hK hP hD hS hA hG hl htab hret hsz0
  have hl : lv_has ls 4 [(0, .ref a_t), (1, .int x1), (2, .ref a_out)] := hl
  have hP : va_P D vwCl (wdXO cI cJ a_t a_row a_row_signs a_work a_work_signs a_rest a_rest_signs a_bag a_bag_often a_smooth a_smooth_madeFor a_smooth_weight a_smooth_inCell a_smooth_all a_smooth_starting a_text a_text_codes a_saves a_saves_slots a_out X O) s.heap := hP
  obtain ⟨H, hH⟩ : ∃ H, H = s.heap := ⟨_, rfl⟩
  rw [← hH]
  rw [← hH] at hP
  obtain ⟨locs, hlo⟩ : ∃ z : List Loc, z = [] := ⟨_, rfl⟩
  rw [← hlo]
  have hS : va_S A s.heap H locs := by rw [hH, hlo]; exact hS
  refine lv_aload_n hx hb dL_stepsTo_0 rfl (lv_at hl 2 rfl) ?_
  refine lv_iconst (v := 0) hx hb dL_stepsTo_1 (by decide) ?_
  refine lv_aload_n hx hb dL_stepsTo_2 rfl (lv_at hl 0 rfl) ?_
  refine lv_iload_n hx hb dL_stepsTo_3 rfl (lv_at hl 1 rfl) ?_
  refine kVI (As := [.int x1]) (rest := [.int (0 : Int32), .ref a_out]) (ws' := (wdXO cI cJ a_t a_row a_row_signs a_work a_work_signs a_rest a_rest_signs a_bag a_bag_often a_smooth a_smooth_madeFor a_smooth_weight a_smooth_inCell a_smooth_all a_smooth_starting a_text a_text_codes a_saves a_saves_slots a_out (X.1, X.2.1, X.2.2.1, o.2.2.2.2.2.1, o.2.2.2.2.2.2, o.2.2.2.1, o.2.2.2.2.1, o.2.1, o.2.2.1, X.2.2.2.2.2.2.2.2.2.1, X.2.2.2.2.2.2.2.2.2.2.1, X.2.2.2.2.2.2.2.2.2.2.2.1, X.2.2.2.2.2.2.2.2.2.2.2.2.1, X.2.2.2.2.2.2.2.2.2.2.2.2.2.1, X.2.2.2.2.2.2.2.2.2.2.2.2.2.2.1, X.2.2.2.2.2.2.2.2.2.2.2.2.2.2.2.1, X.2.2.2.2.2.2.2.2.2.2.2.2.2.2.2.2.1, X.2.2.2.2.2.2.2.2.2.2.2.2.2.2.2.2.2) O)) ⟨hx, hb, hml, hown, hts⟩ (c_X5_stepsTo l D cI a_t a_row a_work a_rest a_bag a_smooth a_text a_saves a_bag_often a_rest_signs a_row_signs a_work_signs H.size X.1 X.2.2.2.2.2.2.2.1 X.2.2.2.2.2.2.2.2.1 X.2.2.2.2.2.1 X.2.2.2.2.2.2.1 X.2.1 X.2.2.1 X.2.2.2.1 X.2.2.2.2.1 x1 o ho) (cwV 1 hts mw_L_79 rfl rfl rfl hd_X5_stepsTo ⟨Nat.le_of_ble_eq_true rfl, Nat.le_of_ble_eq_true rfl⟩) hS hA hG (hK.sub [0] rfl) hP hD [0, 7, 8, 5, 6, 1, 2, 3, 4] rfl rfl rfl rfl rfl ⟨Nat.zero_le _, Nat.zero_le _⟩ 5 0 rfl rfl rfl rfl hl.1 rfl (Nat.le_of_ble_eq_true rfl) dL_stepsTo_4 (fun H locs hP hD hS => ?_)
  refine lv_i2l hx hb dL_stepsTo_7 rfl ?_
  refine va_last hx hb hK hP hD hS 19 1 rfl rfl (vinb (by decide)) dL_stepsTo_8 (fun H locs hP hD hS => ?_)
  have hP : va_P D vwCl (wdXO cI cJ a_t a_row a_row_signs a_work a_work_signs a_rest a_rest_signs a_bag a_bag_often a_smooth a_smooth_madeFor a_smooth_weight a_smooth_inCell a_smooth_all a_smooth_starting a_text a_text_codes a_saves a_saves_slots a_out (X.1, X.2.1, X.2.2.1, o.2.2.2.2.2.1, o.2.2.2.2.2.2, o.2.2.2.1, o.2.2.2.2.1, o.2.1, o.2.2.1, X.2.2.2.2.2.2.2.2.2.1, X.2.2.2.2.2.2.2.2.2.2.1, X.2.2.2.2.2.2.2.2.2.2.2.1, X.2.2.2.2.2.2.2.2.2.2.2.2.1, X.2.2.2.2.2.2.2.2.2.2.2.2.2.1, X.2.2.2.2.2.2.2.2.2.2.2.2.2.2.1, X.2.2.2.2.2.2.2.2.2.2.2.2.2.2.2.1, X.2.2.2.2.2.2.2.2.2.2.2.2.2.2.2.2.1, X.2.2.2.2.2.2.2.2.2.2.2.2.2.2.2.2.2) (vp_updL O (0 : Int32).toNatClampNeg (o.1).toInt64)) H := hP
  refine lv_goto (tgt := 15) hx hb dL_stepsTo_9 (by decide) ?_
  refine lv_iconst (v := 0) hx hb dL_stepsTo_15 (by decide) ?_
  exact hret H locs ls 16 (0 : Int32) _ hP hS rfl rfl dL_stepsTo_16
def rm_L_stepsTo_T : Room := { frames := 9, cells := 1, slots := 6, locals := 155 }
set_option maxHeartbeats 4000000 in
set_option maxRecDepth 100000 in
theorem cL_stepsTo_T1 (l : Launch) (hl0 : l.stackTraces = false) (D : va_G) (cI cJ : ClassId) (a_t a_row a_row_signs a_work a_work_signs a_rest a_rest_signs a_bag a_bag_often a_smooth a_smooth_madeFor a_smooth_weight a_smooth_inCell a_smooth_all a_smooth_starting a_text a_text_codes a_saves a_saves_slots a_out : Nat) (sz : Nat) (X : XS) (O : Nat → Int64) (x1 : Int32) (X' : XS) (hF : G_X5_stepsTo_T X x1 = some (1, X')) : Met l yL_stepsTo (Cond.codeWith yL_stepsTo cL_stepsTo 4 (some .int) [(0, 9, 12, 13)] :: WL) rm_L_stepsTo_T (preM D [(cI, .int), (cJ, .long)] (wdXO cI cJ a_t a_row a_row_signs a_work a_work_signs a_rest a_rest_signs a_bag a_bag_often a_smooth a_smooth_madeFor a_smooth_weight a_smooth_inCell a_smooth_all a_smooth_starting a_text a_text_codes a_saves a_saves_slots a_out X O) sz [.ref a_t, .int x1, .ref a_out]) (postI D 1 (wdXO cI cJ a_t a_row a_row_signs a_work a_work_signs a_rest a_rest_signs a_bag a_bag_often a_smooth a_smooth_madeFor a_smooth_weight a_smooth_inCell a_smooth_all a_smooth_starting a_text a_text_codes a_saves a_saves_slots a_out X' O) (wdXO cI cJ a_t a_row a_row_signs a_work a_work_signs a_rest a_rest_signs a_bag a_bag_often a_smooth a_smooth_madeFor a_smooth_weight a_smooth_inCell a_smooth_all a_smooth_starting a_text a_text_codes a_saves a_saves_slots a_out X O) sz) 1 6 (va_A (wdXO cI cJ a_t a_row a_row_signs a_work a_work_signs a_rest a_rest_signs a_bag a_bag_often a_smooth a_smooth_madeFor a_smooth_weight a_smooth_inCell a_smooth_all a_smooth_starting a_text a_text_codes a_saves a_saves_slots a_out X O) sz) := by
  unfold G_X5_stepsTo_T at hF
  obtain ⟨o, ho, he⟩ := Option.map_eq_some_iff.mp hF
  obtain ⟨hk9, rfl⟩ := Prod.mk.inj he
  refine mofWI (by decide +kernel) (Nat.le_of_ble_eq_true rfl) ?_
  intro p e s m args below meth c Q A ls hx hb hml hown hts hK hP hD hS hA hG hl htab hret hsz0
  have hl : lv_has ls 4 [(0, .ref a_t), (1, .int x1), (2, .ref a_out)] := hl
  have hP : va_P D vwCl (wdXO cI cJ a_t a_row a_row_signs a_work a_work_signs a_rest a_rest_signs a_bag a_bag_often a_smooth a_smooth_madeFor a_smooth_weight a_smooth_inCell a_smooth_all a_smooth_starting a_text a_text_codes a_saves a_saves_slots a_out X O) s.heap := hP
  obtain ⟨H, hH⟩ : ∃ H, H = s.heap := ⟨_, rfl⟩
  rw [← hH]
  rw [← hH] at hP
  obtain ⟨locs, hlo⟩ : ∃ z : List Loc, z = [] := ⟨_, rfl⟩
  rw [← hlo]
  have hS : va_S A s.heap H locs := by rw [hH, hlo]; exact hS
  refine lv_aload_n hx hb dL_stepsTo_0 rfl (lv_at hl 2 rfl) ?_
  refine lv_iconst (v := 0) hx hb dL_stepsTo_1 (by decide) ?_
  refine lv_aload_n hx hb dL_stepsTo_2 rfl (lv_at hl 0 rfl) ?_
  refine lv_iload_n hx hb dL_stepsTo_3 rfl (lv_at hl 1 rfl) ?_
  refine kVT (As := [.int x1]) (rest := [.int (0 : Int32), .ref a_out]) (ws' := (wdXO cI cJ a_t a_row a_row_signs a_work a_work_signs a_rest a_rest_signs a_bag a_bag_often a_smooth a_smooth_madeFor a_smooth_weight a_smooth_inCell a_smooth_all a_smooth_starting a_text a_text_codes a_saves a_saves_slots a_out (X.1, X.2.1, X.2.2.1, o.2.2.2.2.2.1, o.2.2.2.2.2.2, o.2.2.2.1, o.2.2.2.2.1, o.2.1, o.2.2.1, X.2.2.2.2.2.2.2.2.2.1, X.2.2.2.2.2.2.2.2.2.2.1, X.2.2.2.2.2.2.2.2.2.2.2.1, X.2.2.2.2.2.2.2.2.2.2.2.2.1, X.2.2.2.2.2.2.2.2.2.2.2.2.2.1, X.2.2.2.2.2.2.2.2.2.2.2.2.2.2.1, X.2.2.2.2.2.2.2.2.2.2.2.2.2.2.2.1, X.2.2.2.2.2.2.2.2.2.2.2.2.2.2.2.2.1, X.2.2.2.2.2.2.2.2.2.2.2.2.2.2.2.2.2) O)) ⟨hx, hb, hml, hown, hts⟩ (c_X5_stepsTo_T l D cI hl0 a_t a_row a_work a_rest a_bag a_smooth a_text a_saves a_bag_often a_rest_signs a_row_signs a_work_signs H.size X.1 X.2.2.2.2.2.2.2.1 X.2.2.2.2.2.2.2.2.1 X.2.2.2.2.2.1 X.2.2.2.2.2.2.1 X.2.1 X.2.2.1 X.2.2.2.1 X.2.2.2.2.1 x1 o ho) (cwV 1 hts mw_L_79 rfl rfl rfl hd_X5_stepsTo ⟨Nat.le_of_ble_eq_true rfl, Nat.le_of_ble_eq_true rfl⟩) hS hA hG (hK.sub [0] rfl) hP hD [0, 7, 8, 5, 6, 1, 2, 3, 4] rfl rfl rfl rfl rfl ⟨Nat.le_of_ble_eq_true rfl, Nat.le_of_ble_eq_true rfl⟩ 5 0 rfl rfl rfl rfl hl.1 rfl (Nat.le_of_ble_eq_true rfl) dL_stepsTo_4 (fun H locs q9 ce hP hD hS hce hcv hcl => ?_)
  rw [show kX o.1 = "java/lang/IllegalArgumentException" by rw [hk9]; rfl] at hcl
  refine vx_catch (name := "java/lang/IllegalArgumentException") hown [] ⟨0, 9, 12, 13⟩ [] (by rw [htab]; rfl) (fun z hz => by cases hz) (by decide) (by decide) (hts _ k3_95) (va_Nw.use rfl (hG.2.2.2.2.1 _ (by decide))) hce hcv hcl ?_
  refine lv_astore_n (lv' := [(3, .ref q9), (0, .ref a_t), (1, .int x1), (2, .ref a_out)]) hx hb dL_stepsTo_12 rfl hl (by decide) rfl (fun ls hl => ?_)
  refine lv_iconst (v := 1) hx hb dL_stepsTo_13 (by decide) ?_
  exact hret H locs ls 14 (1 : Int32) _ hP hS rfl rfl dL_stepsTo_14
theorem mw_L_82 : GoodIn WL (wsV RL 82 RX5 yX5_bestSwap (Cond.code yX5_bestSwap cX5_bestSwap 8 (some .int) :: WL)) := gV_of k4_39 k3_82 k3_83 k1_1 k3_84
def rm_L_bestSwap : Room := { frames := 6, cells := 0, slots := 0, locals := 140 }
set_option maxHeartbeats 4000000 in
set_option maxRecDepth 100000 in
theorem cL_bestSwap_N (l : Launch) (D : va_G) (cI cJ : ClassId) (a_t a_row a_row_signs a_work a_work_signs a_rest a_rest_signs a_bag a_bag_often a_smooth a_smooth_madeFor a_smooth_weight a_smooth_inCell a_smooth_all a_smooth_starting a_text a_text_codes a_saves a_saves_slots a_out : Nat) (sz : Nat) (X : XS) (O : Nat → Int64) (x1 : Int32) (r : Int32) (X' : XS) (hF : G_X5_bestSwap X x1 = some (r, X')) : Met l yL_bestSwap (Cond.codeWith yL_bestSwap cL_bestSwap 4 (some .int) [(0, 9, 12, 13)] :: WL) rm_L_bestSwap (preM D [(cI, .int), (cJ, .long)] (wdXO cI cJ a_t a_row a_row_signs a_work a_work_signs a_rest a_rest_signs a_bag a_bag_often a_smooth a_smooth_madeFor a_smooth_weight a_smooth_inCell a_smooth_all a_smooth_starting a_text a_text_codes a_saves a_saves_slots a_out X O) sz [.ref a_t, .int x1, .ref a_out]) (postI D 0 (wdXO cI cJ a_t a_row a_row_signs a_work a_work_signs a_rest a_rest_signs a_bag a_bag_often a_smooth a_smooth_madeFor a_smooth_weight a_smooth_inCell a_smooth_all a_smooth_starting a_text a_text_codes a_saves a_saves_slots a_out X' (vp_updL O (0 : Int32).toNatClampNeg (r).toInt64)) (wdXO cI cJ a_t a_row a_row_signs a_work a_work_signs a_rest a_rest_signs a_bag a_bag_often a_smooth a_smooth_madeFor a_smooth_weight a_smooth_inCell a_smooth_all a_smooth_starting a_text a_text_codes a_saves a_saves_slots a_out X O) sz) 0 0 (va_A (wdXO cI cJ a_t a_row a_row_signs a_work a_work_signs a_rest a_rest_signs a_bag a_bag_often a_smooth a_smooth_madeFor a_smooth_weight a_smooth_inCell a_smooth_all a_smooth_starting a_text a_text_codes a_saves a_saves_slots a_out X O) sz) := by
  unfold G_X5_bestSwap at hF
  obtain ⟨o, ho, he⟩ := Option.map_eq_some_iff.mp hF
  obtain ⟨rfl, rfl⟩ := Prod.mk.inj he
  refine mofWI (by decide +kernel) (Nat.le_of_ble_eq_true rfl) ?_
  intro p e s m args below meth c Q A ls hx hb hml hown hts hK hP hD hS hA hG hl htab hret hsz0
  have hl : lv_has ls 4 [(0, .ref a_t), (1, .int x1), (2, .ref a_out)] := hl
  have hP : va_P D vwCl (wdXO cI cJ a_t a_row a_row_signs a_work a_work_signs a_rest a_rest_signs a_bag a_bag_often a_smooth a_smooth_madeFor a_smooth_weight a_smooth_inCell a_smooth_all a_smooth_starting a_text a_text_codes a_saves a_saves_slots a_out X O) s.heap := hP
  obtain ⟨H, hH⟩ : ∃ H, H = s.heap := ⟨_, rfl⟩
  rw [← hH]
  rw [← hH] at hP
  obtain ⟨locs, hlo⟩ : ∃ z : List Loc, z = [] := ⟨_, rfl⟩
  rw [← hlo]
  have hS : va_S A s.heap H locs := by rw [hH, hlo]; exact hS
  refine lv_aload_n hx hb dL_bestSwap_0 rfl (lv_at hl 2 rfl) ?_
  refine lv_iconst (v := 0) hx hb dL_bestSwap_1 (by decide) ?_
  refine lv_aload_n hx hb dL_bestSwap_2 rfl (lv_at hl 0 rfl) ?_
  refine lv_iload_n hx hb dL_bestSwap_3 rfl (lv_at hl 1 rfl) ?_
  refine kVI (As := [.int x1]) (rest := [.int (0 : Int32), .ref a_out]) (ws' := (wdXO cI cJ a_t a_row a_row_signs a_work a_work_signs a_rest a_rest_signs a_bag a_bag_often a_smooth a_smooth_madeFor a_smooth_weight a_smooth_inCell a_smooth_all a_smooth_starting a_text a_text_codes a_saves a_saves_slots a_out (X.1, X.2.1, X.2.2.1, o.2.2.2.1, o.2.2.2.2, X.2.2.2.2.2.1, X.2.2.2.2.2.2.1, o.2.1, o.2.2.1, X.2.2.2.2.2.2.2.2.2.1, X.2.2.2.2.2.2.2.2.2.2.1, X.2.2.2.2.2.2.2.2.2.2.2.1, X.2.2.2.2.2.2.2.2.2.2.2.2.1, X.2.2.2.2.2.2.2.2.2.2.2.2.2.1, X.2.2.2.2.2.2.2.2.2.2.2.2.2.2.1, X.2.2.2.2.2.2.2.2.2.2.2.2.2.2.2.1, X.2.2.2.2.2.2.2.2.2.2.2.2.2.2.2.2.1, X.2.2.2.2.2.2.2.2.2.2.2.2.2.2.2.2.2) O)) ⟨hx, hb, hml, hown, hts⟩ (c_X5_bestSwap l D cI a_t a_row a_work a_rest a_bag a_smooth a_text a_saves a_bag_often a_row_signs a_work_signs H.size X.1 X.2.2.2.2.2.2.2.1 X.2.2.2.2.2.2.2.2.1 X.2.1 X.2.2.1 X.2.2.2.1 X.2.2.2.2.1 x1 o ho) (cwV 1 hts mw_L_82 rfl rfl rfl hd_X5_bestSwap ⟨Nat.le_of_ble_eq_true rfl, Nat.le_of_ble_eq_true rfl⟩) hS hA hG (hK.sub [0] rfl) hP hD [0, 7, 8, 1, 2, 3, 4] rfl rfl rfl rfl rfl ⟨Nat.zero_le _, Nat.zero_le _⟩ 5 0 rfl rfl rfl rfl hl.1 rfl (Nat.le_of_ble_eq_true rfl) dL_bestSwap_4 (fun H locs hP hD hS => ?_)
  refine lv_i2l hx hb dL_bestSwap_7 rfl ?_
  refine va_last hx hb hK hP hD hS 19 1 rfl rfl (vinb (by decide)) dL_bestSwap_8 (fun H locs hP hD hS => ?_)
  have hP : va_P D vwCl (wdXO cI cJ a_t a_row a_row_signs a_work a_work_signs a_rest a_rest_signs a_bag a_bag_often a_smooth a_smooth_madeFor a_smooth_weight a_smooth_inCell a_smooth_all a_smooth_starting a_text a_text_codes a_saves a_saves_slots a_out (X.1, X.2.1, X.2.2.1, o.2.2.2.1, o.2.2.2.2, X.2.2.2.2.2.1, X.2.2.2.2.2.2.1, o.2.1, o.2.2.1, X.2.2.2.2.2.2.2.2.2.1, X.2.2.2.2.2.2.2.2.2.2.1, X.2.2.2.2.2.2.2.2.2.2.2.1, X.2.2.2.2.2.2.2.2.2.2.2.2.1, X.2.2.2.2.2.2.2.2.2.2.2.2.2.1, X.2.2.2.2.2.2.2.2.2.2.2.2.2.2.1, X.2.2.2.2.2.2.2.2.2.2.2.2.2.2.2.1, X.2.2.2.2.2.2.2.2.2.2.2.2.2.2.2.2.1, X.2.2.2.2.2.2.2.2.2.2.2.2.2.2.2.2.2) (vp_updL O (0 : Int32).toNatClampNeg (o.1).toInt64)) H := hP
  refine lv_goto (tgt := 15) hx hb dL_bestSwap_9 (by decide) ?_
  refine lv_iconst (v := 0) hx hb dL_bestSwap_15 (by decide) ?_
  exact hret H locs ls 16 (0 : Int32) _ hP hS rfl rfl dL_bestSwap_16
def rm_L_bestSwap_T : Room := { frames := 8, cells := 1, slots := 6, locals := 140 }
set_option maxHeartbeats 4000000 in
set_option maxRecDepth 100000 in
theorem cL_bestSwap_T1 (l : Launch) (hl0 : l.stackTraces = false) (D : va_G) (cI cJ : ClassId) (a_t a_row a_row_signs a_work a_work_signs a_rest a_rest_signs a_bag a_bag_often a_smooth a_smooth_madeFor a_smooth_weight a_smooth_inCell a_smooth_all a_smooth_starting a_text a_text_codes a_saves a_saves_slots a_out : Nat) (sz : Nat) (X : XS) (O : Nat → Int64) (x1 : Int32) (X' : XS) (hF : G_X5_bestSwap_T X x1 = some (1, X')) : Met l yL_bestSwap (Cond.codeWith yL_bestSwap cL_bestSwap 4 (some .int) [(0, 9, 12, 13)] :: WL) rm_L_bestSwap_T (preM D [(cI, .int), (cJ, .long)] (wdXO cI cJ a_t a_row a_row_signs a_work a_work_signs a_rest a_rest_signs a_bag a_bag_often a_smooth a_smooth_madeFor a_smooth_weight a_smooth_inCell a_smooth_all a_smooth_starting a_text a_text_codes a_saves a_saves_slots a_out X O) sz [.ref a_t, .int x1, .ref a_out]) (postI D 1 (wdXO cI cJ a_t a_row a_row_signs a_work a_work_signs a_rest a_rest_signs a_bag a_bag_often a_smooth a_smooth_madeFor a_smooth_weight a_smooth_inCell a_smooth_all a_smooth_starting a_text a_text_codes a_saves a_saves_slots a_out X' O) (wdXO cI cJ a_t a_row a_row_signs a_work a_work_signs a_rest a_rest_signs a_bag a_bag_often a_smooth a_smooth_madeFor a_smooth_weight a_smooth_inCell a_smooth_all a_smooth_starting a_text a_text_codes a_saves a_saves_slots a_out X O) sz) 1 6 (va_A (wdXO cI cJ a_t a_row a_row_signs a_work a_work_signs a_rest a_rest_signs a_bag a_bag_often a_smooth a_smooth_madeFor a_smooth_weight a_smooth_inCell a_smooth_all a_smooth_starting a_text a_text_codes a_saves a_saves_slots a_out X O) sz) := by
  unfold G_X5_bestSwap_T at hF
  obtain ⟨o, ho, he⟩ := Option.map_eq_some_iff.mp hF
  obtain ⟨hk9, rfl⟩ := Prod.mk.inj he
  refine mofWI (by decide +kernel) (Nat.le_of_ble_eq_true rfl) ?_
  intro p e s m args below meth c Q A ls hx hb hml hown hts hK hP hD hS hA hG hl htab hret hsz0
  have hl : lv_has ls 4 [(0, .ref a_t), (1, .int x1), (2, .ref a_out)] := hl
  have hP : va_P D vwCl (wdXO cI cJ a_t a_row a_row_signs a_work a_work_signs a_rest a_rest_signs a_bag a_bag_often a_smooth a_smooth_madeFor a_smooth_weight a_smooth_inCell a_smooth_all a_smooth_starting a_text a_text_codes a_saves a_saves_slots a_out X O) s.heap := hP
  obtain ⟨H, hH⟩ : ∃ H, H = s.heap := ⟨_, rfl⟩
  rw [← hH]
  rw [← hH] at hP
  obtain ⟨locs, hlo⟩ : ∃ z : List Loc, z = [] := ⟨_, rfl⟩
  rw [← hlo]
  have hS : va_S A s.heap H locs := by rw [hH, hlo]; exact hS
  refine lv_aload_n hx hb dL_bestSwap_0 rfl (lv_at hl 2 rfl) ?_
  refine lv_iconst (v := 0) hx hb dL_bestSwap_1 (by decide) ?_
  refine lv_aload_n hx hb dL_bestSwap_2 rfl (lv_at hl 0 rfl) ?_
  refine lv_iload_n hx hb dL_bestSwap_3 rfl (lv_at hl 1 rfl) ?_
  refine kVT (As := [.int x1]) (rest := [.int (0 : Int32), .ref a_out]) (ws' := (wdXO cI cJ a_t a_row a_row_signs a_work a_work_signs a_rest a_rest_signs a_bag a_bag_often a_smooth a_smooth_madeFor a_smooth_weight a_smooth_inCell a_smooth_all a_smooth_starting a_text a_text_codes a_saves a_saves_slots a_out (X.1, X.2.1, X.2.2.1, o.2.2.2.1, o.2.2.2.2, X.2.2.2.2.2.1, X.2.2.2.2.2.2.1, o.2.1, o.2.2.1, X.2.2.2.2.2.2.2.2.2.1, X.2.2.2.2.2.2.2.2.2.2.1, X.2.2.2.2.2.2.2.2.2.2.2.1, X.2.2.2.2.2.2.2.2.2.2.2.2.1, X.2.2.2.2.2.2.2.2.2.2.2.2.2.1, X.2.2.2.2.2.2.2.2.2.2.2.2.2.2.1, X.2.2.2.2.2.2.2.2.2.2.2.2.2.2.2.1, X.2.2.2.2.2.2.2.2.2.2.2.2.2.2.2.2.1, X.2.2.2.2.2.2.2.2.2.2.2.2.2.2.2.2.2) O)) ⟨hx, hb, hml, hown, hts⟩ (c_X5_bestSwap_T l D cI hl0 a_t a_row a_work a_rest a_bag a_smooth a_text a_saves a_bag_often a_row_signs a_work_signs H.size X.1 X.2.2.2.2.2.2.2.1 X.2.2.2.2.2.2.2.2.1 X.2.1 X.2.2.1 X.2.2.2.1 X.2.2.2.2.1 x1 o ho) (cwV 1 hts mw_L_82 rfl rfl rfl hd_X5_bestSwap ⟨Nat.le_of_ble_eq_true rfl, Nat.le_of_ble_eq_true rfl⟩) hS hA hG (hK.sub [0] rfl) hP hD [0, 7, 8, 1, 2, 3, 4] rfl rfl rfl rfl rfl ⟨Nat.le_of_ble_eq_true rfl, Nat.le_of_ble_eq_true rfl⟩ 5 0 rfl rfl rfl rfl hl.1 rfl (Nat.le_of_ble_eq_true rfl) dL_bestSwap_4 (fun H locs q9 ce hP hD hS hce hcv hcl => ?_)
  rw [show kX o.1 = "java/lang/IllegalArgumentException" by rw [hk9]; rfl] at hcl
  refine vx_catch (name := "java/lang/IllegalArgumentException") hown [] ⟨0, 9, 12, 13⟩ [] (by rw [htab]; rfl) (fun z hz => by cases hz) (by decide) (by decide) (hts _ k3_95) (va_Nw.use rfl (hG.2.2.2.2.1 _ (by decide))) hce hcv hcl ?_
  refine lv_astore_n (lv' := [(3, .ref q9), (0, .ref a_t), (1, .int x1), (2, .ref a_out)]) hx hb dL_bestSwap_12 rfl hl (by decide) rfl (fun ls hl => ?_)
  refine lv_iconst (v := 1) hx hb dL_bestSwap_13 (by decide) ?_
  exact hret H locs ls 14 (1 : Int32) _ hP hS rfl rfl dL_bestSwap_14
