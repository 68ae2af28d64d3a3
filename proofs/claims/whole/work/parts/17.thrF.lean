def F_X5_need_T (x0 : Int32) : Option (Nat) :=
  if x0 = 0 then
    some 1
  else
    none
def F_X5_needPlace_T (c_row_length : Int32) (x1 : Int32) : Option (Nat) :=
  (F_X1_has c_row_length x1).bind (fun r5 =>
  if r5 = 0 then
    some 3
  else
    none)
def F_X5_needSign_T_J15 (x0 : Int32) (v0 : Int32) : Option (Nat) :=
  opc (F_X5_need_T v0) (fun q15 => some q15)
  (none)
def F_X5_needSign_T (x0 : Int32) : Option (Nat) :=
  F_X5_needSign_T_J15 x0 (if x0 < 0 then (0 : Int32) else (if (6 : Int32) ≤ x0 then (0 : Int32) else (1 : Int32)))
def F_X5_needRank_T_J17 (c_row_length : Int32) (c_row_signs : Nat → Int32) (x1 : Int32) (c_bag_total : Int32) (c_bag_often : Nat → Int32) (v0 : Int32) : Option (Nat × Int32 × (Nat → Int32)) :=
  opc (F_X5_need_T v0) (fun q17 => some (q17, c_bag_total, c_bag_often))
  (none)
def F_X5_needRank_T (c_bag_total : Int32) (c_bag_often : Nat → Int32) (c_row_length : Int32) (c_row_signs : Nat → Int32) (x1 : Int32) : Option (Nat × Int32 × (Nat → Int32)) :=
  if x1 < 0 then
    F_X5_needRank_T_J17 c_row_length c_row_signs x1 c_bag_total c_bag_often (0 : Int32)
  else
    (F_X5_all c_bag_total c_bag_often c_row_length c_row_signs).bind (fun r6 =>
    F_X5_needRank_T_J17 c_row_length c_row_signs x1 r6.2.1 r6.2.2 (if r6.1 ≤ x1 then (0 : Int32) else (1 : Int32)))
def F_X5_goTo_T (c_gone : Int32) (c_bag_total : Int32) (c_bag_often : Nat → Int32) (c_row_length : Int32) (c_row_signs : Nat → Int32) (c_saves_held : Int32) (c_saves_slots : Nat → Int32) (c_work_length : Int32) (c_work_signs : Nat → Int32) (x1 : Int32) : Option (Nat × Int32 × Int32 × (Nat → Int32) × Int32 × (Nat → Int32) × Int32 × (Nat → Int32) × Int32 × (Nat → Int32)) :=
  opc (F_X5_needRank_T c_bag_total c_bag_often c_row_length c_row_signs x1) (fun q2 => some (q2.1, c_gone, q2.2.1, q2.2.2, c_row_length, c_row_signs, c_saves_held, c_saves_slots, c_work_length, c_work_signs))
  (none)
def F_X5_jump_T (c_gone : Int32) (c_bag_total : Int32) (c_bag_often : Nat → Int32) (c_row_length : Int32) (c_row_signs : Nat → Int32) (c_saves_held : Int32) (c_saves_slots : Nat → Int32) (c_work_length : Int32) (c_work_signs : Nat → Int32) (x1 : Int32) : Option (Nat × Int32 × Int32 × (Nat → Int32) × Int32 × (Nat → Int32) × Int32 × (Nat → Int32) × Int32 × (Nat → Int32)) :=
  (F_X5_rankOf c_bag_total c_bag_often c_row_length c_row_signs).bind (fun r5 =>
  if (lg_cmp (((r5.1).toInt64) + ((x1).toInt64)) (0 : Int64)) < 0 then
    some (2, c_gone, r5.2.1, r5.2.2, c_row_length, c_row_signs, c_saves_held, c_saves_slots, c_work_length, c_work_signs)
  else
    (F_X5_all r5.2.1 r5.2.2 c_row_length c_row_signs).bind (fun r21 =>
    if (lg_cmp (((r5.1).toInt64) + ((x1).toInt64)) ((r21.1).toInt64)) < 0 then
      none
    else
      some (2, c_gone, r21.2.1, r21.2.2, c_row_length, c_row_signs, c_saves_held, c_saves_slots, c_work_length, c_work_signs)))
def F_X5_nextSmooth_T_J26 (c_gone : Int32) (c_bag_total : Int32) (c_bag_often : Nat → Int32) (c_row_length : Int32) (c_row_signs : Nat → Int32) (c_saves_held : Int32) (c_saves_slots : Nat → Int32) (c_smooth_all : Nat → Int32) (c_smooth_inCell : Nat → Int32) (c_smooth_madeFor : Nat → Int32) (c_smooth_starting : Nat → Int32) (c_smooth_weight : Nat → Int32) (c_work_length : Int32) (c_work_signs : Nat → Int32) (v0 : Int32) (v1 : Int32) : Option (Nat × Int32 × Int32 × (Nat → Int32) × Int32 × (Nat → Int32) × Int32 × (Nat → Int32) × (Nat → Int32) × (Nat → Int32) × (Nat → Int32) × (Nat → Int32) × (Nat → Int32) × Int32 × (Nat → Int32)) :=
  (F_X5_allSmooth c_bag_total c_bag_often c_row_length c_row_signs c_smooth_all c_smooth_inCell c_smooth_madeFor c_smooth_starting c_smooth_weight).bind (fun r30 =>
  if (v0 + v1) < r30.1 then
    none
  else
    some (2, c_gone, r30.2.1, r30.2.2.1, c_row_length, c_row_signs, c_saves_held, c_saves_slots, r30.2.2.2.1, r30.2.2.2.2.1, r30.2.2.2.2.2.1, r30.2.2.2.2.2.2.1, r30.2.2.2.2.2.2.2, c_work_length, c_work_signs))
def F_X5_nextSmooth_T (c_gone : Int32) (c_bag_total : Int32) (c_bag_often : Nat → Int32) (c_row_length : Int32) (c_row_signs : Nat → Int32) (c_saves_held : Int32) (c_saves_slots : Nat → Int32) (c_smooth_all : Nat → Int32) (c_smooth_inCell : Nat → Int32) (c_smooth_madeFor : Nat → Int32) (c_smooth_starting : Nat → Int32) (c_smooth_weight : Nat → Int32) (c_work_length : Int32) (c_work_signs : Nat → Int32) : Option (Nat × Int32 × Int32 × (Nat → Int32) × Int32 × (Nat → Int32) × Int32 × (Nat → Int32) × (Nat → Int32) × (Nat → Int32) × (Nat → Int32) × (Nat → Int32) × (Nat → Int32) × Int32 × (Nat → Int32)) :=
  (F_X5_smoothRank c_bag_total c_bag_often c_row_length c_row_signs c_smooth_all c_smooth_inCell c_smooth_madeFor c_smooth_starting c_smooth_weight).bind (fun r1 =>
  (F_X1_length c_row_length).bind (fun r12 =>
  (F_X1_isSmooth c_row_length c_row_signs r12).bind (fun r15 =>
  F_X5_nextSmooth_T_J26 c_gone r1.2.1 r1.2.2.1 c_row_length c_row_signs c_saves_held c_saves_slots r1.2.2.2.1 r1.2.2.2.2.1 r1.2.2.2.2.2.1 r1.2.2.2.2.2.2.1 r1.2.2.2.2.2.2.2 c_work_length c_work_signs r1.1 (if r15 = 0 then (0 : Int32) else (1 : Int32)))))
def F_X5_goToSmooth_T (c_gone : Int32) (c_bag_total : Int32) (c_bag_often : Nat → Int32) (c_row_length : Int32) (c_row_signs : Nat → Int32) (c_saves_held : Int32) (c_saves_slots : Nat → Int32) (c_smooth_all : Nat → Int32) (c_smooth_inCell : Nat → Int32) (c_smooth_madeFor : Nat → Int32) (c_smooth_starting : Nat → Int32) (c_smooth_weight : Nat → Int32) (c_work_length : Int32) (c_work_signs : Nat → Int32) (x1 : Int32) : Option (Nat × Int32 × Int32 × (Nat → Int32) × Int32 × (Nat → Int32) × Int32 × (Nat → Int32) × (Nat → Int32) × (Nat → Int32) × (Nat → Int32) × (Nat → Int32) × (Nat → Int32) × Int32 × (Nat → Int32)) :=
  if x1 < 0 then
    some (1, c_gone, c_bag_total, c_bag_often, c_row_length, c_row_signs, c_saves_held, c_saves_slots, c_smooth_all, c_smooth_inCell, c_smooth_madeFor, c_smooth_starting, c_smooth_weight, c_work_length, c_work_signs)
  else
    (F_X5_allSmooth c_bag_total c_bag_often c_row_length c_row_signs c_smooth_all c_smooth_inCell c_smooth_madeFor c_smooth_starting c_smooth_weight).bind (fun r6 =>
    if x1 < r6.1 then
      none
    else
      some (1, c_gone, r6.2.1, r6.2.2.1, c_row_length, c_row_signs, c_saves_held, c_saves_slots, r6.2.2.2.1, r6.2.2.2.2.1, r6.2.2.2.2.2.1, r6.2.2.2.2.2.2.1, r6.2.2.2.2.2.2.2, c_work_length, c_work_signs))
def F_X5_swap_T (c_gone : Int32) (c_bag_total : Int32) (c_bag_often : Nat → Int32) (c_row_length : Int32) (c_row_signs : Nat → Int32) (c_saves_held : Int32) (c_saves_slots : Nat → Int32) (x1 : Int32) (x2 : Int32) : Option (Nat × Int32 × (Nat → Int32) × (Nat → Int32) × Int32 × (Nat → Int32)) :=
  opc (F_X5_needPlace_T c_row_length x1) (fun q2 => some (q2, c_bag_total, c_bag_often, c_row_signs, c_saves_held, c_saves_slots))
  ((F_X5_needPlace c_row_length x1).bind (fun r2 =>
  opc (F_X5_needPlace_T c_row_length x2) (fun q7 => some (q7, c_bag_total, c_bag_often, c_row_signs, c_saves_held, c_saves_slots))
  (none)))
def F_X5_turn_T_J20 (c_gone : Int32) (c_row_length : Int32) (x1 : Int32) (x2 : Int32) (c_bag_total : Int32) (c_bag_often : Nat → Int32) (c_row_signs : Nat → Int32) (c_saves_held : Int32) (c_saves_slots : Nat → Int32) (v0 : Int32) : Option (Nat × Int32 × (Nat → Int32) × (Nat → Int32) × Int32 × (Nat → Int32)) :=
  opc (F_X5_need_T v0) (fun q20 => some (q20, c_bag_total, c_bag_often, c_row_signs, c_saves_held, c_saves_slots))
  (none)
def F_X5_turn_T (c_gone : Int32) (c_bag_total : Int32) (c_bag_often : Nat → Int32) (c_row_length : Int32) (c_row_signs : Nat → Int32) (c_saves_held : Int32) (c_saves_slots : Nat → Int32) (x1 : Int32) (x2 : Int32) : Option (Nat × Int32 × (Nat → Int32) × (Nat → Int32) × Int32 × (Nat → Int32)) :=
  opc (F_X5_needPlace_T c_row_length x1) (fun q2 => some (q2, c_bag_total, c_bag_often, c_row_signs, c_saves_held, c_saves_slots))
  ((F_X5_needPlace c_row_length x1).bind (fun r2 =>
  opc (F_X5_needPlace_T c_row_length x2) (fun q7 => some (q7, c_bag_total, c_bag_often, c_row_signs, c_saves_held, c_saves_slots))
  ((F_X5_needPlace c_row_length x2).bind (fun r7 =>
  F_X5_turn_T_J20 c_gone c_row_length x1 x2 c_bag_total c_bag_often c_row_signs c_saves_held c_saves_slots (if x2 < x1 then (0 : Int32) else (1 : Int32))))))
def F_X5_carry_T_J20 (c_gone : Int32) (c_row_length : Int32) (x1 : Int32) (x2 : Int32) (c_row_signs : Nat → Int32) (c_saves_held : Int32) (c_saves_slots : Nat → Int32) (v0 : Int32) : Option (Nat × (Nat → Int32) × Int32 × (Nat → Int32)) :=
  opc (F_X5_need_T v0) (fun q20 => some (q20, c_row_signs, c_saves_held, c_saves_slots))
  (none)
def F_X5_carry_T (c_gone : Int32) (c_row_length : Int32) (c_row_signs : Nat → Int32) (c_saves_held : Int32) (c_saves_slots : Nat → Int32) (x1 : Int32) (x2 : Int32) : Option (Nat × (Nat → Int32) × Int32 × (Nat → Int32)) :=
  opc (F_X5_needPlace_T c_row_length x1) (fun q2 => some (q2, c_row_signs, c_saves_held, c_saves_slots))
  ((F_X5_needPlace c_row_length x1).bind (fun r2 =>
  F_X5_carry_T_J20 c_gone c_row_length x1 x2 c_row_signs c_saves_held c_saves_slots (if x2 < 0 then (0 : Int32) else (if (20 : Int32) < x2 then (0 : Int32) else (1 : Int32)))))
def F_X5_put_T (c_gone : Int32) (c_bag_total : Int32) (c_bag_often : Nat → Int32) (c_row_length : Int32) (c_row_signs : Nat → Int32) (c_saves_held : Int32) (c_saves_slots : Nat → Int32) (x1 : Int32) (x2 : Int32) : Option (Nat × Int32 × (Nat → Int32) × Int32 × (Nat → Int32) × Int32 × (Nat → Int32)) :=
  if x1 < 0 then
    some (3, c_bag_total, c_bag_often, c_row_length, c_row_signs, c_saves_held, c_saves_slots)
  else
    (F_X1_length c_row_length).bind (fun r9 =>
    if x1 ≤ r9 then
      opc (F_X5_needSign_T x2) (fun q26 => some (q26, c_bag_total, c_bag_often, c_row_length, c_row_signs, c_saves_held, c_saves_slots))
      ((F_X5_needSign x2).bind (fun r26 =>
      (F_X1_length c_row_length).bind (fun r33 =>
      if r33 < (11 : Int32) then
        none
      else
        some (2, c_bag_total, c_bag_often, c_row_length, c_row_signs, c_saves_held, c_saves_slots))))
    else
      some (3, c_bag_total, c_bag_often, c_row_length, c_row_signs, c_saves_held, c_saves_slots))
def F_X5_take_T (c_gone : Int32) (c_row_length : Int32) (c_row_signs : Nat → Int32) (c_saves_held : Int32) (c_saves_slots : Nat → Int32) (x1 : Int32) : Option (Nat × Int32 × (Nat → Int32) × Int32 × (Nat → Int32)) :=
  opc (F_X5_needPlace_T c_row_length x1) (fun q2 => some (q2, c_row_length, c_row_signs, c_saves_held, c_saves_slots))
  ((F_X5_needPlace c_row_length x1).bind (fun r2 =>
  (F_X1_length c_row_length).bind (fun r9 =>
  if (1 : Int32) < r9 then
    none
  else
    some (2, c_row_length, c_row_signs, c_saves_held, c_saves_slots))))
def F_X5_append_T_J17 (x1 : Int32) (c_text_length : Int32) (c_text_codes : Nat → Int32) (v0 : Int32) : Option (Nat × Int32 × (Nat → Int32)) :=
  opc (F_X5_need_T v0) (fun q17 => some (q17, c_text_length, c_text_codes))
  ((F_X5_need v0).bind (fun r17 =>
  (F_X4_length c_text_length).bind (fun r24 =>
  if r24 < (60 : Int32) then
    none
  else
    some (2, c_text_length, c_text_codes))))
def F_X5_append_T (c_text_length : Int32) (c_text_codes : Nat → Int32) (x1 : Int32) : Option (Nat × Int32 × (Nat → Int32)) :=
  F_X5_append_T_J17 x1 c_text_length c_text_codes (if x1 < (33 : Int32) then (0 : Int32) else (if (126 : Int32) < x1 then (0 : Int32) else (1 : Int32)))
def F_X5_read_T (c_gone : Int32) (c_bag_total : Int32) (c_bag_often : Nat → Int32) (c_row_length : Int32) (c_row_signs : Nat → Int32) (c_saves_held : Int32) (c_saves_slots : Nat → Int32) (c_text_length : Int32) (c_text_codes : Nat → Int32) : Option (Nat × Int32 × (Nat → Int32) × Int32 × (Nat → Int32) × Int32 × (Nat → Int32) × Int32) :=
  (F_X4_length c_text_length).bind (fun r4 =>
  if r4 = 0 then
    some (1, c_bag_total, c_bag_often, c_row_length, c_row_signs, c_saves_held, c_saves_slots, c_text_length)
  else
    (F_X4_firstBad c_text_length c_text_codes).bind (fun r14 =>
    (F_X4_length c_text_length).bind (fun r21 =>
    if r21 ≤ r14 then
      none
    else
      some (1, c_bag_total, c_bag_often, c_row_length, c_row_signs, c_saves_held, c_saves_slots, c_text_length))))
def F_X5_undo_T (c_gone : Int32) (c_row_length : Int32) (c_row_signs : Nat → Int32) (c_saves_held : Int32) (c_saves_slots : Nat → Int32) : Option (Nat × Int32 × Int32 × (Nat → Int32) × Int32) :=
  (F_X2_held c_saves_held).bind (fun r4 =>
  if r4 = 0 then
    some (2, c_gone, c_row_length, c_row_signs, c_saves_held)
  else
    none)
def F_X5_sign_T (c_row_length : Int32) (c_row_signs : Nat → Int32) (x1 : Int32) : Option (Nat) :=
  opc (F_X5_needPlace_T c_row_length x1) (fun q2 => some q2)
  (none)
def F_X5_digit_T (c_bag_total : Int32) (c_bag_often : Nat → Int32) (c_row_length : Int32) (c_row_signs : Nat → Int32) (x1 : Int32) : Option (Nat × Int32 × (Nat → Int32)) :=
  opc (F_X5_needPlace_T c_row_length x1) (fun q2 => some (q2, c_bag_total, c_bag_often))
  (none)
def F_X5_many_T (c_bag_total : Int32) (c_bag_often : Nat → Int32) (c_row_length : Int32) (c_row_signs : Nat → Int32) (x1 : Int32) : Option (Nat × Int32 × (Nat → Int32)) :=
  opc (F_X5_needSign_T x1) (fun q1 => some (q1, c_bag_total, c_bag_often))
  (none)
def F_X5_block_T_J29 (c_row_length : Int32) (c_row_signs : Nat → Int32) (x1 : Int32) (x2 : Int32) (c_bag_total : Int32) (c_bag_often : Nat → Int32) (c_smooth_all : Nat → Int32) (c_smooth_inCell : Nat → Int32) (c_smooth_madeFor : Nat → Int32) (c_smooth_starting : Nat → Int32) (c_smooth_weight : Nat → Int32) (v0 : Int32) : Option (Nat × Int32 × (Nat → Int32) × (Nat → Int32) × (Nat → Int32) × (Nat → Int32) × (Nat → Int32) × (Nat → Int32)) :=
  opc (F_X5_need_T v0) (fun q29 => some (q29, c_bag_total, c_bag_often, c_smooth_all, c_smooth_inCell, c_smooth_madeFor, c_smooth_starting, c_smooth_weight))
  (none)
def F_X5_block_T (c_bag_total : Int32) (c_bag_often : Nat → Int32) (c_row_length : Int32) (c_row_signs : Nat → Int32) (c_smooth_all : Nat → Int32) (c_smooth_inCell : Nat → Int32) (c_smooth_madeFor : Nat → Int32) (c_smooth_starting : Nat → Int32) (c_smooth_weight : Nat → Int32) (x1 : Int32) (x2 : Int32) : Option (Nat × Int32 × (Nat → Int32) × (Nat → Int32) × (Nat → Int32) × (Nat → Int32) × (Nat → Int32) × (Nat → Int32)) :=
  if x1 < 0 then
    F_X5_block_T_J29 c_row_length c_row_signs x1 x2 c_bag_total c_bag_often c_smooth_all c_smooth_inCell c_smooth_madeFor c_smooth_starting c_smooth_weight (0 : Int32)
  else
    (F_X1_length c_row_length).bind (fun r9 =>
    F_X5_block_T_J29 c_row_length c_row_signs x1 x2 c_bag_total c_bag_often c_smooth_all c_smooth_inCell c_smooth_madeFor c_smooth_starting c_smooth_weight (if r9 < x1 then (0 : Int32) else (if x2 < 0 then (0 : Int32) else (if (3 : Int32) ≤ x2 then (0 : Int32) else (1 : Int32)))))
def F_X5_count_T_J15 (c_gone : Int32) (c_row_length : Int32) (c_row_signs : Nat → Int32) (c_saves_held : Int32) (x1 : Int32) (c_bag_total : Int32) (c_bag_often : Nat → Int32) (c_smooth_all : Nat → Int32) (c_smooth_inCell : Nat → Int32) (c_smooth_madeFor : Nat → Int32) (c_smooth_starting : Nat → Int32) (c_smooth_weight : Nat → Int32) (c_work_length : Int32) (c_work_signs : Nat → Int32) (v0 : Int32) : Option (Nat × Int32 × (Nat → Int32) × (Nat → Int32) × (Nat → Int32) × (Nat → Int32) × (Nat → Int32) × (Nat → Int32) × Int32 × (Nat → Int32)) :=
  opc (F_X5_need_T v0) (fun q15 => some (q15, c_bag_total, c_bag_often, c_smooth_all, c_smooth_inCell, c_smooth_madeFor, c_smooth_starting, c_smooth_weight, c_work_length, c_work_signs))
  (none)
def F_X5_count_T (c_gone : Int32) (c_bag_total : Int32) (c_bag_often : Nat → Int32) (c_row_length : Int32) (c_row_signs : Nat → Int32) (c_saves_held : Int32) (c_smooth_all : Nat → Int32) (c_smooth_inCell : Nat → Int32) (c_smooth_madeFor : Nat → Int32) (c_smooth_starting : Nat → Int32) (c_smooth_weight : Nat → Int32) (c_work_length : Int32) (c_work_signs : Nat → Int32) (x1 : Int32) : Option (Nat × Int32 × (Nat → Int32) × (Nat → Int32) × (Nat → Int32) × (Nat → Int32) × (Nat → Int32) × (Nat → Int32) × Int32 × (Nat → Int32)) :=
  F_X5_count_T_J15 c_gone c_row_length c_row_signs c_saves_held x1 c_bag_total c_bag_often c_smooth_all c_smooth_inCell c_smooth_madeFor c_smooth_starting c_smooth_weight c_work_length c_work_signs (if x1 < 0 then (0 : Int32) else (if (14 : Int32) ≤ x1 then (0 : Int32) else (1 : Int32)))
def F_X5_ifSwapped_T (c_bag_total : Int32) (c_bag_often : Nat → Int32) (c_row_length : Int32) (c_row_signs : Nat → Int32) (c_work_length : Int32) (c_work_signs : Nat → Int32) (x1 : Int32) (x2 : Int32) : Option (Nat × Int32 × (Nat → Int32) × Int32 × (Nat → Int32)) :=
  opc (F_X5_needPlace_T c_row_length x1) (fun q2 => some (q2, c_bag_total, c_bag_often, c_work_length, c_work_signs))
  ((F_X5_needPlace c_row_length x1).bind (fun r2 =>
  opc (F_X5_needPlace_T c_row_length x2) (fun q7 => some (q7, c_bag_total, c_bag_often, c_work_length, c_work_signs))
  (none)))
def F_X5_signOf_T (c_bag_total : Int32) (c_bag_often : Nat → Int32) (c_row_length : Int32) (c_row_signs : Nat → Int32) (c_work_length : Int32) (c_work_signs : Nat → Int32) (x1 : Int32) (x2 : Int32) : Option (Nat × Int32 × (Nat → Int32) × Int32 × (Nat → Int32)) :=
  opc (F_X5_needPlace_T c_row_length x2) (fun q2 => some (q2, c_bag_total, c_bag_often, c_work_length, c_work_signs))
  ((F_X5_needPlace c_row_length x2).bind (fun r2 =>
  opc (F_X5_needRank_T c_bag_total c_bag_often c_row_length c_row_signs x1) (fun q7 => some (q7.1, q7.2.1, q7.2.2, c_work_length, c_work_signs))
  (none)))
def F_X5_having_T_J27 (c_row_length : Int32) (c_row_signs : Nat → Int32) (x1 : Int32) (x2 : Int32) (x3 : Int32) (x4 : Int32) (c_bag_total : Int32) (c_bag_often : Nat → Int32) (c_work_length : Int32) (c_work_signs : Nat → Int32) (v0 : Int32) : Option (Nat × Int32 × (Nat → Int32) × Int32 × (Nat → Int32)) :=
  opc (F_X5_need_T v0) (fun q27 => some (q27, c_bag_total, c_bag_often, c_work_length, c_work_signs))
  ((F_X5_need v0).bind (fun r27 =>
  opc (F_X5_needSign_T x4) (fun q32 => some (q32, c_bag_total, c_bag_often, c_work_length, c_work_signs))
  (none)))
def F_X5_having_T (c_bag_total : Int32) (c_bag_often : Nat → Int32) (c_row_length : Int32) (c_row_signs : Nat → Int32) (c_work_length : Int32) (c_work_signs : Nat → Int32) (x1 : Int32) (x2 : Int32) (x3 : Int32) (x4 : Int32) : Option (Nat × Int32 × (Nat → Int32) × Int32 × (Nat → Int32)) :=
  opc (F_X5_needPlace_T c_row_length x3) (fun q2 => some (q2, c_bag_total, c_bag_often, c_work_length, c_work_signs))
  ((F_X5_needPlace c_row_length x3).bind (fun r2 =>
  if x1 < 0 then
    F_X5_having_T_J27 c_row_length c_row_signs x1 x2 x3 x4 c_bag_total c_bag_often c_work_length c_work_signs (0 : Int32)
  else
    if x2 < x1 then
      F_X5_having_T_J27 c_row_length c_row_signs x1 x2 x3 x4 c_bag_total c_bag_often c_work_length c_work_signs (0 : Int32)
    else
      (F_X5_all c_bag_total c_bag_often c_row_length c_row_signs).bind (fun r16 =>
      F_X5_having_T_J27 c_row_length c_row_signs x1 x2 x3 x4 r16.2.1 r16.2.2 c_work_length c_work_signs (if r16.1 < x2 then (0 : Int32) else (1 : Int32)))))
def F_X5_stepsTo_T (c_bag_total : Int32) (c_bag_often : Nat → Int32) (c_rest_length : Int32) (c_rest_signs : Nat → Int32) (c_row_length : Int32) (c_row_signs : Nat → Int32) (c_work_length : Int32) (c_work_signs : Nat → Int32) (x1 : Int32) : Option (Nat × Int32 × (Nat → Int32) × Int32 × (Nat → Int32) × Int32 × (Nat → Int32)) :=
  opc (F_X5_needRank_T c_bag_total c_bag_often c_row_length c_row_signs x1) (fun q2 => some (q2.1, q2.2.1, q2.2.2, c_rest_length, c_rest_signs, c_work_length, c_work_signs))
  (none)
def F_X5_bestSwap_T_J14 (c_row_length : Int32) (c_row_signs : Nat → Int32) (x1 : Int32) (c_bag_total : Int32) (c_bag_often : Nat → Int32) (c_work_length : Int32) (c_work_signs : Nat → Int32) (v0 : Int32) : Option (Nat × Int32 × (Nat → Int32) × Int32 × (Nat → Int32)) :=
  opc (F_X5_need_T v0) (fun q14 => some (q14, c_bag_total, c_bag_often, c_work_length, c_work_signs))
  (none)
def F_X5_bestSwap_T (c_bag_total : Int32) (c_bag_often : Nat → Int32) (c_row_length : Int32) (c_row_signs : Nat → Int32) (c_work_length : Int32) (c_work_signs : Nat → Int32) (x1 : Int32) : Option (Nat × Int32 × (Nat → Int32) × Int32 × (Nat → Int32)) :=
  F_X5_bestSwap_T_J14 c_row_length c_row_signs x1 c_bag_total c_bag_often c_work_length c_work_signs (if x1 < 0 then (0 : Int32) else (if (3 : Int32) ≤ x1 then (0 : Int32) else (1 : Int32)))
