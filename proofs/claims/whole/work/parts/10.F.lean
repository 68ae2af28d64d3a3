def F_X0_total (c_total : Int32) : Option (Int32) :=
  some c_total
def F_X0_of (c_often : Nat → Int32) (x1 : Int32) : Option (Int32) :=
  if x1 < 0 then
    some (0 : Int32)
  else
    if (6 : Int32) ≤ x1 then
      some (0 : Int32)
    else
      gd (vin x1 6) (
      some (c_often (x1).toNatClampNeg))
def F_X0_add (c_total : Int32) (c_often : Nat → Int32) (x1 : Int32) : Option (Int32 × (Nat → Int32)) :=
  if x1 < 0 then
    some (c_total, c_often)
  else
    if (6 : Int32) ≤ x1 then
      some (c_total, c_often)
    else
      gd (vin x1 6) (
      gd (vin x1 6) (
      some (c_total + (1 : Int32), (upd c_often (x1).toNatClampNeg ((c_often (x1).toNatClampNeg) + (1 : Int32))))))
def F_X0_drop (c_total : Int32) (c_often : Nat → Int32) (x1 : Int32) : Option (Int32 × (Nat → Int32)) :=
  if x1 < 0 then
    some (c_total, c_often)
  else
    if (6 : Int32) ≤ x1 then
      some (c_total, c_often)
    else
      gd (vin x1 6) (
      if (c_often (x1).toNatClampNeg) ≤ 0 then
        some (c_total, c_often)
      else
        gd (vin x1 6) (
        gd (vin x1 6) (
        some (c_total - (1 : Int32), (upd c_often (x1).toNatClampNeg ((c_often (x1).toNatClampNeg) - (1 : Int32)))))))
def F_X1_length (c_length : Int32) : Option (Int32) :=
  some c_length
def F_X1_at (c_length : Int32) (c_signs : Nat → Int32) (x1 : Int32) : Option (Int32) :=
  if x1 < 0 then
    some (0 : Int32)
  else
    if c_length ≤ x1 then
      some (0 : Int32)
    else
      if (11 : Int32) ≤ x1 then
        some (0 : Int32)
      else
        gd (vin x1 11) (
        some (c_signs (x1).toNatClampNeg))
def F_X0_fill_L28 (c_p_length : Int32) (c_p_signs : Nat → Int32) (x2 : Int32) : Nat → Int32 → (Nat → Int32) → Int32 → Option (Int32 × (Nat → Int32))
  | 0, _, _, _ => none
  | n + 1, c_total, c_often, x3 =>
    (F_X1_length c_p_length).bind (fun r30 =>
    if r30 ≤ x3 then
      some (c_total, c_often)
    else
      (F_X1_at c_p_length c_p_signs x3).bind (fun r39 =>
      (F_X0_add c_total c_often r39).bind (fun r42 =>
      F_X0_fill_L28 c_p_length c_p_signs x2 n r42.1 r42.2 (x3 + 1))))
def F_X0_fill_L7 (c_p_length : Int32) (c_p_signs : Nat → Int32) (x2 : Int32) : Nat → Int32 → (Nat → Int32) → Int32 → Option (Int32 × (Nat → Int32))
  | 0, _, _, _ => none
  | n + 1, c_total, c_often, x3 =>
    if (6 : Int32) ≤ x3 then
      F_X0_fill_L28 c_p_length c_p_signs x2 FU c_total c_often x2
    else
      gd (vin x3 6) (
      F_X0_fill_L7 c_p_length c_p_signs x2 n c_total (upd c_often (x3).toNatClampNeg (0 : Int32)) (x3 + 1))
def F_X0_fill (c_total : Int32) (c_often : Nat → Int32) (c_p_length : Int32) (c_p_signs : Nat → Int32) (x2 : Int32) : Option (Int32 × (Nat → Int32)) :=
  F_X0_fill_L7 c_p_length c_p_signs x2 FU (0 : Int32) c_often (0 : Int32)
def F_X0_below_L4 (c_often : Nat → Int32) (x1 : Int32) : Nat → Int32 → Int32 → Option (Int32)
  | 0, _, _ => none
  | n + 1, x2, x3 =>
    if x1 ≤ x3 then
      some x2
    else
      (F_X0_of c_often x3).bind (fun r12 =>
      F_X0_below_L4 c_often x1 n (x2 + r12) (x3 + 1))
def F_X0_below (c_often : Nat → Int32) (x1 : Int32) : Option (Int32) :=
  F_X0_below_L4 c_often x1 FU (0 : Int32) (0 : Int32)
def F_X0_unlikeBelow_L4 (c_often : Nat → Int32) (x1 : Int32) : Nat → Int32 → Int32 → Option (Int32)
  | 0, _, _ => none
  | n + 1, x2, x3 =>
    if x1 ≤ x3 then
      some x2
    else
      (F_X0_of c_often x3).bind (fun r12 =>
      F_X0_unlikeBelow_L4 c_often x1 n (if r12 ≤ 0 then x2 + (0 : Int32) else x2 + (1 : Int32)) (x3 + 1))
def F_X0_unlikeBelow (c_often : Nat → Int32) (x1 : Int32) : Option (Int32) :=
  F_X0_unlikeBelow_L4 c_often x1 FU (0 : Int32) (0 : Int32)
def F_X0_factorial (x0 : Int32) : Option (Int32) :=
  if x0 < 0 then
    some (0 : Int32)
  else
    if (12 : Int32) ≤ x0 then
      some (0 : Int32)
    else
      gd (vin x0 12) (
      some (kF (x0).toNatClampNeg))
def F_X0_ways_L10 (c_total : Int32) (c_often : Nat → Int32) : Nat → Int32 → Int32 → Option (Int32)
  | 0, _, _ => none
  | n + 1, x1, x2 =>
    if (6 : Int32) ≤ x2 then
      some x1
    else
      gd (vin x2 6) (
      (F_X0_factorial (c_often (x2).toNatClampNeg)).bind (fun r22 =>
      if r22 ≤ 0 then
        F_X0_ways_L10 c_total c_often n (0 : Int32) (x2 + 1)
      else
        gd (nz r22) (
        F_X0_ways_L10 c_total c_often n (x1 / r22) (x2 + 1))))
def F_X0_ways (c_total : Int32) (c_often : Nat → Int32) : Option (Int32) :=
  (F_X0_factorial c_total).bind (fun r4 =>
  F_X0_ways_L10 c_total c_often FU r4 (0 : Int32))
def F_X0_waysBehind (c_total : Int32) (c_often : Nat → Int32) (x1 : Int32) : Option (Int32 × Int32 × (Nat → Int32)) :=
  (F_X0_of c_often x1).bind (fun r2 =>
  if r2 = 0 then
    some ((0 : Int32), c_total, c_often)
  else
    (F_X0_drop c_total c_often x1).bind (fun r12 =>
    (F_X0_ways r12.1 r12.2).bind (fun r16 =>
    (F_X0_add r12.1 r12.2 x1).bind (fun r22 =>
    some (r16, r22.1, r22.2)))))
def F_X1_has (c_length : Int32) (x1 : Int32) : Option (Int32) :=
  some (if x1 < 0 then (0 : Int32) else (if c_length ≤ x1 then (0 : Int32) else (if (11 : Int32) ≤ x1 then (0 : Int32) else (1 : Int32))))
def F_X1_set (c_length : Int32) (c_signs : Nat → Int32) (x1 : Int32) (x2 : Int32) : Option ((Nat → Int32)) :=
  if x1 < 0 then
    some c_signs
  else
    if c_length ≤ x1 then
      some c_signs
    else
      if (11 : Int32) ≤ x1 then
        some c_signs
      else
        gd (vin x1 11) (
        some (upd c_signs (x1).toNatClampNeg x2))
def F_X1_clear (c_length : Int32) : Option (Int32) :=
  some (0 : Int32)
def F_X1_add (c_length : Int32) (c_signs : Nat → Int32) (x1 : Int32) : Option (Int32 × (Nat → Int32)) :=
  if (11 : Int32) ≤ c_length then
    some (c_length, c_signs)
  else
    (F_X1_set (c_length + (1 : Int32)) c_signs ((c_length + (1 : Int32)) - (1 : Int32)) x1).bind (fun r27 =>
    some (c_length + (1 : Int32), r27))
def F_X1_exchange (c_length : Int32) (c_signs : Nat → Int32) (x1 : Int32) (x2 : Int32) : Option ((Nat → Int32)) :=
  (F_X1_at c_length c_signs x1).bind (fun r2 =>
  (F_X1_at c_length c_signs x2).bind (fun r10 =>
  (F_X1_set c_length c_signs x1 r10).bind (fun r13 =>
  (F_X1_set c_length r13 x2 r2).bind (fun r19 =>
  some r19))))
def F_X1_bringAhead_L2 (c_length : Int32) (x1 : Int32) (x2 : Int32) : Nat → (Nat → Int32) → Int32 → Option ((Nat → Int32))
  | 0, _, _ => none
  | n + 1, c_signs, x3 =>
    if x3 ≤ x2 then
      some c_signs
    else
      (F_X1_exchange c_length c_signs x3 (x3 - (1 : Int32))).bind (fun r12 =>
      F_X1_bringAhead_L2 c_length x1 x2 n r12 (x3 + (-1)))
def F_X1_bringAhead (c_length : Int32) (c_signs : Nat → Int32) (x1 : Int32) (x2 : Int32) : Option ((Nat → Int32)) :=
  F_X1_bringAhead_L2 c_length x1 x2 FU c_signs x1
def F_X1_insert (c_length : Int32) (c_signs : Nat → Int32) (x1 : Int32) (x2 : Int32) : Option (Int32 × (Nat → Int32)) :=
  (F_X1_add c_length c_signs x2).bind (fun r2 =>
  (F_X1_bringAhead r2.1 r2.2 (r2.1 - (1 : Int32)) x1).bind (fun r13 =>
  some (r2.1, r13)))
def F_X1_remove_L2 (x1 : Int32) : Nat → Int32 → (Nat → Int32) → Int32 → Option (Int32 × (Nat → Int32))
  | 0, _, _, _ => none
  | n + 1, c_length, c_signs, x2 =>
    if (c_length - (1 : Int32)) ≤ x2 then
      (F_X1_has c_length x1).bind (fun r32 =>
      some ((if r32 = 0 then c_length else c_length - (1 : Int32)), c_signs))
    else
      (F_X1_at c_length c_signs (x2 + (1 : Int32))).bind (fun r18 =>
      (F_X1_set c_length c_signs x2 r18).bind (fun r21 =>
      F_X1_remove_L2 x1 n c_length r21 (x2 + 1)))
def F_X1_remove (c_length : Int32) (c_signs : Nat → Int32) (x1 : Int32) : Option (Int32 × (Nat → Int32)) :=
  F_X1_remove_L2 x1 FU c_length c_signs x1
def F_X1_become_L7 (c_p_length : Int32) (c_p_signs : Nat → Int32) : Nat → Int32 → (Nat → Int32) → Int32 → Option (Int32 × (Nat → Int32))
  | 0, _, _, _ => none
  | n + 1, c_length, c_signs, x2 =>
    if c_p_length ≤ x2 then
      some (c_length, c_signs)
    else
      (F_X1_at c_p_length c_p_signs x2).bind (fun r18 =>
      (F_X1_add c_length c_signs r18).bind (fun r21 =>
      F_X1_become_L7 c_p_length c_p_signs n r21.1 r21.2 (x2 + 1)))
def F_X1_become (c_length : Int32) (c_signs : Nat → Int32) (c_p_length : Int32) (c_p_signs : Nat → Int32) : Option (Int32 × (Nat → Int32)) :=
  F_X1_become_L7 c_p_length c_p_signs FU (0 : Int32) c_signs (0 : Int32)
def F_X1_reverse_L5 (c_length : Int32) (x1 : Int32) (x2 : Int32) : Nat → (Nat → Int32) → Int32 → Int32 → Option ((Nat → Int32))
  | 0, _, _, _ => none
  | n + 1, c_signs, x3, x4 =>
    if x3 ≤ x4 then
      some c_signs
    else
      (F_X1_exchange c_length c_signs x4 x3).bind (fun r15 =>
      F_X1_reverse_L5 c_length x1 x2 n r15 (x3 + (-1)) (x4 + 1))
def F_X1_reverse (c_length : Int32) (c_signs : Nat → Int32) (x1 : Int32) (x2 : Int32) : Option ((Nat → Int32)) :=
  F_X1_reverse_L5 c_length x1 x2 FU c_signs x2 x1
def F_X1_roll (c_length : Int32) (c_signs : Nat → Int32) : Option ((Nat → Int32)) :=
  (F_X1_bringAhead c_length c_signs (c_length - (1 : Int32)) (0 : Int32)).bind (fun r8 =>
  some r8)
def F_X1_find_L2 (c_length : Int32) (c_signs : Nat → Int32) (x1 : Int32) (x2 : Int32) : Nat → Int32 → Option (Int32)
  | 0, _ => none
  | n + 1, x3 =>
    if c_length ≤ x3 then
      some x2
    else
      (F_X1_at c_length c_signs x3).bind (fun r12 =>
      if r12 = x1 then
        some x3
      else
        F_X1_find_L2 c_length c_signs x1 x2 n (x3 + 1))
def F_X1_find (c_length : Int32) (c_signs : Nat → Int32) (x1 : Int32) (x2 : Int32) : Option (Int32) :=
  F_X1_find_L2 c_length c_signs x1 x2 FU x2
def F_X1_placesUnlike_L4 (c_length : Int32) (c_signs : Nat → Int32) (c_p_length : Int32) (c_p_signs : Nat → Int32) : Nat → Int32 → Int32 → Option (Int32)
  | 0, _, _ => none
  | n + 1, x2, x3 =>
    if c_length ≤ x3 then
      some x2
    else
      (F_X1_at c_length c_signs x3).bind (fun r15 =>
      (F_X1_at c_p_length c_p_signs x3).bind (fun r20 =>
      F_X1_placesUnlike_L4 c_length c_signs c_p_length c_p_signs n (if r15 = r20 then x2 + (0 : Int32) else x2 + (1 : Int32)) (x3 + 1)))
def F_X1_placesUnlike (c_length : Int32) (c_signs : Nat → Int32) (c_p_length : Int32) (c_p_signs : Nat → Int32) : Option (Int32) :=
  F_X1_placesUnlike_L4 c_length c_signs c_p_length c_p_signs FU (0 : Int32) (0 : Int32)
def F_X1_isSmooth_L2 (c_length : Int32) (c_signs : Nat → Int32) (x1 : Int32) : Nat → Int32 → Option (Int32)
  | 0, _ => none
  | n + 1, x2 =>
    if x1 ≤ x2 then
      some (1 : Int32)
    else
      (F_X1_at c_length c_signs x2).bind (fun r9 =>
      (F_X1_at c_length c_signs (x2 - (1 : Int32))).bind (fun r16 =>
      if r9 = r16 then
        some (0 : Int32)
      else
        F_X1_isSmooth_L2 c_length c_signs x1 n (x2 + 1)))
def F_X1_isSmooth (c_length : Int32) (c_signs : Nat → Int32) (x1 : Int32) : Option (Int32) :=
  F_X1_isSmooth_L2 c_length c_signs x1 FU (1 : Int32)
def F_X1_inversions_L16 (k4 : Int32 → Int32 → Option (Int32)) (c_length : Int32) (c_signs : Nat → Int32) : Nat → Int32 → Int32 → Int32 → Option (Int32)
  | 0, _, _, _ => none
  | n + 1, x1, x2, x3 =>
    if c_length ≤ x3 then
      k4 x1 (x2 + 1)
    else
      (F_X1_at c_length c_signs x2).bind (fun r27 =>
      (F_X1_at c_length c_signs x3).bind (fun r32 =>
      F_X1_inversions_L16 k4 c_length c_signs n (if r27 ≤ r32 then x1 + (0 : Int32) else x1 + (1 : Int32)) x2 (x3 + 1)))
def F_X1_inversions_L4 (c_length : Int32) (c_signs : Nat → Int32) : Nat → Int32 → Int32 → Option (Int32)
  | 0, _, _ => none
  | n + 1, x1, x2 =>
    if c_length ≤ x2 then
      some x1
    else
      F_X1_inversions_L16 (F_X1_inversions_L4 c_length c_signs n) c_length c_signs FU x1 x2 (x2 + (1 : Int32))
def F_X1_inversions (c_length : Int32) (c_signs : Nat → Int32) : Option (Int32) :=
  F_X1_inversions_L4 c_length c_signs FU (0 : Int32) (0 : Int32)
def F_X1_fallsBehind (c_length : Int32) (c_signs : Nat → Int32) (x1 : Int32) : Option (Int32) :=
  if (c_length - (1 : Int32)) ≤ x1 then
    some (0 : Int32)
  else
    (F_X1_at c_length c_signs x1).bind (fun r12 =>
    (F_X1_at c_length c_signs (x1 + (1 : Int32))).bind (fun r19 =>
    some (if r12 ≤ r19 then (0 : Int32) else (1 : Int32))))
def F_X1_descents_L4 (c_length : Int32) (c_signs : Nat → Int32) : Nat → Int32 → Int32 → Option (Int32)
  | 0, _, _ => none
  | n + 1, x1, x2 =>
    if c_length ≤ x2 then
      some x1
    else
      (F_X1_fallsBehind c_length c_signs x2).bind (fun r15 =>
      F_X1_descents_L4 c_length c_signs n (if r15 = 0 then x1 + (0 : Int32) else x1 + (1 : Int32)) (x2 + 1))
def F_X1_descents (c_length : Int32) (c_signs : Nat → Int32) : Option (Int32) :=
  F_X1_descents_L4 c_length c_signs FU (0 : Int32) (0 : Int32)
def F_X1_majorIndex_L4 (c_length : Int32) (c_signs : Nat → Int32) : Nat → Int32 → Int32 → Option (Int32)
  | 0, _, _ => none
  | n + 1, x1, x2 =>
    if c_length ≤ x2 then
      some x1
    else
      (F_X1_fallsBehind c_length c_signs x2).bind (fun r15 =>
      F_X1_majorIndex_L4 c_length c_signs n (if r15 = 0 then x1 + (0 : Int32) else x1 + (x2 + (1 : Int32))) (x2 + 1))
def F_X1_majorIndex (c_length : Int32) (c_signs : Nat → Int32) : Option (Int32) :=
  F_X1_majorIndex_L4 c_length c_signs FU (0 : Int32) (0 : Int32)
def F_X2_held (c_held : Int32) : Option (Int32) :=
  some c_held
def F_X2_slot (c_slots : Nat → Int32) (x1 : Int32) : Option (Int32) :=
  if x1 < 0 then
    some (0 : Int32)
  else
    if (78 : Int32) ≤ x1 then
      some (0 : Int32)
    else
      gd (vin x1 78) (
      some (c_slots (x1).toNatClampNeg))
def F_X2_setSlot (c_slots : Nat → Int32) (x1 : Int32) (x2 : Int32) : Option ((Nat → Int32)) :=
  if x1 < 0 then
    some c_slots
  else
    if (78 : Int32) ≤ x1 then
      some c_slots
    else
      gd (vin x1 78) (
      some (upd c_slots (x1).toNatClampNeg x2))
def F_X2_dropOldest_L3 : Nat → Int32 → (Nat → Int32) → Int32 → Option (Int32 × (Nat → Int32))
  | 0, _, _, _ => none
  | n + 1, c_held, c_slots, x1 =>
    if (78 : Int32) ≤ x1 then
      some (c_held - (1 : Int32), c_slots)
    else
      (F_X2_slot c_slots x1).bind (fun r19 =>
      (F_X2_setSlot c_slots (x1 - (13 : Int32)) r19).bind (fun r22 =>
      F_X2_dropOldest_L3 n c_held r22 (x1 + 1)))
def F_X2_dropOldest (c_held : Int32) (c_slots : Nat → Int32) : Option (Int32 × (Nat → Int32)) :=
  F_X2_dropOldest_L3 FU c_held c_slots (13 : Int32)
def F_X2_keep_L41 (c_p_length : Int32) (c_p_signs : Nat → Int32) (x2 : Int32) : Nat → Int32 → (Nat → Int32) → Int32 → Int32 → Option (Int32 × (Nat → Int32))
  | 0, _, _, _, _ => none
  | n + 1, c_held, c_slots, x3, x4 =>
    (F_X1_length c_p_length).bind (fun r44 =>
    if r44 ≤ x4 then
      some (c_held + (1 : Int32), c_slots)
    else
      (F_X1_at c_p_length c_p_signs x4).bind (fun r60 =>
      (F_X2_setSlot c_slots ((x3 + (2 : Int32)) + x4) r60).bind (fun r63 =>
      F_X2_keep_L41 c_p_length c_p_signs x2 n c_held r63 x3 (x4 + 1))))
def F_X2_keep_J13 (c_p_length : Int32) (c_p_signs : Nat → Int32) (x2 : Int32) (c_held : Int32) (c_slots : Nat → Int32) : Option (Int32 × (Nat → Int32)) :=
  (F_X2_setSlot c_slots (c_held * (13 : Int32)) x2).bind (fun r24 =>
  (F_X1_length c_p_length).bind (fun r32 =>
  (F_X2_setSlot r24 ((c_held * (13 : Int32)) + (1 : Int32)) r32).bind (fun r35 =>
  F_X2_keep_L41 c_p_length c_p_signs x2 FU c_held r35 (c_held * (13 : Int32)) (0 : Int32))))
def F_X2_keep (c_held : Int32) (c_slots : Nat → Int32) (c_p_length : Int32) (c_p_signs : Nat → Int32) (x2 : Int32) : Option (Int32 × (Nat → Int32)) :=
  if c_held < (6 : Int32) then
    F_X2_keep_J13 c_p_length c_p_signs x2 c_held c_slots
  else
    (F_X2_dropOldest c_held c_slots).bind (fun r10 =>
    F_X2_keep_J13 c_p_length c_p_signs x2 r10.1 r10.2)
def F_X2_restore_J73 (c_slots : Nat → Int32) (c_held : Int32) (c_p_length : Int32) (c_p_signs : Nat → Int32) (x2 : Int32) : Option (Int32 × Int32 × Int32 × (Nat → Int32)) :=
  (F_X2_slot c_slots x2).bind (fun r75 =>
  some (r75, c_held, c_p_length, c_p_signs))
def F_X2_restore_L40 (c_slots : Nat → Int32) : Nat → Int32 → Int32 → (Nat → Int32) → Int32 → Int32 → Int32 → Option (Int32 × Int32 × Int32 × (Nat → Int32))
  | 0, _, _, _, _, _, _ => none
  | n + 1, c_held, c_p_length, c_p_signs, x2, x3, x4 =>
    if x3 ≤ x4 then
      F_X2_restore_J73 c_slots c_held c_p_length c_p_signs x2
    else
      if (11 : Int32) ≤ x4 then
        F_X2_restore_J73 c_slots c_held c_p_length c_p_signs x2
      else
        (F_X2_slot c_slots ((x2 + (2 : Int32)) + x4)).bind (fun r61 =>
        (F_X1_add c_p_length c_p_signs r61).bind (fun r64 =>
        F_X2_restore_L40 c_slots n c_held r64.1 r64.2 x2 x3 (x4 + 1)))
def F_X2_restore_J17 (c_slots : Nat → Int32) (c_held : Int32) (c_p_length : Int32) (c_p_signs : Nat → Int32) : Option (Int32 × Int32 × Int32 × (Nat → Int32)) :=
  (F_X2_slot c_slots ((c_held * (13 : Int32)) + (1 : Int32))).bind (fun r29 =>
  (F_X1_clear c_p_length).bind (fun r34 =>
  F_X2_restore_L40 c_slots FU c_held r34 c_p_signs (c_held * (13 : Int32)) r29 (0 : Int32)))
def F_X2_restore (c_held : Int32) (c_slots : Nat → Int32) (c_p_length : Int32) (c_p_signs : Nat → Int32) : Option (Int32 × Int32 × Int32 × (Nat → Int32)) :=
  F_X2_restore_J17 c_slots (if c_held ≤ 0 then c_held else c_held - (1 : Int32)) c_p_length c_p_signs
def F_X3_weigh_L4 (c_madeFor : Nat → Int32) : Nat → (Nat → Int32) → Int32 → Int32 → Option (Int32 × (Nat → Int32))
  | 0, _, _, _ => none
  | n + 1, c_weight, x1, x2 =>
    if (6 : Int32) ≤ x2 then
      some (x1, c_weight)
    else
      gd (vin x2 6) (
      gd (vin x2 6) (
      F_X3_weigh_L4 c_madeFor n (upd c_weight (x2).toNatClampNeg x1) (x1 * ((c_madeFor (x2).toNatClampNeg) + (1 : Int32))) (x2 + 1)))
def F_X3_weigh (c_madeFor : Nat → Int32) (c_weight : Nat → Int32) : Option (Int32 × (Nat → Int32)) :=
  F_X3_weigh_L4 c_madeFor FU c_weight (1 : Int32) (0 : Int32)
def F_X3_allOf (c_all : Nat → Int32) (x1 : Int32) : Option (Int32) :=
  if x1 < 0 then
    some (0 : Int32)
  else
    if (486 : Int32) ≤ x1 then
      some (0 : Int32)
    else
      gd (vin x1 486) (
      some (c_all (x1).toNatClampNeg))
def F_X3_startingOf_J26 (c_starting : Nat → Int32) (x1 : Int32) (x2 : Int32) (v0 : Int32) : Option (Int32) :=
  if v0 = 0 then
    some (0 : Int32)
  else
    gd (vin ((x1 * (6 : Int32)) + x2) 2916) (
    some (c_starting ((x1 * (6 : Int32)) + x2).toNatClampNeg))
def F_X3_startingOf (c_starting : Nat → Int32) (x1 : Int32) (x2 : Int32) : Option (Int32) :=
  F_X3_startingOf_J26 c_starting x1 x2 (if x1 < 0 then (0 : Int32) else (if (486 : Int32) ≤ x1 then (0 : Int32) else (if x2 < 0 then (0 : Int32) else (if (6 : Int32) ≤ x2 then (0 : Int32) else (1 : Int32)))))
def F_X3_fillCell_J55 (k12 : (Nat → Int32) → (Nat → Int32) → Int32 → Int32 → Option ((Nat → Int32) × (Nat → Int32))) (c_inCell : Nat → Int32) (c_weight : Nat → Int32) (x1 : Int32) (c_all : Nat → Int32) (c_starting : Nat → Int32) (x2 : Int32) (x3 : Int32) (v0 : Int32) : Option ((Nat → Int32) × (Nat → Int32)) :=
  gd (vin ((x1 * (6 : Int32)) + x3) 2916) (
  k12 c_all (upd c_starting ((x1 * (6 : Int32)) + x3).toNatClampNeg v0) (x2 + v0) (x3 + 1))
def F_X3_fillCell_L12 (c_inCell : Nat → Int32) (c_weight : Nat → Int32) (x1 : Int32) : Nat → (Nat → Int32) → (Nat → Int32) → Int32 → Int32 → Option ((Nat → Int32) × (Nat → Int32))
  | 0, _, _, _, _ => none
  | n + 1, c_all, c_starting, x2, x3 =>
    if (6 : Int32) ≤ x3 then
      gd (vin x1 486) (
      some ((upd c_all (x1).toNatClampNeg x2), c_starting))
    else
      gd (vin x3 6) (
      gd (vin x3 6) (
      if (c_inCell (x3).toNatClampNeg) ≤ 0 then
        F_X3_fillCell_J55 (F_X3_fillCell_L12 c_inCell c_weight x1 n) c_inCell c_weight x1 c_all c_starting x2 x3 (0 : Int32)
      else
        (F_X3_allOf c_all (x1 - (c_weight (x3).toNatClampNeg))).bind (fun r40 =>
        (F_X3_startingOf c_starting (x1 - (c_weight (x3).toNatClampNeg)) x3).bind (fun r47 =>
        F_X3_fillCell_J55 (F_X3_fillCell_L12 c_inCell c_weight x1 n) c_inCell c_weight x1 c_all c_starting x2 x3 (r40 - r47)))))
def F_X3_fillCell (c_all : Nat → Int32) (c_inCell : Nat → Int32) (c_starting : Nat → Int32) (c_weight : Nat → Int32) (x1 : Int32) : Option ((Nat → Int32) × (Nat → Int32)) :=
  F_X3_fillCell_L12 c_inCell c_weight x1 FU c_all c_starting (if x1 = 0 then (1 : Int32) else (0 : Int32)) (0 : Int32)
def F_X3_goOn_J35 (c_madeFor : Nat → Int32) (c_inCell : Nat → Int32) (x1 : Int32) : Option ((Nat → Int32)) :=
  gd (vin x1 6) (
  gd (vin x1 6) (
  some (upd c_inCell (x1).toNatClampNeg ((c_inCell (x1).toNatClampNeg) + (1 : Int32)))))
def F_X3_goOn_L2 (c_madeFor : Nat → Int32) : Nat → (Nat → Int32) → Int32 → Option ((Nat → Int32))
  | 0, _, _ => none
  | n + 1, c_inCell, x1 =>
    if (5 : Int32) ≤ x1 then
      F_X3_goOn_J35 c_madeFor c_inCell x1
    else
      gd (vin x1 6) (
      gd (vin x1 6) (
      if (c_inCell (x1).toNatClampNeg) < (c_madeFor (x1).toNatClampNeg) then
        F_X3_goOn_J35 c_madeFor c_inCell x1
      else
        gd (vin x1 6) (
        F_X3_goOn_L2 c_madeFor n (upd c_inCell (x1).toNatClampNeg (0 : Int32)) (x1 + 1))))
def F_X3_goOn (c_inCell : Nat → Int32) (c_madeFor : Nat → Int32) : Option ((Nat → Int32)) :=
  F_X3_goOn_L2 c_madeFor FU c_inCell (0 : Int32)
def F_X3_prepare_J33 (k4 : (Nat → Int32) → (Nat → Int32) → (Nat → Int32) → (Nat → Int32) → (Nat → Int32) → Int32 → Int32 → Option ((Nat → Int32) × (Nat → Int32) × (Nat → Int32) × (Nat → Int32) × (Nat → Int32))) (c_p_often : Nat → Int32) (c_all : Nat → Int32) (c_inCell : Nat → Int32) (c_madeFor : Nat → Int32) (c_starting : Nat → Int32) (c_weight : Nat → Int32) (x3 : Int32) (v0 : Int32) : Option ((Nat → Int32) × (Nat → Int32) × (Nat → Int32) × (Nat → Int32) × (Nat → Int32)) :=
  (F_X0_of c_p_often x3).bind (fun r41 =>
  gd (vin x3 6) (
  gd (vin x3 6) (
  k4 c_all (upd c_inCell (x3).toNatClampNeg (0 : Int32)) (upd c_madeFor (x3).toNatClampNeg r41) c_starting c_weight v0 (x3 + 1))))
def F_X3_prepare_L71 (c_p_often : Nat → Int32) : Nat → (Nat → Int32) → (Nat → Int32) → (Nat → Int32) → (Nat → Int32) → (Nat → Int32) → Int32 → Int32 → Option ((Nat → Int32) × (Nat → Int32) × (Nat → Int32) × (Nat → Int32) × (Nat → Int32))
  | 0, _, _, _, _, _, _, _ => none
  | n + 1, c_all, c_inCell, c_madeFor, c_starting, c_weight, x3, x4 =>
    if x3 ≤ x4 then
      some (c_all, c_inCell, c_madeFor, c_starting, c_weight)
    else
      if (486 : Int32) ≤ x4 then
        some (c_all, c_inCell, c_madeFor, c_starting, c_weight)
      else
        (F_X3_fillCell c_all c_inCell c_starting c_weight x4).bind (fun r88 =>
        (F_X3_goOn c_inCell c_madeFor).bind (fun r92 =>
        F_X3_prepare_L71 c_p_often n r88.1 r92 c_madeFor r88.2 c_weight x3 (x4 + 1)))
def F_X3_prepare_L4 (c_p_often : Nat → Int32) : Nat → (Nat → Int32) → (Nat → Int32) → (Nat → Int32) → (Nat → Int32) → (Nat → Int32) → Int32 → Int32 → Option ((Nat → Int32) × (Nat → Int32) × (Nat → Int32) × (Nat → Int32) × (Nat → Int32))
  | 0, _, _, _, _, _, _, _ => none
  | n + 1, c_all, c_inCell, c_madeFor, c_starting, c_weight, x2, x3 =>
    if (6 : Int32) ≤ x3 then
      if x2 = 0 then
        (F_X3_weigh c_madeFor c_weight).bind (fun r64 =>
        F_X3_prepare_L71 c_p_often FU c_all c_inCell c_madeFor c_starting r64.2 r64.1 (0 : Int32))
      else
        some (c_all, c_inCell, c_madeFor, c_starting, c_weight)
    else
      if x2 = 0 then
        F_X3_prepare_J33 (F_X3_prepare_L4 c_p_often n) c_p_often c_all c_inCell c_madeFor c_starting c_weight x3 (0 : Int32)
      else
        gd (vin x3 6) (
        (F_X0_of c_p_often x3).bind (fun r22 =>
        F_X3_prepare_J33 (F_X3_prepare_L4 c_p_often n) c_p_often c_all c_inCell c_madeFor c_starting c_weight x3 (if (c_madeFor (x3).toNatClampNeg) = r22 then (1 : Int32) else (0 : Int32))))
def F_X3_prepare (c_all : Nat → Int32) (c_inCell : Nat → Int32) (c_madeFor : Nat → Int32) (c_starting : Nat → Int32) (c_weight : Nat → Int32) (c_p_often : Nat → Int32) : Option ((Nat → Int32) × (Nat → Int32) × (Nat → Int32) × (Nat → Int32) × (Nat → Int32)) :=
  F_X3_prepare_L4 c_p_often FU c_all c_inCell c_madeFor c_starting c_weight (1 : Int32) (0 : Int32)
def F_X3_cellOf_L4 (c_weight : Nat → Int32) (c_p_often : Nat → Int32) : Nat → Int32 → Int32 → Option (Int32)
  | 0, _, _ => none
  | n + 1, x2, x3 =>
    if (6 : Int32) ≤ x3 then
      some x2
    else
      (F_X0_of c_p_often x3).bind (fun r13 =>
      gd (vin x3 6) (
      F_X3_cellOf_L4 c_weight c_p_often n (x2 + (r13 * (c_weight (x3).toNatClampNeg))) (x3 + 1)))
def F_X3_cellOf (c_weight : Nat → Int32) (c_p_often : Nat → Int32) : Option (Int32) :=
  F_X3_cellOf_L4 c_weight c_p_often FU (0 : Int32) (0 : Int32)
def F_X3_startingWith (c_starting : Nat → Int32) (c_weight : Nat → Int32) (c_p_often : Nat → Int32) (x2 : Int32) : Option (Int32) :=
  (F_X3_cellOf c_weight c_p_often).bind (fun r3 =>
  (F_X3_startingOf c_starting r3 x2).bind (fun r7 =>
  some r7))
def F_X3_behind (c_all : Nat → Int32) (c_starting : Nat → Int32) (c_weight : Nat → Int32) (c_p_often : Nat → Int32) (x2 : Int32) : Option (Int32) :=
  (F_X3_cellOf c_weight c_p_often).bind (fun r2 =>
  (F_X3_allOf c_all r2).bind (fun r8 =>
  (F_X3_startingOf c_starting r2 x2).bind (fun r14 =>
  some (r8 - r14))))
def F_X4_length (c_length : Int32) : Option (Int32) :=
  some c_length
def F_X4_at (c_length : Int32) (c_codes : Nat → Int32) (x1 : Int32) : Option (Int32) :=
  if x1 < 0 then
    some (0 : Int32)
  else
    if c_length ≤ x1 then
      some (0 : Int32)
    else
      if (60 : Int32) ≤ x1 then
        some (0 : Int32)
      else
        gd (vin x1 60) (
        some (c_codes (x1).toNatClampNeg))
def F_X4_add (c_length : Int32) (c_codes : Nat → Int32) (x1 : Int32) : Option (Int32 × (Nat → Int32)) :=
  if c_length < 0 then
    some (c_length, c_codes)
  else
    if (60 : Int32) ≤ c_length then
      some (c_length, c_codes)
    else
      gd (vin c_length 60) (
      some (c_length + (1 : Int32), (upd c_codes (c_length).toNatClampNeg x1)))
def F_X4_clear (c_length : Int32) : Option (Int32) :=
  some (0 : Int32)
def F_X4_isLetter (c_length : Int32) (c_codes : Nat → Int32) (x1 : Int32) : Option (Int32) :=
  (F_X4_at c_length c_codes x1).bind (fun r2 =>
  if r2 < (97 : Int32) then
    some (0 : Int32)
  else
    (F_X4_at c_length c_codes x1).bind (fun r12 =>
    some (if (102 : Int32) < r12 then (0 : Int32) else (1 : Int32))))
def F_X4_adds_J35 (c_length : Int32) (c_codes : Nat → Int32) (x1 : Int32) (v0 : Int32) : Option (Int32) :=
  if v0 = 0 then
    some (0 : Int32)
  else
    (F_X4_isLetter c_length c_codes (x1 - (1 : Int32))).bind (fun r44 =>
    if r44 = 0 then
      some (0 : Int32)
    else
      (F_X4_at c_length c_codes x1).bind (fun r52 =>
      some (r52 - (49 : Int32))))
def F_X4_adds (c_length : Int32) (c_codes : Nat → Int32) (x1 : Int32) : Option (Int32) :=
  (F_X4_isLetter c_length c_codes x1).bind (fun r2 =>
  if r2 = 0 then
    (F_X4_at c_length c_codes x1).bind (fun r12 =>
    if r12 < (50 : Int32) then
      F_X4_adds_J35 c_length c_codes x1 (0 : Int32)
    else
      (F_X4_at c_length c_codes x1).bind (fun r22 =>
      F_X4_adds_J35 c_length c_codes x1 (if (57 : Int32) < r22 then (0 : Int32) else (1 : Int32))))
  else
    some (1 : Int32))
def F_X4_firstBad_L4 (c_length : Int32) (c_codes : Nat → Int32) : Nat → Int32 → Int32 → Option (Int32)
  | 0, _, _ => none
  | n + 1, x1, x2 =>
    if c_length ≤ x2 then
      some c_length
    else
      (F_X4_adds c_length c_codes x2).bind (fun r14 =>
      if r14 = 0 then
        some x2
      else
        if (x1 + r14) ≤ (11 : Int32) then
          F_X4_firstBad_L4 c_length c_codes n (x1 + r14) (x2 + 1)
        else
          some x2)
def F_X4_firstBad (c_length : Int32) (c_codes : Nat → Int32) : Option (Int32) :=
  F_X4_firstBad_L4 c_length c_codes FU (0 : Int32) (0 : Int32)
def F_X4_writeTo_L48 (k6 : Int32 → (Nat → Int32) → Int32 → Option (Int32 × (Nat → Int32))) (c_length : Int32) (c_codes : Nat → Int32) : Nat → Int32 → (Nat → Int32) → Int32 → Int32 → Int32 → Int32 → Option (Int32 × (Nat → Int32))
  | 0, _, _, _, _, _, _ => none
  | n + 1, c_p_length, c_p_signs, x2, x3, x4, x5 =>
    if x4 ≤ x5 then
      k6 c_p_length c_p_signs (x2 + 1)
    else
      (F_X1_add c_p_length c_p_signs (x3 - (97 : Int32))).bind (fun r60 =>
      F_X4_writeTo_L48 k6 c_length c_codes n r60.1 r60.2 x2 x3 x4 (x5 + 1))
def F_X4_writeTo_J37 (k6 : Int32 → (Nat → Int32) → Int32 → Option (Int32 × (Nat → Int32))) (c_length : Int32) (c_codes : Nat → Int32) (c_p_length : Int32) (c_p_signs : Nat → Int32) (x2 : Int32) (v0 : Int32) : Option (Int32 × (Nat → Int32)) :=
  (F_X4_adds c_length c_codes x2).bind (fun r40 =>
  F_X4_writeTo_L48 k6 c_length c_codes FU c_p_length c_p_signs x2 v0 r40 (0 : Int32))
def F_X4_writeTo_L6 (c_length : Int32) (c_codes : Nat → Int32) : Nat → Int32 → (Nat → Int32) → Int32 → Option (Int32 × (Nat → Int32))
  | 0, _, _, _ => none
  | n + 1, c_p_length, c_p_signs, x2 =>
    if c_length ≤ x2 then
      some (c_p_length, c_p_signs)
    else
      (F_X4_isLetter c_length c_codes x2).bind (fun r16 =>
      if r16 = 0 then
        (F_X4_at c_length c_codes (x2 - (1 : Int32))).bind (fun r34 =>
        F_X4_writeTo_J37 (F_X4_writeTo_L6 c_length c_codes n) c_length c_codes c_p_length c_p_signs x2 r34)
      else
        (F_X4_at c_length c_codes x2).bind (fun r24 =>
        F_X4_writeTo_J37 (F_X4_writeTo_L6 c_length c_codes n) c_length c_codes c_p_length c_p_signs x2 r24))
def F_X4_writeTo (c_length : Int32) (c_codes : Nat → Int32) (c_p_length : Int32) (c_p_signs : Nat → Int32) : Option (Int32 × (Nat → Int32)) :=
  (F_X1_clear c_p_length).bind (fun r1 =>
  F_X4_writeTo_L6 c_length c_codes FU r1 c_p_signs (0 : Int32))
def F_X5_blockSize (c_bag_total : Int32) (c_bag_often : Nat → Int32) (c_row_length : Int32) (c_row_signs : Nat → Int32) (x1 : Int32) : Option (Int32 × Int32 × (Nat → Int32)) :=
  (F_X0_fill c_bag_total c_bag_often c_row_length c_row_signs x1).bind (fun r9 =>
  (F_X0_ways r9.1 r9.2).bind (fun r16 =>
  some (r16, r9.1, r9.2)))
def F_X5_all (c_bag_total : Int32) (c_bag_often : Nat → Int32) (c_row_length : Int32) (c_row_signs : Nat → Int32) : Option (Int32 × Int32 × (Nat → Int32)) :=
  (F_X5_blockSize c_bag_total c_bag_often c_row_length c_row_signs (0 : Int32)).bind (fun r2 =>
  some (r2.1, r2.2.1, r2.2.2))
def F_X5_need (x0 : Int32) : Option (Unit) :=
  if x0 = 0 then
    none
  else
    some ()
def F_X5_needRank_J17 (c_row_length : Int32) (c_row_signs : Nat → Int32) (x1 : Int32) (c_bag_total : Int32) (c_bag_often : Nat → Int32) (v0 : Int32) : Option (Int32 × (Nat → Int32)) :=
  (F_X5_need v0).bind (fun r17 =>
  some (c_bag_total, c_bag_often))
def F_X5_needRank (c_bag_total : Int32) (c_bag_often : Nat → Int32) (c_row_length : Int32) (c_row_signs : Nat → Int32) (x1 : Int32) : Option (Int32 × (Nat → Int32)) :=
  if x1 < 0 then
    F_X5_needRank_J17 c_row_length c_row_signs x1 c_bag_total c_bag_often (0 : Int32)
  else
    (F_X5_all c_bag_total c_bag_often c_row_length c_row_signs).bind (fun r6 =>
    F_X5_needRank_J17 c_row_length c_row_signs x1 r6.2.1 r6.2.2 (if r6.1 ≤ x1 then (0 : Int32) else (1 : Int32)))
def F_X5_part (x0 : Int32) (x1 : Int32) (x2 : Int32) : Option (Int32) :=
  if x2 ≤ 0 then
    some (0 : Int32)
  else
    gd (nz x2) (
    some ((x0 * x1) / x2))
def F_X5_lowestRank_L23 (c_p_length : Int32) (c_p_signs : Nat → Int32) (x2 : Int32) : Nat → Int32 → (Nat → Int32) → Int32 → Int32 → Int32 → Option (Int32 × Int32 × (Nat → Int32))
  | 0, _, _, _, _, _ => none
  | n + 1, c_bag_total, c_bag_often, x3, x4, x5 =>
    if x2 ≤ x5 then
      some (x4, c_bag_total, c_bag_often)
    else
      (F_X1_at c_p_length c_p_signs x5).bind (fun r32 =>
      (F_X0_below c_bag_often r32).bind (fun r46 =>
      (F_X0_total c_bag_total).bind (fun r53 =>
      (F_X5_part x3 r46 r53).bind (fun r56 =>
      (F_X0_of c_bag_often r32).bind (fun r69 =>
      (F_X0_total c_bag_total).bind (fun r76 =>
      (F_X5_part x3 r69 r76).bind (fun r79 =>
      (F_X0_drop c_bag_total c_bag_often r32).bind (fun r89 =>
      F_X5_lowestRank_L23 c_p_length c_p_signs x2 n r89.1 r89.2 r79 (x4 + r56) (x5 + 1)))))))))
def F_X5_lowestRank (c_bag_total : Int32) (c_bag_often : Nat → Int32) (c_p_length : Int32) (c_p_signs : Nat → Int32) (x2 : Int32) : Option (Int32 × Int32 × (Nat → Int32)) :=
  (F_X0_fill c_bag_total c_bag_often c_p_length c_p_signs (0 : Int32)).bind (fun r6 =>
  (F_X0_ways r6.1 r6.2).bind (fun r13 =>
  F_X5_lowestRank_L23 c_p_length c_p_signs x2 FU r6.1 r6.2 r13 (0 : Int32) (0 : Int32)))
def F_X5_rankOf (c_bag_total : Int32) (c_bag_often : Nat → Int32) (c_p_length : Int32) (c_p_signs : Nat → Int32) : Option (Int32 × Int32 × (Nat → Int32)) :=
  (F_X1_length c_p_length).bind (fun r3 =>
  (F_X5_lowestRank c_bag_total c_bag_often c_p_length c_p_signs r3).bind (fun r6 =>
  some (r6.1, r6.2.1, r6.2.2)))
def F_X5_layOut_J114 (k32 : Int32 → (Nat → Int32) → Int32 → (Nat → Int32) → Int32 → Int32 → Int32 → Option (Int32 × (Nat → Int32) × Int32 × (Nat → Int32))) (c_row_length : Int32) (c_row_signs : Nat → Int32) (x1 : Int32) (c_bag_total : Int32) (c_bag_often : Nat → Int32) (c_work_length : Int32) (c_work_signs : Nat → Int32) (x3 : Int32) (x4 : Int32) (x5 : Int32) (x6 : Int32) : Option (Int32 × (Nat → Int32) × Int32 × (Nat → Int32)) :=
  (F_X1_add c_work_length c_work_signs x5).bind (fun r123 =>
  (F_X0_drop c_bag_total c_bag_often x5).bind (fun r132 =>
  k32 r132.1 r132.2 r123.1 r123.2 x6 x3 (x4 + 1)))
def F_X5_layOut_L69 (k32 : Int32 → (Nat → Int32) → Int32 → (Nat → Int32) → Int32 → Int32 → Int32 → Option (Int32 × (Nat → Int32) × Int32 × (Nat → Int32))) (c_row_length : Int32) (c_row_signs : Nat → Int32) (x1 : Int32) : Nat → Int32 → (Nat → Int32) → Int32 → (Nat → Int32) → Int32 → Int32 → Int32 → Int32 → Int32 → Option (Int32 × (Nat → Int32) × Int32 × (Nat → Int32))
  | 0, _, _, _, _, _, _, _, _, _ => none
  | n + 1, c_bag_total, c_bag_often, c_work_length, c_work_signs, x2, x3, x4, x5, x6 =>
    if (5 : Int32) ≤ x5 then
      F_X5_layOut_J114 k32 c_row_length c_row_signs x1 c_bag_total c_bag_often c_work_length c_work_signs x3 x4 x5 x6
    else
      if x3 < x6 then
        F_X5_layOut_J114 k32 c_row_length c_row_signs x1 c_bag_total c_bag_often c_work_length c_work_signs x3 x4 x5 x6
      else
        (F_X0_of c_bag_often (x5 + 1)).bind (fun r96 =>
        (F_X0_total c_bag_total).bind (fun r103 =>
        (F_X5_part x2 r96 r103).bind (fun r106 =>
        F_X5_layOut_L69 k32 c_row_length c_row_signs x1 n c_bag_total c_bag_often c_work_length c_work_signs x2 (x3 - x6) x4 (x5 + 1) r106)))
def F_X5_layOut_L32 (c_row_length : Int32) (c_row_signs : Nat → Int32) (x1 : Int32) : Nat → Int32 → (Nat → Int32) → Int32 → (Nat → Int32) → Int32 → Int32 → Int32 → Option (Int32 × (Nat → Int32) × Int32 × (Nat → Int32))
  | 0, _, _, _, _, _, _, _ => none
  | n + 1, c_bag_total, c_bag_often, c_work_length, c_work_signs, x2, x3, x4 =>
    (F_X1_length c_row_length).bind (fun r38 =>
    if r38 ≤ x4 then
      some (c_bag_total, c_bag_often, c_work_length, c_work_signs)
    else
      (F_X0_of c_bag_often (0 : Int32)).bind (fun r54 =>
      (F_X0_total c_bag_total).bind (fun r61 =>
      (F_X5_part x2 r54 r61).bind (fun r64 =>
      F_X5_layOut_L69 (F_X5_layOut_L32 c_row_length c_row_signs x1 n) c_row_length c_row_signs x1 FU c_bag_total c_bag_often c_work_length c_work_signs x2 x3 x4 (0 : Int32) r64))))
def F_X5_layOut (c_bag_total : Int32) (c_bag_often : Nat → Int32) (c_row_length : Int32) (c_row_signs : Nat → Int32) (c_work_length : Int32) (c_work_signs : Nat → Int32) (x1 : Int32) : Option (Int32 × (Nat → Int32) × Int32 × (Nat → Int32)) :=
  (F_X1_clear c_work_length).bind (fun r4 =>
  (F_X0_fill c_bag_total c_bag_often c_row_length c_row_signs (0 : Int32)).bind (fun r16 =>
  (F_X0_ways r16.1 r16.2).bind (fun r23 =>
  F_X5_layOut_L32 c_row_length c_row_signs x1 FU r16.1 r16.2 r4 c_work_signs r23 x1 (0 : Int32))))
def F_X5_save (c_gone : Int32) (c_row_length : Int32) (c_row_signs : Nat → Int32) (c_saves_held : Int32) (c_saves_slots : Nat → Int32) : Option (Int32 × (Nat → Int32)) :=
  (F_X2_keep c_saves_held c_saves_slots c_row_length c_row_signs c_gone).bind (fun r12 =>
  some (r12.1, r12.2))
def F_X5_arrive (c_gone : Int32) (c_bag_total : Int32) (c_bag_often : Nat → Int32) (c_row_length : Int32) (c_row_signs : Nat → Int32) (c_saves_held : Int32) (c_saves_slots : Nat → Int32) (c_work_length : Int32) (c_work_signs : Nat → Int32) : Option (Int32 × Int32 × Int32 × (Nat → Int32) × Int32 × (Nat → Int32) × Int32 × (Nat → Int32)) :=
  (F_X5_save c_gone c_row_length c_row_signs c_saves_held c_saves_slots).bind (fun r1 =>
  (F_X1_become c_row_length c_row_signs c_work_length c_work_signs).bind (fun r12 =>
  (F_X5_rankOf c_bag_total c_bag_often r12.1 r12.2).bind (fun r30 =>
  some (r30.1, c_gone + (1 : Int32), r30.2.1, r30.2.2, r12.1, r12.2, r1.1, r1.2))))
def F_X5_goToRank (c_gone : Int32) (c_bag_total : Int32) (c_bag_often : Nat → Int32) (c_row_length : Int32) (c_row_signs : Nat → Int32) (c_saves_held : Int32) (c_saves_slots : Nat → Int32) (c_work_length : Int32) (c_work_signs : Nat → Int32) (x1 : Int32) : Option (Int32 × Int32 × Int32 × (Nat → Int32) × Int32 × (Nat → Int32) × Int32 × (Nat → Int32) × Int32 × (Nat → Int32)) :=
  (F_X5_layOut c_bag_total c_bag_often c_row_length c_row_signs c_work_length c_work_signs x1).bind (fun r2 =>
  (F_X1_placesUnlike c_row_length c_row_signs r2.2.2.1 r2.2.2.2).bind (fun r13 =>
  (F_X5_arrive c_gone r2.1 r2.2.1 c_row_length c_row_signs c_saves_held c_saves_slots r2.2.2.1 r2.2.2.2).bind (fun r18 =>
  some (r13, r18.2.1, r18.2.2.1, r18.2.2.2.1, r18.2.2.2.2.1, r18.2.2.2.2.2.1, r18.2.2.2.2.2.2.1, r18.2.2.2.2.2.2.2, r2.2.2.1, r2.2.2.2))))
def F_X5_goTo (c_gone : Int32) (c_bag_total : Int32) (c_bag_often : Nat → Int32) (c_row_length : Int32) (c_row_signs : Nat → Int32) (c_saves_held : Int32) (c_saves_slots : Nat → Int32) (c_work_length : Int32) (c_work_signs : Nat → Int32) (x1 : Int32) : Option (Int32 × Int32 × Int32 × (Nat → Int32) × Int32 × (Nat → Int32) × Int32 × (Nat → Int32) × Int32 × (Nat → Int32)) :=
  (F_X5_needRank c_bag_total c_bag_often c_row_length c_row_signs x1).bind (fun r2 =>
  (F_X5_rankOf r2.1 r2.2 c_row_length c_row_signs).bind (fun r10 =>
  (F_X5_goToRank c_gone r10.2.1 r10.2.2 c_row_length c_row_signs c_saves_held c_saves_slots c_work_length c_work_signs x1).bind (fun r16 =>
  some (r10.1, r16.2.1, r16.2.2.1, r16.2.2.2.1, r16.2.2.2.2.1, r16.2.2.2.2.2.1, r16.2.2.2.2.2.2.1, r16.2.2.2.2.2.2.2.1, r16.2.2.2.2.2.2.2.2.1, r16.2.2.2.2.2.2.2.2.2))))
def F_X5_jump (c_gone : Int32) (c_bag_total : Int32) (c_bag_often : Nat → Int32) (c_row_length : Int32) (c_row_signs : Nat → Int32) (c_saves_held : Int32) (c_saves_slots : Nat → Int32) (c_work_length : Int32) (c_work_signs : Nat → Int32) (x1 : Int32) : Option (Int32 × Int32 × Int32 × (Nat → Int32) × Int32 × (Nat → Int32) × Int32 × (Nat → Int32) × Int32 × (Nat → Int32)) :=
  (F_X5_rankOf c_bag_total c_bag_often c_row_length c_row_signs).bind (fun r5 =>
  if (lg_cmp (((r5.1).toInt64) + ((x1).toInt64)) (0 : Int64)) < 0 then
    none
  else
    (F_X5_all r5.2.1 r5.2.2 c_row_length c_row_signs).bind (fun r21 =>
    if (lg_cmp (((r5.1).toInt64) + ((x1).toInt64)) ((r21.1).toInt64)) < 0 then
      (F_X5_goToRank c_gone r21.2.1 r21.2.2 c_row_length c_row_signs c_saves_held c_saves_slots c_work_length c_work_signs ((((r5.1).toInt64) + ((x1).toInt64)).toInt32)).bind (fun r42 =>
      some ((((r5.1).toInt64) + ((x1).toInt64)).toInt32, r42.2.1, r42.2.2.1, r42.2.2.2.1, r42.2.2.2.2.1, r42.2.2.2.2.2.1, r42.2.2.2.2.2.2.1, r42.2.2.2.2.2.2.2.1, r42.2.2.2.2.2.2.2.2.1, r42.2.2.2.2.2.2.2.2.2))
    else
      none))
def F_X5_next_J25 (c_gone : Int32) (c_bag_total : Int32) (c_bag_often : Nat → Int32) (c_row_length : Int32) (c_row_signs : Nat → Int32) (c_saves_held : Int32) (c_saves_slots : Nat → Int32) (c_work_length : Int32) (c_work_signs : Nat → Int32) (v1 : Int32) : Option (Int32 × Int32 × Int32 × (Nat → Int32) × Int32 × (Nat → Int32) × Int32 × (Nat → Int32) × Int32 × (Nat → Int32)) :=
  (F_X5_goToRank c_gone c_bag_total c_bag_often c_row_length c_row_signs c_saves_held c_saves_slots c_work_length c_work_signs v1).bind (fun r25 =>
  some (r25.1, r25.2.1, r25.2.2.1, r25.2.2.2.1, r25.2.2.2.2.1, r25.2.2.2.2.2.1, r25.2.2.2.2.2.2.1, r25.2.2.2.2.2.2.2.1, r25.2.2.2.2.2.2.2.2.1, r25.2.2.2.2.2.2.2.2.2))
def F_X5_next (c_gone : Int32) (c_bag_total : Int32) (c_bag_often : Nat → Int32) (c_row_length : Int32) (c_row_signs : Nat → Int32) (c_saves_held : Int32) (c_saves_slots : Nat → Int32) (c_work_length : Int32) (c_work_signs : Nat → Int32) : Option (Int32 × Int32 × Int32 × (Nat → Int32) × Int32 × (Nat → Int32) × Int32 × (Nat → Int32) × Int32 × (Nat → Int32)) :=
  (F_X5_rankOf c_bag_total c_bag_often c_row_length c_row_signs).bind (fun r5 =>
  (F_X5_all r5.2.1 r5.2.2 c_row_length c_row_signs).bind (fun r14 =>
  F_X5_next_J25 c_gone r14.2.1 r14.2.2 c_row_length c_row_signs c_saves_held c_saves_slots c_work_length c_work_signs (if r14.1 ≤ (r5.1 + (1 : Int32)) then (0 : Int32) else r5.1 + (1 : Int32))))
def F_X5_previous_J22 (c_gone : Int32) (c_bag_total : Int32) (c_bag_often : Nat → Int32) (c_row_length : Int32) (c_row_signs : Nat → Int32) (c_saves_held : Int32) (c_saves_slots : Nat → Int32) (c_work_length : Int32) (c_work_signs : Nat → Int32) (v1 : Int32) : Option (Int32 × Int32 × Int32 × (Nat → Int32) × Int32 × (Nat → Int32) × Int32 × (Nat → Int32) × Int32 × (Nat → Int32)) :=
  (F_X5_goToRank c_gone c_bag_total c_bag_often c_row_length c_row_signs c_saves_held c_saves_slots c_work_length c_work_signs (v1 - (1 : Int32))).bind (fun r24 =>
  some (r24.1, r24.2.1, r24.2.2.1, r24.2.2.2.1, r24.2.2.2.2.1, r24.2.2.2.2.2.1, r24.2.2.2.2.2.2.1, r24.2.2.2.2.2.2.2.1, r24.2.2.2.2.2.2.2.2.1, r24.2.2.2.2.2.2.2.2.2))
def F_X5_previous (c_gone : Int32) (c_bag_total : Int32) (c_bag_often : Nat → Int32) (c_row_length : Int32) (c_row_signs : Nat → Int32) (c_saves_held : Int32) (c_saves_slots : Nat → Int32) (c_work_length : Int32) (c_work_signs : Nat → Int32) : Option (Int32 × Int32 × Int32 × (Nat → Int32) × Int32 × (Nat → Int32) × Int32 × (Nat → Int32) × Int32 × (Nat → Int32)) :=
  (F_X5_rankOf c_bag_total c_bag_often c_row_length c_row_signs).bind (fun r5 =>
  if r5.1 ≤ 0 then
    (F_X5_all r5.2.1 r5.2.2 c_row_length c_row_signs).bind (fun r19 =>
    F_X5_previous_J22 c_gone r19.2.1 r19.2.2 c_row_length c_row_signs c_saves_held c_saves_slots c_work_length c_work_signs r19.1)
  else
    F_X5_previous_J22 c_gone r5.2.1 r5.2.2 c_row_length c_row_signs c_saves_held c_saves_slots c_work_length c_work_signs r5.1)
def F_X5_prepareSmooth (c_bag_total : Int32) (c_bag_often : Nat → Int32) (c_row_length : Int32) (c_row_signs : Nat → Int32) (c_smooth_all : Nat → Int32) (c_smooth_inCell : Nat → Int32) (c_smooth_madeFor : Nat → Int32) (c_smooth_starting : Nat → Int32) (c_smooth_weight : Nat → Int32) : Option (Int32 × (Nat → Int32) × (Nat → Int32) × (Nat → Int32) × (Nat → Int32) × (Nat → Int32) × (Nat → Int32)) :=
  (F_X0_fill c_bag_total c_bag_often c_row_length c_row_signs (0 : Int32)).bind (fun r9 =>
  (F_X3_prepare c_smooth_all c_smooth_inCell c_smooth_madeFor c_smooth_starting c_smooth_weight r9.2).bind (fun r20 =>
  some (r9.1, r9.2, r20.1, r20.2.1, r20.2.2.1, r20.2.2.2.1, r20.2.2.2.2)))
def F_X5_smoothRank_L34 (k10 : Int32 → (Nat → Int32) → (Nat → Int32) → (Nat → Int32) → (Nat → Int32) → (Nat → Int32) → (Nat → Int32) → Int32 → Int32 → Int32 → Option (Int32 × Int32 × (Nat → Int32) × (Nat → Int32) × (Nat → Int32) × (Nat → Int32) × (Nat → Int32) × (Nat → Int32))) (c_row_length : Int32) (c_row_signs : Nat → Int32) : Nat → Int32 → (Nat → Int32) → (Nat → Int32) → (Nat → Int32) → (Nat → Int32) → (Nat → Int32) → (Nat → Int32) → Int32 → Int32 → Int32 → Int32 → Int32 → Option (Int32 × Int32 × (Nat → Int32) × (Nat → Int32) × (Nat → Int32) × (Nat → Int32) × (Nat → Int32) × (Nat → Int32))
  | 0, _, _, _, _, _, _, _, _, _, _, _, _ => none
  | n + 1, c_bag_total, c_bag_often, c_smooth_all, c_smooth_inCell, c_smooth_madeFor, c_smooth_starting, c_smooth_weight, x1, x2, x3, x4, x5 =>
    if x4 ≤ x5 then
      if x4 = x2 then
        some (x1, c_bag_total, c_bag_often, c_smooth_all, c_smooth_inCell, c_smooth_madeFor, c_smooth_starting, c_smooth_weight)
      else
        (F_X0_drop c_bag_total c_bag_often x4).bind (fun r87 =>
        k10 r87.1 r87.2 c_smooth_all c_smooth_inCell c_smooth_madeFor c_smooth_starting c_smooth_weight x1 x4 (x3 + 1))
    else
      if x5 = x2 then
        F_X5_smoothRank_L34 k10 c_row_length c_row_signs n c_bag_total c_bag_often c_smooth_all c_smooth_inCell c_smooth_madeFor c_smooth_starting c_smooth_weight (x1 + (0 : Int32)) x2 x3 x4 (x5 + 1)
      else
        (F_X3_startingWith c_smooth_starting c_smooth_weight c_bag_often x5).bind (fun r62 =>
        F_X5_smoothRank_L34 k10 c_row_length c_row_signs n c_bag_total c_bag_often c_smooth_all c_smooth_inCell c_smooth_madeFor c_smooth_starting c_smooth_weight (x1 + r62) x2 x3 x4 (x5 + 1))
def F_X5_smoothRank_L10 (c_row_length : Int32) (c_row_signs : Nat → Int32) : Nat → Int32 → (Nat → Int32) → (Nat → Int32) → (Nat → Int32) → (Nat → Int32) → (Nat → Int32) → (Nat → Int32) → Int32 → Int32 → Int32 → Option (Int32 × Int32 × (Nat → Int32) × (Nat → Int32) × (Nat → Int32) × (Nat → Int32) × (Nat → Int32) × (Nat → Int32))
  | 0, _, _, _, _, _, _, _, _, _, _ => none
  | n + 1, c_bag_total, c_bag_often, c_smooth_all, c_smooth_inCell, c_smooth_madeFor, c_smooth_starting, c_smooth_weight, x1, x2, x3 =>
    (F_X1_length c_row_length).bind (fun r15 =>
    if r15 ≤ x3 then
      some (x1, c_bag_total, c_bag_often, c_smooth_all, c_smooth_inCell, c_smooth_madeFor, c_smooth_starting, c_smooth_weight)
    else
      (F_X1_at c_row_length c_row_signs x3).bind (fun r26 =>
      F_X5_smoothRank_L34 (F_X5_smoothRank_L10 c_row_length c_row_signs n) c_row_length c_row_signs FU c_bag_total c_bag_often c_smooth_all c_smooth_inCell c_smooth_madeFor c_smooth_starting c_smooth_weight x1 x2 x3 r26 (0 : Int32)))
def F_X5_smoothRank (c_bag_total : Int32) (c_bag_often : Nat → Int32) (c_row_length : Int32) (c_row_signs : Nat → Int32) (c_smooth_all : Nat → Int32) (c_smooth_inCell : Nat → Int32) (c_smooth_madeFor : Nat → Int32) (c_smooth_starting : Nat → Int32) (c_smooth_weight : Nat → Int32) : Option (Int32 × Int32 × (Nat → Int32) × (Nat → Int32) × (Nat → Int32) × (Nat → Int32) × (Nat → Int32) × (Nat → Int32)) :=
  (F_X5_prepareSmooth c_bag_total c_bag_often c_row_length c_row_signs c_smooth_all c_smooth_inCell c_smooth_madeFor c_smooth_starting c_smooth_weight).bind (fun r1 =>
  F_X5_smoothRank_L10 c_row_length c_row_signs FU r1.1 r1.2.1 r1.2.2.1 r1.2.2.2.1 r1.2.2.2.2.1 r1.2.2.2.2.2.1 r1.2.2.2.2.2.2 (0 : Int32) ((-1) : Int32) (0 : Int32))
def F_X5_smoothInBlock_J55 (c_row_length : Int32) (c_row_signs : Nat → Int32) (x1 : Int32) (c_bag_total : Int32) (c_bag_often : Nat → Int32) (c_smooth_all : Nat → Int32) (c_smooth_inCell : Nat → Int32) (c_smooth_madeFor : Nat → Int32) (c_smooth_starting : Nat → Int32) (c_smooth_weight : Nat → Int32) (v2 : Int32) : Option (Int32 × Int32 × (Nat → Int32) × (Nat → Int32) × (Nat → Int32) × (Nat → Int32) × (Nat → Int32) × (Nat → Int32)) :=
  (F_X3_behind c_smooth_all c_smooth_starting c_smooth_weight c_bag_often v2).bind (fun r55 =>
  some (r55, c_bag_total, c_bag_often, c_smooth_all, c_smooth_inCell, c_smooth_madeFor, c_smooth_starting, c_smooth_weight))
def F_X5_smoothInBlock (c_bag_total : Int32) (c_bag_often : Nat → Int32) (c_row_length : Int32) (c_row_signs : Nat → Int32) (c_smooth_all : Nat → Int32) (c_smooth_inCell : Nat → Int32) (c_smooth_madeFor : Nat → Int32) (c_smooth_starting : Nat → Int32) (c_smooth_weight : Nat → Int32) (x1 : Int32) : Option (Int32 × Int32 × (Nat → Int32) × (Nat → Int32) × (Nat → Int32) × (Nat → Int32) × (Nat → Int32) × (Nat → Int32)) :=
  (F_X1_isSmooth c_row_length c_row_signs x1).bind (fun r5 =>
  if r5 = 0 then
    some ((0 : Int32), c_bag_total, c_bag_often, c_smooth_all, c_smooth_inCell, c_smooth_madeFor, c_smooth_starting, c_smooth_weight)
  else
    (F_X5_prepareSmooth c_bag_total c_bag_often c_row_length c_row_signs c_smooth_all c_smooth_inCell c_smooth_madeFor c_smooth_starting c_smooth_weight).bind (fun r14 =>
    (F_X0_fill r14.1 r14.2.1 c_row_length c_row_signs x1).bind (fun r26 =>
    if x1 ≤ 0 then
      F_X5_smoothInBlock_J55 c_row_length c_row_signs x1 r26.1 r26.2 r14.2.2.1 r14.2.2.2.1 r14.2.2.2.2.1 r14.2.2.2.2.2.1 r14.2.2.2.2.2.2 ((-1) : Int32)
    else
      (F_X1_at c_row_length c_row_signs (x1 - (1 : Int32))).bind (fun r48 =>
      F_X5_smoothInBlock_J55 c_row_length c_row_signs x1 r26.1 r26.2 r14.2.2.1 r14.2.2.2.1 r14.2.2.2.2.1 r14.2.2.2.2.2.1 r14.2.2.2.2.2.2 r48))))
def F_X5_allSmooth (c_bag_total : Int32) (c_bag_often : Nat → Int32) (c_row_length : Int32) (c_row_signs : Nat → Int32) (c_smooth_all : Nat → Int32) (c_smooth_inCell : Nat → Int32) (c_smooth_madeFor : Nat → Int32) (c_smooth_starting : Nat → Int32) (c_smooth_weight : Nat → Int32) : Option (Int32 × Int32 × (Nat → Int32) × (Nat → Int32) × (Nat → Int32) × (Nat → Int32) × (Nat → Int32) × (Nat → Int32)) :=
  (F_X5_smoothInBlock c_bag_total c_bag_often c_row_length c_row_signs c_smooth_all c_smooth_inCell c_smooth_madeFor c_smooth_starting c_smooth_weight (0 : Int32)).bind (fun r2 =>
  some (r2.1, r2.2.1, r2.2.2.1, r2.2.2.2.1, r2.2.2.2.2.1, r2.2.2.2.2.2.1, r2.2.2.2.2.2.2.1, r2.2.2.2.2.2.2.2))
def F_X5_layOutSmooth_J106 (k18 : Int32 → (Nat → Int32) → (Nat → Int32) → (Nat → Int32) → (Nat → Int32) → (Nat → Int32) → (Nat → Int32) → Int32 → (Nat → Int32) → Int32 → Int32 → Int32 → Option (Int32 × (Nat → Int32) × (Nat → Int32) × (Nat → Int32) × (Nat → Int32) × (Nat → Int32) × (Nat → Int32) × Int32 × (Nat → Int32))) (c_row_length : Int32) (c_row_signs : Nat → Int32) (x1 : Int32) (c_bag_total : Int32) (c_bag_often : Nat → Int32) (c_smooth_all : Nat → Int32) (c_smooth_inCell : Nat → Int32) (c_smooth_madeFor : Nat → Int32) (c_smooth_starting : Nat → Int32) (c_smooth_weight : Nat → Int32) (c_work_length : Int32) (c_work_signs : Nat → Int32) (x2 : Int32) (x4 : Int32) (x5 : Int32) : Option (Int32 × (Nat → Int32) × (Nat → Int32) × (Nat → Int32) × (Nat → Int32) × (Nat → Int32) × (Nat → Int32) × Int32 × (Nat → Int32)) :=
  (F_X1_add c_work_length c_work_signs x5).bind (fun r112 =>
  (F_X0_drop c_bag_total c_bag_often x5).bind (fun r121 =>
  k18 r121.1 r121.2 c_smooth_all c_smooth_inCell c_smooth_madeFor c_smooth_starting c_smooth_weight r112.1 r112.2 x2 x5 (x4 + 1)))
def F_X5_layOutSmooth_L58 (k18 : Int32 → (Nat → Int32) → (Nat → Int32) → (Nat → Int32) → (Nat → Int32) → (Nat → Int32) → (Nat → Int32) → Int32 → (Nat → Int32) → Int32 → Int32 → Int32 → Option (Int32 × (Nat → Int32) × (Nat → Int32) × (Nat → Int32) × (Nat → Int32) × (Nat → Int32) × (Nat → Int32) × Int32 × (Nat → Int32))) (c_row_length : Int32) (c_row_signs : Nat → Int32) (x1 : Int32) : Nat → Int32 → (Nat → Int32) → (Nat → Int32) → (Nat → Int32) → (Nat → Int32) → (Nat → Int32) → (Nat → Int32) → Int32 → (Nat → Int32) → Int32 → Int32 → Int32 → Int32 → Int32 → Option (Int32 × (Nat → Int32) × (Nat → Int32) × (Nat → Int32) × (Nat → Int32) × (Nat → Int32) × (Nat → Int32) × Int32 × (Nat → Int32))
  | 0, _, _, _, _, _, _, _, _, _, _, _, _, _, _ => none
  | n + 1, c_bag_total, c_bag_often, c_smooth_all, c_smooth_inCell, c_smooth_madeFor, c_smooth_starting, c_smooth_weight, c_work_length, c_work_signs, x2, x3, x4, x5, x6 =>
    if (5 : Int32) ≤ x5 then
      F_X5_layOutSmooth_J106 k18 c_row_length c_row_signs x1 c_bag_total c_bag_often c_smooth_all c_smooth_inCell c_smooth_madeFor c_smooth_starting c_smooth_weight c_work_length c_work_signs x2 x4 x5
    else
      if x2 < x6 then
        F_X5_layOutSmooth_J106 k18 c_row_length c_row_signs x1 c_bag_total c_bag_often c_smooth_all c_smooth_inCell c_smooth_madeFor c_smooth_starting c_smooth_weight c_work_length c_work_signs x2 x4 x5
      else
        if x3 = (x5 + 1) then
          F_X5_layOutSmooth_L58 k18 c_row_length c_row_signs x1 n c_bag_total c_bag_often c_smooth_all c_smooth_inCell c_smooth_madeFor c_smooth_starting c_smooth_weight c_work_length c_work_signs (x2 - x6) x3 x4 (x5 + 1) (0 : Int32)
        else
          (F_X3_startingWith c_smooth_starting c_smooth_weight c_bag_often (x5 + 1)).bind (fun r98 =>
          F_X5_layOutSmooth_L58 k18 c_row_length c_row_signs x1 n c_bag_total c_bag_often c_smooth_all c_smooth_inCell c_smooth_madeFor c_smooth_starting c_smooth_weight c_work_length c_work_signs (x2 - x6) x3 x4 (x5 + 1) r98)
def F_X5_layOutSmooth_L18 (c_row_length : Int32) (c_row_signs : Nat → Int32) (x1 : Int32) : Nat → Int32 → (Nat → Int32) → (Nat → Int32) → (Nat → Int32) → (Nat → Int32) → (Nat → Int32) → (Nat → Int32) → Int32 → (Nat → Int32) → Int32 → Int32 → Int32 → Option (Int32 × (Nat → Int32) × (Nat → Int32) × (Nat → Int32) × (Nat → Int32) × (Nat → Int32) × (Nat → Int32) × Int32 × (Nat → Int32))
  | 0, _, _, _, _, _, _, _, _, _, _, _, _ => none
  | n + 1, c_bag_total, c_bag_often, c_smooth_all, c_smooth_inCell, c_smooth_madeFor, c_smooth_starting, c_smooth_weight, c_work_length, c_work_signs, x2, x3, x4 =>
    (F_X1_length c_row_length).bind (fun r24 =>
    if r24 ≤ x4 then
      some (c_bag_total, c_bag_often, c_smooth_all, c_smooth_inCell, c_smooth_madeFor, c_smooth_starting, c_smooth_weight, c_work_length, c_work_signs)
    else
      if x3 = (0 : Int32) then
        F_X5_layOutSmooth_L58 (F_X5_layOutSmooth_L18 c_row_length c_row_signs x1 n) c_row_length c_row_signs x1 FU c_bag_total c_bag_often c_smooth_all c_smooth_inCell c_smooth_madeFor c_smooth_starting c_smooth_weight c_work_length c_work_signs x2 x3 x4 (0 : Int32) (0 : Int32)
      else
        (F_X3_startingWith c_smooth_starting c_smooth_weight c_bag_often (0 : Int32)).bind (fun r53 =>
        F_X5_layOutSmooth_L58 (F_X5_layOutSmooth_L18 c_row_length c_row_signs x1 n) c_row_length c_row_signs x1 FU c_bag_total c_bag_often c_smooth_all c_smooth_inCell c_smooth_madeFor c_smooth_starting c_smooth_weight c_work_length c_work_signs x2 x3 x4 (0 : Int32) r53))
def F_X5_layOutSmooth (c_bag_total : Int32) (c_bag_often : Nat → Int32) (c_row_length : Int32) (c_row_signs : Nat → Int32) (c_smooth_all : Nat → Int32) (c_smooth_inCell : Nat → Int32) (c_smooth_madeFor : Nat → Int32) (c_smooth_starting : Nat → Int32) (c_smooth_weight : Nat → Int32) (c_work_length : Int32) (c_work_signs : Nat → Int32) (x1 : Int32) : Option (Int32 × (Nat → Int32) × (Nat → Int32) × (Nat → Int32) × (Nat → Int32) × (Nat → Int32) × (Nat → Int32) × Int32 × (Nat → Int32)) :=
  (F_X5_prepareSmooth c_bag_total c_bag_often c_row_length c_row_signs c_smooth_all c_smooth_inCell c_smooth_madeFor c_smooth_starting c_smooth_weight).bind (fun r1 =>
  (F_X1_clear c_work_length).bind (fun r8 =>
  F_X5_layOutSmooth_L18 c_row_length c_row_signs x1 FU r1.1 r1.2.1 r1.2.2.1 r1.2.2.2.1 r1.2.2.2.2.1 r1.2.2.2.2.2.1 r1.2.2.2.2.2.2 r8 c_work_signs x1 ((-1) : Int32) (0 : Int32)))
def F_X5_nextSmooth_J26 (c_gone : Int32) (c_bag_total : Int32) (c_bag_often : Nat → Int32) (c_row_length : Int32) (c_row_signs : Nat → Int32) (c_saves_held : Int32) (c_saves_slots : Nat → Int32) (c_smooth_all : Nat → Int32) (c_smooth_inCell : Nat → Int32) (c_smooth_madeFor : Nat → Int32) (c_smooth_starting : Nat → Int32) (c_smooth_weight : Nat → Int32) (c_work_length : Int32) (c_work_signs : Nat → Int32) (v0 : Int32) (v1 : Int32) : Option (Int32 × Int32 × Int32 × (Nat → Int32) × Int32 × (Nat → Int32) × Int32 × (Nat → Int32) × (Nat → Int32) × (Nat → Int32) × (Nat → Int32) × (Nat → Int32) × (Nat → Int32) × Int32 × (Nat → Int32)) :=
  (F_X5_allSmooth c_bag_total c_bag_often c_row_length c_row_signs c_smooth_all c_smooth_inCell c_smooth_madeFor c_smooth_starting c_smooth_weight).bind (fun r30 =>
  if (v0 + v1) < r30.1 then
    (F_X5_layOutSmooth r30.2.1 r30.2.2.1 c_row_length c_row_signs r30.2.2.2.1 r30.2.2.2.2.1 r30.2.2.2.2.2.1 r30.2.2.2.2.2.2.1 r30.2.2.2.2.2.2.2 c_work_length c_work_signs (v0 + v1)).bind (fun r48 =>
    (F_X5_arrive c_gone r48.1 r48.2.1 c_row_length c_row_signs c_saves_held c_saves_slots r48.2.2.2.2.2.2.2.1 r48.2.2.2.2.2.2.2.2).bind (fun r52 =>
    some (r52.1, r52.2.1, r52.2.2.1, r52.2.2.2.1, r52.2.2.2.2.1, r52.2.2.2.2.2.1, r52.2.2.2.2.2.2.1, r52.2.2.2.2.2.2.2, r48.2.2.1, r48.2.2.2.1, r48.2.2.2.2.1, r48.2.2.2.2.2.1, r48.2.2.2.2.2.2.1, r48.2.2.2.2.2.2.2.1, r48.2.2.2.2.2.2.2.2)))
  else
    none)
def F_X5_nextSmooth (c_gone : Int32) (c_bag_total : Int32) (c_bag_often : Nat → Int32) (c_row_length : Int32) (c_row_signs : Nat → Int32) (c_saves_held : Int32) (c_saves_slots : Nat → Int32) (c_smooth_all : Nat → Int32) (c_smooth_inCell : Nat → Int32) (c_smooth_madeFor : Nat → Int32) (c_smooth_starting : Nat → Int32) (c_smooth_weight : Nat → Int32) (c_work_length : Int32) (c_work_signs : Nat → Int32) : Option (Int32 × Int32 × Int32 × (Nat → Int32) × Int32 × (Nat → Int32) × Int32 × (Nat → Int32) × (Nat → Int32) × (Nat → Int32) × (Nat → Int32) × (Nat → Int32) × (Nat → Int32) × Int32 × (Nat → Int32)) :=
  (F_X5_smoothRank c_bag_total c_bag_often c_row_length c_row_signs c_smooth_all c_smooth_inCell c_smooth_madeFor c_smooth_starting c_smooth_weight).bind (fun r1 =>
  (F_X1_length c_row_length).bind (fun r12 =>
  (F_X1_isSmooth c_row_length c_row_signs r12).bind (fun r15 =>
  F_X5_nextSmooth_J26 c_gone r1.2.1 r1.2.2.1 c_row_length c_row_signs c_saves_held c_saves_slots r1.2.2.2.1 r1.2.2.2.2.1 r1.2.2.2.2.2.1 r1.2.2.2.2.2.2.1 r1.2.2.2.2.2.2.2 c_work_length c_work_signs r1.1 (if r15 = 0 then (0 : Int32) else (1 : Int32)))))
def F_X5_goToSmooth (c_gone : Int32) (c_bag_total : Int32) (c_bag_often : Nat → Int32) (c_row_length : Int32) (c_row_signs : Nat → Int32) (c_saves_held : Int32) (c_saves_slots : Nat → Int32) (c_smooth_all : Nat → Int32) (c_smooth_inCell : Nat → Int32) (c_smooth_madeFor : Nat → Int32) (c_smooth_starting : Nat → Int32) (c_smooth_weight : Nat → Int32) (c_work_length : Int32) (c_work_signs : Nat → Int32) (x1 : Int32) : Option (Int32 × Int32 × Int32 × (Nat → Int32) × Int32 × (Nat → Int32) × Int32 × (Nat → Int32) × (Nat → Int32) × (Nat → Int32) × (Nat → Int32) × (Nat → Int32) × (Nat → Int32) × Int32 × (Nat → Int32)) :=
  if x1 < 0 then
    none
  else
    (F_X5_allSmooth c_bag_total c_bag_often c_row_length c_row_signs c_smooth_all c_smooth_inCell c_smooth_madeFor c_smooth_starting c_smooth_weight).bind (fun r6 =>
    if x1 < r6.1 then
      (F_X5_layOutSmooth r6.2.1 r6.2.2.1 c_row_length c_row_signs r6.2.2.2.1 r6.2.2.2.2.1 r6.2.2.2.2.2.1 r6.2.2.2.2.2.2.1 r6.2.2.2.2.2.2.2 c_work_length c_work_signs x1).bind (fun r24 =>
      (F_X5_arrive c_gone r24.1 r24.2.1 c_row_length c_row_signs c_saves_held c_saves_slots r24.2.2.2.2.2.2.2.1 r24.2.2.2.2.2.2.2.2).bind (fun r28 =>
      some (r28.1, r28.2.1, r28.2.2.1, r28.2.2.2.1, r28.2.2.2.2.1, r28.2.2.2.2.2.1, r28.2.2.2.2.2.2.1, r28.2.2.2.2.2.2.2, r24.2.2.1, r24.2.2.2.1, r24.2.2.2.2.1, r24.2.2.2.2.2.1, r24.2.2.2.2.2.2.1, r24.2.2.2.2.2.2.2.1, r24.2.2.2.2.2.2.2.2)))
    else
      none)
def F_X5_needPlace (c_row_length : Int32) (x1 : Int32) : Option (Unit) :=
  (F_X1_has c_row_length x1).bind (fun r5 =>
  if r5 = 0 then
    none
  else
    some ())
def F_X5_swap (c_gone : Int32) (c_bag_total : Int32) (c_bag_often : Nat → Int32) (c_row_length : Int32) (c_row_signs : Nat → Int32) (c_saves_held : Int32) (c_saves_slots : Nat → Int32) (x1 : Int32) (x2 : Int32) : Option (Int32 × Int32 × (Nat → Int32) × (Nat → Int32) × Int32 × (Nat → Int32)) :=
  (F_X5_needPlace c_row_length x1).bind (fun r2 =>
  (F_X5_needPlace c_row_length x2).bind (fun r7 =>
  (F_X5_save c_gone c_row_length c_row_signs c_saves_held c_saves_slots).bind (fun r11 =>
  (F_X1_exchange c_row_length c_row_signs x1 x2).bind (fun r20 =>
  (F_X5_rankOf c_bag_total c_bag_often c_row_length r20).bind (fun r28 =>
  some (r28.1, r28.2.1, r28.2.2, r20, r11.1, r11.2))))))
def F_X5_turn_J20 (c_gone : Int32) (c_row_length : Int32) (x1 : Int32) (x2 : Int32) (c_bag_total : Int32) (c_bag_often : Nat → Int32) (c_row_signs : Nat → Int32) (c_saves_held : Int32) (c_saves_slots : Nat → Int32) (v0 : Int32) : Option (Int32 × Int32 × (Nat → Int32) × (Nat → Int32) × Int32 × (Nat → Int32)) :=
  (F_X5_need v0).bind (fun r20 =>
  (F_X5_save c_gone c_row_length c_row_signs c_saves_held c_saves_slots).bind (fun r24 =>
  (F_X1_reverse c_row_length c_row_signs x1 x2).bind (fun r33 =>
  (F_X5_rankOf c_bag_total c_bag_often c_row_length r33).bind (fun r41 =>
  some (r41.1, r41.2.1, r41.2.2, r33, r24.1, r24.2)))))
def F_X5_turn (c_gone : Int32) (c_bag_total : Int32) (c_bag_often : Nat → Int32) (c_row_length : Int32) (c_row_signs : Nat → Int32) (c_saves_held : Int32) (c_saves_slots : Nat → Int32) (x1 : Int32) (x2 : Int32) : Option (Int32 × Int32 × (Nat → Int32) × (Nat → Int32) × Int32 × (Nat → Int32)) :=
  (F_X5_needPlace c_row_length x1).bind (fun r2 =>
  (F_X5_needPlace c_row_length x2).bind (fun r7 =>
  F_X5_turn_J20 c_gone c_row_length x1 x2 c_bag_total c_bag_often c_row_signs c_saves_held c_saves_slots (if x2 < x1 then (0 : Int32) else (1 : Int32))))
def F_X5_carryOne (c_row_length : Int32) (c_row_signs : Nat → Int32) (x1 : Int32) : Option (Int32 × (Nat → Int32)) :=
  (F_X1_length c_row_length).bind (fun r5 =>
  if (r5 - (1 : Int32)) ≤ x1 then
    (F_X1_roll c_row_length c_row_signs).bind (fun r32 =>
    some ((0 : Int32), r32))
  else
    (F_X1_exchange c_row_length c_row_signs x1 (x1 + (1 : Int32))).bind (fun r21 =>
    some (x1 + (1 : Int32), r21)))
def F_X5_carry_L32 (c_gone : Int32) (c_row_length : Int32) (x1 : Int32) (x2 : Int32) : Nat → (Nat → Int32) → Int32 → (Nat → Int32) → Int32 → Int32 → Option (Int32 × (Nat → Int32) × Int32 × (Nat → Int32))
  | 0, _, _, _, _, _ => none
  | n + 1, c_row_signs, c_saves_held, c_saves_slots, x3, x4 =>
    if x2 ≤ x4 then
      some (x3, c_row_signs, c_saves_held, c_saves_slots)
    else
      (F_X5_carryOne c_row_length c_row_signs x3).bind (fun r40 =>
      F_X5_carry_L32 c_gone c_row_length x1 x2 n r40.2 c_saves_held c_saves_slots r40.1 (x4 + 1))
def F_X5_carry_J20 (c_gone : Int32) (c_row_length : Int32) (x1 : Int32) (x2 : Int32) (c_row_signs : Nat → Int32) (c_saves_held : Int32) (c_saves_slots : Nat → Int32) (v0 : Int32) : Option (Int32 × (Nat → Int32) × Int32 × (Nat → Int32)) :=
  (F_X5_need v0).bind (fun r20 =>
  (F_X5_save c_gone c_row_length c_row_signs c_saves_held c_saves_slots).bind (fun r24 =>
  F_X5_carry_L32 c_gone c_row_length x1 x2 FU c_row_signs r24.1 r24.2 x1 (0 : Int32)))
def F_X5_carry (c_gone : Int32) (c_row_length : Int32) (c_row_signs : Nat → Int32) (c_saves_held : Int32) (c_saves_slots : Nat → Int32) (x1 : Int32) (x2 : Int32) : Option (Int32 × (Nat → Int32) × Int32 × (Nat → Int32)) :=
  (F_X5_needPlace c_row_length x1).bind (fun r2 =>
  F_X5_carry_J20 c_gone c_row_length x1 x2 c_row_signs c_saves_held c_saves_slots (if x2 < 0 then (0 : Int32) else (if (20 : Int32) < x2 then (0 : Int32) else (1 : Int32))))
def F_X5_needSign_J15 (x0 : Int32) (v0 : Int32) : Option (Unit) :=
  (F_X5_need v0).bind (fun r15 =>
  some ())
def F_X5_needSign (x0 : Int32) : Option (Unit) :=
  F_X5_needSign_J15 x0 (if x0 < 0 then (0 : Int32) else (if (6 : Int32) ≤ x0 then (0 : Int32) else (1 : Int32)))
def F_X5_put (c_gone : Int32) (c_bag_total : Int32) (c_bag_often : Nat → Int32) (c_row_length : Int32) (c_row_signs : Nat → Int32) (c_saves_held : Int32) (c_saves_slots : Nat → Int32) (x1 : Int32) (x2 : Int32) : Option (Int32 × Int32 × (Nat → Int32) × Int32 × (Nat → Int32) × Int32 × (Nat → Int32)) :=
  if x1 < 0 then
    none
  else
    (F_X1_length c_row_length).bind (fun r9 =>
    if x1 ≤ r9 then
      (F_X5_needSign x2).bind (fun r26 =>
      (F_X1_length c_row_length).bind (fun r33 =>
      if r33 < (11 : Int32) then
        (F_X5_save c_gone c_row_length c_row_signs c_saves_held c_saves_slots).bind (fun r52 =>
        (F_X1_insert c_row_length c_row_signs x1 x2).bind (fun r61 =>
        (F_X5_all c_bag_total c_bag_often r61.1 r61.2).bind (fun r65 =>
        some (r65.1, r65.2.1, r65.2.2, r61.1, r61.2, r52.1, r52.2))))
      else
        none))
    else
      none)
def F_X5_take (c_gone : Int32) (c_row_length : Int32) (c_row_signs : Nat → Int32) (c_saves_held : Int32) (c_saves_slots : Nat → Int32) (x1 : Int32) : Option (Int32 × Int32 × (Nat → Int32) × Int32 × (Nat → Int32)) :=
  (F_X5_needPlace c_row_length x1).bind (fun r2 =>
  (F_X1_length c_row_length).bind (fun r9 =>
  if (1 : Int32) < r9 then
    (F_X5_save c_gone c_row_length c_row_signs c_saves_held c_saves_slots).bind (fun r27 =>
    (F_X1_at c_row_length c_row_signs x1).bind (fun r35 =>
    (F_X1_remove c_row_length c_row_signs x1).bind (fun r44 =>
    some (r35, r44.1, r44.2, r27.1, r27.2))))
  else
    none))
def F_X5_append_J17 (x1 : Int32) (c_text_length : Int32) (c_text_codes : Nat → Int32) (v0 : Int32) : Option (Int32 × Int32 × (Nat → Int32)) :=
  (F_X5_need v0).bind (fun r17 =>
  (F_X4_length c_text_length).bind (fun r24 =>
  if r24 < (60 : Int32) then
    (F_X4_add c_text_length c_text_codes x1).bind (fun r47 =>
    (F_X4_length r47.1).bind (fun r54 =>
    some (r54, r47.1, r47.2)))
  else
    none))
def F_X5_append (c_text_length : Int32) (c_text_codes : Nat → Int32) (x1 : Int32) : Option (Int32 × Int32 × (Nat → Int32)) :=
  F_X5_append_J17 x1 c_text_length c_text_codes (if x1 < (33 : Int32) then (0 : Int32) else (if (126 : Int32) < x1 then (0 : Int32) else (1 : Int32)))
def F_X5_clearBuffer (c_text_length : Int32) : Option (Int32 × Int32) :=
  (F_X4_length c_text_length).bind (fun r4 =>
  (F_X4_clear c_text_length).bind (fun r12 =>
  some (r4, r12)))
def F_X5_firstError (c_text_length : Int32) (c_text_codes : Nat → Int32) : Option (Int32) :=
  (F_X4_firstBad c_text_length c_text_codes).bind (fun r4 =>
  some r4)
def F_X5_read (c_gone : Int32) (c_bag_total : Int32) (c_bag_often : Nat → Int32) (c_row_length : Int32) (c_row_signs : Nat → Int32) (c_saves_held : Int32) (c_saves_slots : Nat → Int32) (c_text_length : Int32) (c_text_codes : Nat → Int32) : Option (Int32 × Int32 × (Nat → Int32) × Int32 × (Nat → Int32) × Int32 × (Nat → Int32) × Int32) :=
  (F_X4_length c_text_length).bind (fun r4 =>
  if r4 = 0 then
    none
  else
    (F_X4_firstBad c_text_length c_text_codes).bind (fun r14 =>
    (F_X4_length c_text_length).bind (fun r21 =>
    if r21 ≤ r14 then
      (F_X5_save c_gone c_row_length c_row_signs c_saves_held c_saves_slots).bind (fun r38 =>
      (F_X4_writeTo c_text_length c_text_codes c_row_length c_row_signs).bind (fun r49 =>
      (F_X4_clear c_text_length).bind (fun r56 =>
      (F_X5_rankOf c_bag_total c_bag_often r49.1 r49.2).bind (fun r64 =>
      some (r64.1, r64.2.1, r64.2.2, r49.1, r49.2, r38.1, r38.2, r56)))))
    else
      none)))
def F_X5_undo (c_gone : Int32) (c_row_length : Int32) (c_row_signs : Nat → Int32) (c_saves_held : Int32) (c_saves_slots : Nat → Int32) : Option (Int32 × Int32 × Int32 × (Nat → Int32) × Int32) :=
  (F_X2_held c_saves_held).bind (fun r4 =>
  if r4 = 0 then
    none
  else
    (F_X2_restore c_saves_held c_saves_slots c_row_length c_row_signs).bind (fun r29 =>
    (F_X2_held r29.2.1).bind (fun r39 =>
    some (r39, r29.1, r29.2.2.1, r29.2.2.2, r29.2.1))))
def F_X5_sign (c_row_length : Int32) (c_row_signs : Nat → Int32) (x1 : Int32) : Option (Int32) :=
  (F_X5_needPlace c_row_length x1).bind (fun r2 =>
  (F_X1_at c_row_length c_row_signs x1).bind (fun r10 =>
  some r10))
def F_X5_digit (c_bag_total : Int32) (c_bag_often : Nat → Int32) (c_row_length : Int32) (c_row_signs : Nat → Int32) (x1 : Int32) : Option (Int32 × Int32 × (Nat → Int32)) :=
  (F_X5_needPlace c_row_length x1).bind (fun r2 =>
  (F_X0_fill c_bag_total c_bag_often c_row_length c_row_signs x1).bind (fun r14 =>
  (F_X1_at c_row_length c_row_signs x1).bind (fun r26 =>
  (F_X0_unlikeBelow r14.2 r26).bind (fun r29 =>
  some (r29, r14.1, r14.2)))))
def F_X5_many (c_bag_total : Int32) (c_bag_often : Nat → Int32) (c_row_length : Int32) (c_row_signs : Nat → Int32) (x1 : Int32) : Option (Int32 × Int32 × (Nat → Int32)) :=
  (F_X5_needSign x1).bind (fun r1 =>
  (F_X0_fill c_bag_total c_bag_often c_row_length c_row_signs (0 : Int32)).bind (fun r13 =>
  (F_X0_of r13.2 x1).bind (fun r21 =>
  some (r21, r13.1, r13.2))))
def F_X5_block_J29 (c_row_length : Int32) (c_row_signs : Nat → Int32) (x1 : Int32) (x2 : Int32) (c_bag_total : Int32) (c_bag_often : Nat → Int32) (c_smooth_all : Nat → Int32) (c_smooth_inCell : Nat → Int32) (c_smooth_madeFor : Nat → Int32) (c_smooth_starting : Nat → Int32) (c_smooth_weight : Nat → Int32) (v0 : Int32) : Option (Int32 × Int32 × (Nat → Int32) × (Nat → Int32) × (Nat → Int32) × (Nat → Int32) × (Nat → Int32) × (Nat → Int32)) :=
  (F_X5_need v0).bind (fun r29 =>
  if x2 = 0 then
    (F_X5_lowestRank c_bag_total c_bag_often c_row_length c_row_signs x1).bind (fun r66 =>
    some (r66.1, r66.2.1, r66.2.2, c_smooth_all, c_smooth_inCell, c_smooth_madeFor, c_smooth_starting, c_smooth_weight))
  else if x2 = 1 then
    (F_X5_blockSize c_bag_total c_bag_often c_row_length c_row_signs x1).bind (fun r72 =>
    some (r72.1, r72.2.1, r72.2.2, c_smooth_all, c_smooth_inCell, c_smooth_madeFor, c_smooth_starting, c_smooth_weight))
  else 
    (F_X5_smoothInBlock c_bag_total c_bag_often c_row_length c_row_signs c_smooth_all c_smooth_inCell c_smooth_madeFor c_smooth_starting c_smooth_weight x1).bind (fun r78 =>
    some (r78.1, r78.2.1, r78.2.2.1, r78.2.2.2.1, r78.2.2.2.2.1, r78.2.2.2.2.2.1, r78.2.2.2.2.2.2.1, r78.2.2.2.2.2.2.2)))
def F_X5_block (c_bag_total : Int32) (c_bag_often : Nat → Int32) (c_row_length : Int32) (c_row_signs : Nat → Int32) (c_smooth_all : Nat → Int32) (c_smooth_inCell : Nat → Int32) (c_smooth_madeFor : Nat → Int32) (c_smooth_starting : Nat → Int32) (c_smooth_weight : Nat → Int32) (x1 : Int32) (x2 : Int32) : Option (Int32 × Int32 × (Nat → Int32) × (Nat → Int32) × (Nat → Int32) × (Nat → Int32) × (Nat → Int32) × (Nat → Int32)) :=
  if x1 < 0 then
    F_X5_block_J29 c_row_length c_row_signs x1 x2 c_bag_total c_bag_often c_smooth_all c_smooth_inCell c_smooth_madeFor c_smooth_starting c_smooth_weight (0 : Int32)
  else
    (F_X1_length c_row_length).bind (fun r9 =>
    F_X5_block_J29 c_row_length c_row_signs x1 x2 c_bag_total c_bag_often c_smooth_all c_smooth_inCell c_smooth_madeFor c_smooth_starting c_smooth_weight (if r9 < x1 then (0 : Int32) else (if x2 < 0 then (0 : Int32) else (if (3 : Int32) ≤ x2 then (0 : Int32) else (1 : Int32)))))
def F_X5_rankBySecondWay_L29 (k4 : Int32 → (Nat → Int32) → Int32 → Int32 → Option (Int32 × Int32 × (Nat → Int32))) (c_row_length : Int32) (c_row_signs : Nat → Int32) : Nat → Int32 → (Nat → Int32) → Int32 → Int32 → Int32 → Option (Int32 × Int32 × (Nat → Int32))
  | 0, _, _, _, _, _ => none
  | n + 1, c_bag_total, c_bag_often, x1, x2, x3 =>
    (F_X1_at c_row_length c_row_signs x2).bind (fun r35 =>
    if r35 ≤ x3 then
      k4 c_bag_total c_bag_often x1 (x2 + 1)
    else
      (F_X0_waysBehind c_bag_total c_bag_often x3).bind (fun r47 =>
      F_X5_rankBySecondWay_L29 k4 c_row_length c_row_signs n r47.2.1 r47.2.2 (x1 + r47.1) x2 (x3 + 1)))
def F_X5_rankBySecondWay_L4 (c_row_length : Int32) (c_row_signs : Nat → Int32) : Nat → Int32 → (Nat → Int32) → Int32 → Int32 → Option (Int32 × Int32 × (Nat → Int32))
  | 0, _, _, _, _ => none
  | n + 1, c_bag_total, c_bag_often, x1, x2 =>
    (F_X1_length c_row_length).bind (fun r9 =>
    if r9 ≤ x2 then
      some (x1, c_bag_total, c_bag_often)
    else
      (F_X0_fill c_bag_total c_bag_often c_row_length c_row_signs x2).bind (fun r24 =>
      F_X5_rankBySecondWay_L29 (F_X5_rankBySecondWay_L4 c_row_length c_row_signs n) c_row_length c_row_signs FU r24.1 r24.2 x1 x2 (0 : Int32)))
def F_X5_rankBySecondWay (c_bag_total : Int32) (c_bag_often : Nat → Int32) (c_row_length : Int32) (c_row_signs : Nat → Int32) : Option (Int32 × Int32 × (Nat → Int32)) :=
  F_X5_rankBySecondWay_L4 c_row_length c_row_signs FU c_bag_total c_bag_often (0 : Int32) (0 : Int32)
def F_X5_rankTurnedAround (c_bag_total : Int32) (c_bag_often : Nat → Int32) (c_row_length : Int32) (c_row_signs : Nat → Int32) (c_work_length : Int32) (c_work_signs : Nat → Int32) : Option (Int32 × Int32 × (Nat → Int32) × Int32 × (Nat → Int32)) :=
  (F_X1_become c_work_length c_work_signs c_row_length c_row_signs).bind (fun r8 =>
  (F_X1_length r8.1).bind (fun r20 =>
  (F_X1_reverse r8.1 r8.2 (0 : Int32) (r20 - (1 : Int32))).bind (fun r25 =>
  (F_X5_rankOf c_bag_total c_bag_often r8.1 r25).bind (fun r33 =>
  some (r33.1, r33.2.1, r33.2.2, r8.1, r25)))))
def F_X5_unlikeSigns (c_bag_total : Int32) (c_bag_often : Nat → Int32) (c_row_length : Int32) (c_row_signs : Nat → Int32) : Option (Int32 × Int32 × (Nat → Int32)) :=
  (F_X0_fill c_bag_total c_bag_often c_row_length c_row_signs (0 : Int32)).bind (fun r9 =>
  (F_X0_unlikeBelow r9.2 (6 : Int32)).bind (fun r18 =>
  some (r18, r9.1, r9.2)))
def F_X5_count_J15 (c_gone : Int32) (c_row_length : Int32) (c_row_signs : Nat → Int32) (c_saves_held : Int32) (x1 : Int32) (c_bag_total : Int32) (c_bag_often : Nat → Int32) (c_smooth_all : Nat → Int32) (c_smooth_inCell : Nat → Int32) (c_smooth_madeFor : Nat → Int32) (c_smooth_starting : Nat → Int32) (c_smooth_weight : Nat → Int32) (c_work_length : Int32) (c_work_signs : Nat → Int32) (v0 : Int32) : Option (Int32 × Int32 × (Nat → Int32) × (Nat → Int32) × (Nat → Int32) × (Nat → Int32) × (Nat → Int32) × (Nat → Int32) × Int32 × (Nat → Int32)) :=
  (F_X5_need v0).bind (fun r15 =>
  if x1 = 0 then
    (F_X1_length c_row_length).bind (fun r88 =>
    some (r88, c_bag_total, c_bag_often, c_smooth_all, c_smooth_inCell, c_smooth_madeFor, c_smooth_starting, c_smooth_weight, c_work_length, c_work_signs))
  else if x1 = 1 then
    (F_X5_unlikeSigns c_bag_total c_bag_often c_row_length c_row_signs).bind (fun r93 =>
    some (r93.1, r93.2.1, r93.2.2, c_smooth_all, c_smooth_inCell, c_smooth_madeFor, c_smooth_starting, c_smooth_weight, c_work_length, c_work_signs))
  else if x1 = 2 then
    (F_X5_all c_bag_total c_bag_often c_row_length c_row_signs).bind (fun r98 =>
    some (r98.1, r98.2.1, r98.2.2, c_smooth_all, c_smooth_inCell, c_smooth_madeFor, c_smooth_starting, c_smooth_weight, c_work_length, c_work_signs))
  else if x1 = 3 then
    (F_X5_rankOf c_bag_total c_bag_often c_row_length c_row_signs).bind (fun r107 =>
    some (r107.1, r107.2.1, r107.2.2, c_smooth_all, c_smooth_inCell, c_smooth_madeFor, c_smooth_starting, c_smooth_weight, c_work_length, c_work_signs))
  else if x1 = 4 then
    (F_X5_allSmooth c_bag_total c_bag_often c_row_length c_row_signs c_smooth_all c_smooth_inCell c_smooth_madeFor c_smooth_starting c_smooth_weight).bind (fun r112 =>
    some (r112.1, r112.2.1, r112.2.2.1, r112.2.2.2.1, r112.2.2.2.2.1, r112.2.2.2.2.2.1, r112.2.2.2.2.2.2.1, r112.2.2.2.2.2.2.2, c_work_length, c_work_signs))
  else if x1 = 5 then
    (F_X5_smoothRank c_bag_total c_bag_often c_row_length c_row_signs c_smooth_all c_smooth_inCell c_smooth_madeFor c_smooth_starting c_smooth_weight).bind (fun r117 =>
    some (r117.1, r117.2.1, r117.2.2.1, r117.2.2.2.1, r117.2.2.2.2.1, r117.2.2.2.2.2.1, r117.2.2.2.2.2.2.1, r117.2.2.2.2.2.2.2, c_work_length, c_work_signs))
  else if x1 = 6 then
    (F_X1_length c_row_length).bind (fun r129 =>
    (F_X1_isSmooth c_row_length c_row_signs r129).bind (fun r132 =>
    some ((if r132 = 0 then (0 : Int32) else (1 : Int32)), c_bag_total, c_bag_often, c_smooth_all, c_smooth_inCell, c_smooth_madeFor, c_smooth_starting, c_smooth_weight, c_work_length, c_work_signs)))
  else if x1 = 7 then
    (F_X1_inversions c_row_length c_row_signs).bind (fun r148 =>
    some (r148, c_bag_total, c_bag_often, c_smooth_all, c_smooth_inCell, c_smooth_madeFor, c_smooth_starting, c_smooth_weight, c_work_length, c_work_signs))
  else if x1 = 8 then
    (F_X1_descents c_row_length c_row_signs).bind (fun r156 =>
    some (r156, c_bag_total, c_bag_often, c_smooth_all, c_smooth_inCell, c_smooth_madeFor, c_smooth_starting, c_smooth_weight, c_work_length, c_work_signs))
  else if x1 = 9 then
    (F_X1_majorIndex c_row_length c_row_signs).bind (fun r164 =>
    some (r164, c_bag_total, c_bag_often, c_smooth_all, c_smooth_inCell, c_smooth_madeFor, c_smooth_starting, c_smooth_weight, c_work_length, c_work_signs))
  else if x1 = 10 then
    (F_X5_rankTurnedAround c_bag_total c_bag_often c_row_length c_row_signs c_work_length c_work_signs).bind (fun r169 =>
    some (r169.1, r169.2.1, r169.2.2.1, c_smooth_all, c_smooth_inCell, c_smooth_madeFor, c_smooth_starting, c_smooth_weight, r169.2.2.2.1, r169.2.2.2.2))
  else if x1 = 11 then
    (F_X5_rankBySecondWay c_bag_total c_bag_often c_row_length c_row_signs).bind (fun r174 =>
    some (r174.1, r174.2.1, r174.2.2, c_smooth_all, c_smooth_inCell, c_smooth_madeFor, c_smooth_starting, c_smooth_weight, c_work_length, c_work_signs))
  else if x1 = 12 then
    some (c_gone, c_bag_total, c_bag_often, c_smooth_all, c_smooth_inCell, c_smooth_madeFor, c_smooth_starting, c_smooth_weight, c_work_length, c_work_signs)
  else 
    (F_X2_held c_saves_held).bind (fun r187 =>
    some (r187, c_bag_total, c_bag_often, c_smooth_all, c_smooth_inCell, c_smooth_madeFor, c_smooth_starting, c_smooth_weight, c_work_length, c_work_signs)))
def F_X5_count (c_gone : Int32) (c_bag_total : Int32) (c_bag_often : Nat → Int32) (c_row_length : Int32) (c_row_signs : Nat → Int32) (c_saves_held : Int32) (c_smooth_all : Nat → Int32) (c_smooth_inCell : Nat → Int32) (c_smooth_madeFor : Nat → Int32) (c_smooth_starting : Nat → Int32) (c_smooth_weight : Nat → Int32) (c_work_length : Int32) (c_work_signs : Nat → Int32) (x1 : Int32) : Option (Int32 × Int32 × (Nat → Int32) × (Nat → Int32) × (Nat → Int32) × (Nat → Int32) × (Nat → Int32) × (Nat → Int32) × Int32 × (Nat → Int32)) :=
  F_X5_count_J15 c_gone c_row_length c_row_signs c_saves_held x1 c_bag_total c_bag_often c_smooth_all c_smooth_inCell c_smooth_madeFor c_smooth_starting c_smooth_weight c_work_length c_work_signs (if x1 < 0 then (0 : Int32) else (if (14 : Int32) ≤ x1 then (0 : Int32) else (1 : Int32)))
def F_X5_rankIfExchanged (c_bag_total : Int32) (c_bag_often : Nat → Int32) (c_row_length : Int32) (c_row_signs : Nat → Int32) (c_work_length : Int32) (c_work_signs : Nat → Int32) (x1 : Int32) (x2 : Int32) : Option (Int32 × Int32 × (Nat → Int32) × Int32 × (Nat → Int32)) :=
  (F_X1_become c_work_length c_work_signs c_row_length c_row_signs).bind (fun r8 =>
  (F_X1_exchange r8.1 r8.2 x1 x2).bind (fun r17 =>
  (F_X5_rankOf c_bag_total c_bag_often r8.1 r17).bind (fun r25 =>
  some (r25.1, r25.2.1, r25.2.2, r8.1, r17))))
def F_X5_ifSwapped (c_bag_total : Int32) (c_bag_often : Nat → Int32) (c_row_length : Int32) (c_row_signs : Nat → Int32) (c_work_length : Int32) (c_work_signs : Nat → Int32) (x1 : Int32) (x2 : Int32) : Option (Int32 × Int32 × (Nat → Int32) × Int32 × (Nat → Int32)) :=
  (F_X5_needPlace c_row_length x1).bind (fun r2 =>
  (F_X5_needPlace c_row_length x2).bind (fun r7 =>
  (F_X5_rankIfExchanged c_bag_total c_bag_often c_row_length c_row_signs c_work_length c_work_signs x1 x2).bind (fun r13 =>
  some (r13.1, r13.2.1, r13.2.2.1, r13.2.2.2.1, r13.2.2.2.2))))
def F_X5_signOf (c_bag_total : Int32) (c_bag_often : Nat → Int32) (c_row_length : Int32) (c_row_signs : Nat → Int32) (c_work_length : Int32) (c_work_signs : Nat → Int32) (x1 : Int32) (x2 : Int32) : Option (Int32 × Int32 × (Nat → Int32) × Int32 × (Nat → Int32)) :=
  (F_X5_needPlace c_row_length x2).bind (fun r2 =>
  (F_X5_needRank c_bag_total c_bag_often c_row_length c_row_signs x1).bind (fun r7 =>
  (F_X5_layOut r7.1 r7.2 c_row_length c_row_signs c_work_length c_work_signs x1).bind (fun r12 =>
  (F_X1_at r12.2.2.1 r12.2.2.2 x2).bind (fun r20 =>
  some (r20, r12.1, r12.2.1, r12.2.2.1, r12.2.2.2)))))
def F_X5_havingBehind_J74 (c_work_length : Int32) (c_work_signs : Nat → Int32) (x1 : Int32) (x2 : Int32) (x3 : Int32) (x4 : Int32) (c_bag_total : Int32) (c_bag_often : Nat → Int32) (x5 : Int32) (v0 : Int32) : Option (Int32 × Int32 × (Nat → Int32)) :=
  some ((if v0 = x4 then x5 else (0 : Int32)), c_bag_total, c_bag_often)
def F_X5_havingBehind (c_bag_total : Int32) (c_bag_often : Nat → Int32) (c_work_length : Int32) (c_work_signs : Nat → Int32) (x1 : Int32) (x2 : Int32) (x3 : Int32) (x4 : Int32) : Option (Int32 × Int32 × (Nat → Int32)) :=
  (F_X0_fill c_bag_total c_bag_often c_work_length c_work_signs x1).bind (fun r9 =>
  (F_X0_waysBehind r9.1 r9.2 x2).bind (fun r17 =>
  if x3 ≤ x1 then
    if x1 ≤ x3 then
      F_X5_havingBehind_J74 c_work_length c_work_signs x1 x2 x3 x4 r17.2.1 r17.2.2 r17.1 x2
    else
      (F_X1_at c_work_length c_work_signs x3).bind (fun r67 =>
      F_X5_havingBehind_J74 c_work_length c_work_signs x1 x2 x3 x4 r17.2.1 r17.2.2 r17.1 r67)
  else
    (F_X0_drop r17.2.1 r17.2.2 x2).bind (fun r32 =>
    (F_X0_of r32.2 x4).bind (fun r43 =>
    (F_X0_total r32.1).bind (fun r50 =>
    (F_X5_part r17.1 r43 r50).bind (fun r53 =>
    some (r53, r32.1, r32.2)))))))
def F_X5_havingBelow_L74 (k59 : Int32 → (Nat → Int32) → Int32 → (Nat → Int32) → Int32 → Int32 → Option (Int32 × Int32 × (Nat → Int32) × Int32 × (Nat → Int32))) (c_row_length : Int32) (c_row_signs : Nat → Int32) (x1 : Int32) (x2 : Int32) (x3 : Int32) : Nat → Int32 → (Nat → Int32) → Int32 → (Nat → Int32) → Int32 → Int32 → Int32 → Option (Int32 × Int32 × (Nat → Int32) × Int32 × (Nat → Int32))
  | 0, _, _, _, _, _, _, _ => none
  | n + 1, c_bag_total, c_bag_often, c_work_length, c_work_signs, x5, x6, x7 =>
    (F_X1_at c_work_length c_work_signs x6).bind (fun r82 =>
    if r82 ≤ x7 then
      k59 c_bag_total c_bag_often c_work_length c_work_signs x5 (x6 + 1)
    else
      (F_X5_havingBehind c_bag_total c_bag_often c_work_length c_work_signs x6 x7 x2 x3).bind (fun r97 =>
      F_X5_havingBelow_L74 k59 c_row_length c_row_signs x1 x2 x3 n r97.2.1 r97.2.2 c_work_length c_work_signs (x5 + r97.1) x6 (x7 + 1)))
def F_X5_havingBelow_L59 (c_row_length : Int32) (c_row_signs : Nat → Int32) (x1 : Int32) (x2 : Int32) (x3 : Int32) : Nat → Int32 → (Nat → Int32) → Int32 → (Nat → Int32) → Int32 → Int32 → Option (Int32 × Int32 × (Nat → Int32) × Int32 × (Nat → Int32))
  | 0, _, _, _, _, _, _ => none
  | n + 1, c_bag_total, c_bag_often, c_work_length, c_work_signs, x5, x6 =>
    (F_X1_length c_work_length).bind (fun r65 =>
    if r65 ≤ x6 then
      some (x5, c_bag_total, c_bag_often, c_work_length, c_work_signs)
    else
      F_X5_havingBelow_L74 (F_X5_havingBelow_L59 c_row_length c_row_signs x1 x2 x3 n) c_row_length c_row_signs x1 x2 x3 FU c_bag_total c_bag_often c_work_length c_work_signs x5 x6 (0 : Int32))
def F_X5_havingBelow (c_bag_total : Int32) (c_bag_often : Nat → Int32) (c_row_length : Int32) (c_row_signs : Nat → Int32) (c_work_length : Int32) (c_work_signs : Nat → Int32) (x1 : Int32) (x2 : Int32) (x3 : Int32) : Option (Int32 × Int32 × (Nat → Int32) × Int32 × (Nat → Int32)) :=
  (F_X0_fill c_bag_total c_bag_often c_row_length c_row_signs (0 : Int32)).bind (fun r9 =>
  (F_X0_ways r9.1 r9.2).bind (fun r16 =>
  if x1 < r16 then
    (F_X5_layOut r9.1 r9.2 c_row_length c_row_signs c_work_length c_work_signs x1).bind (fun r50 =>
    F_X5_havingBelow_L59 c_row_length c_row_signs x1 x2 x3 FU r50.1 r50.2.1 r50.2.2.1 r50.2.2.2 (0 : Int32) (0 : Int32))
  else
    (F_X0_of r9.2 x3).bind (fun r34 =>
    (F_X0_total r9.1).bind (fun r41 =>
    (F_X5_part r16 r34 r41).bind (fun r44 =>
    some (r44, r9.1, r9.2, c_work_length, c_work_signs))))))
def F_X5_having_J27 (c_row_length : Int32) (c_row_signs : Nat → Int32) (x1 : Int32) (x2 : Int32) (x3 : Int32) (x4 : Int32) (c_bag_total : Int32) (c_bag_often : Nat → Int32) (c_work_length : Int32) (c_work_signs : Nat → Int32) (v0 : Int32) : Option (Int32 × Int32 × (Nat → Int32) × Int32 × (Nat → Int32)) :=
  (F_X5_need v0).bind (fun r27 =>
  (F_X5_needSign x4).bind (fun r32 =>
  (F_X5_havingBelow c_bag_total c_bag_often c_row_length c_row_signs c_work_length c_work_signs x2 x3 x4).bind (fun r40 =>
  (F_X5_havingBelow r40.2.1 r40.2.2.1 c_row_length c_row_signs r40.2.2.2.1 r40.2.2.2.2 x1 x3 x4).bind (fun r48 =>
  some (r40.1 - r48.1, r48.2.1, r48.2.2.1, r48.2.2.2.1, r48.2.2.2.2)))))
def F_X5_having (c_bag_total : Int32) (c_bag_often : Nat → Int32) (c_row_length : Int32) (c_row_signs : Nat → Int32) (c_work_length : Int32) (c_work_signs : Nat → Int32) (x1 : Int32) (x2 : Int32) (x3 : Int32) (x4 : Int32) : Option (Int32 × Int32 × (Nat → Int32) × Int32 × (Nat → Int32)) :=
  (F_X5_needPlace c_row_length x3).bind (fun r2 =>
  if x1 < 0 then
    F_X5_having_J27 c_row_length c_row_signs x1 x2 x3 x4 c_bag_total c_bag_often c_work_length c_work_signs (0 : Int32)
  else
    if x2 < x1 then
      F_X5_having_J27 c_row_length c_row_signs x1 x2 x3 x4 c_bag_total c_bag_often c_work_length c_work_signs (0 : Int32)
    else
      (F_X5_all c_bag_total c_bag_often c_row_length c_row_signs).bind (fun r16 =>
      F_X5_having_J27 c_row_length c_row_signs x1 x2 x3 x4 r16.2.1 r16.2.2 c_work_length c_work_signs (if r16.1 < x2 then (0 : Int32) else (1 : Int32))))
def F_X5_stepsTo_L25 (c_row_length : Int32) (c_row_signs : Nat → Int32) (x1 : Int32) : Nat → Int32 → (Nat → Int32) → Int32 → (Nat → Int32) → Int32 → (Nat → Int32) → Int32 → Int32 → Option (Int32 × Int32 × (Nat → Int32) × Int32 × (Nat → Int32) × Int32 × (Nat → Int32))
  | 0, _, _, _, _, _, _, _, _ => none
  | n + 1, c_bag_total, c_bag_often, c_rest_length, c_rest_signs, c_work_length, c_work_signs, x2, x3 =>
    (F_X1_length c_work_length).bind (fun r30 =>
    if r30 ≤ x3 then
      some (x2, c_bag_total, c_bag_often, c_rest_length, c_rest_signs, c_work_length, c_work_signs)
    else
      (F_X1_at c_work_length c_work_signs x3).bind (fun r45 =>
      (F_X1_find c_rest_length c_rest_signs r45 x3).bind (fun r49 =>
      (F_X1_bringAhead c_rest_length c_rest_signs r49 x3).bind (fun r61 =>
      F_X5_stepsTo_L25 c_row_length c_row_signs x1 n c_bag_total c_bag_often c_rest_length r61 c_work_length c_work_signs (x2 + (r49 - x3)) (x3 + 1)))))
def F_X5_stepsTo (c_bag_total : Int32) (c_bag_often : Nat → Int32) (c_rest_length : Int32) (c_rest_signs : Nat → Int32) (c_row_length : Int32) (c_row_signs : Nat → Int32) (c_work_length : Int32) (c_work_signs : Nat → Int32) (x1 : Int32) : Option (Int32 × Int32 × (Nat → Int32) × Int32 × (Nat → Int32) × Int32 × (Nat → Int32)) :=
  (F_X5_needRank c_bag_total c_bag_often c_row_length c_row_signs x1).bind (fun r2 =>
  (F_X5_layOut r2.1 r2.2 c_row_length c_row_signs c_work_length c_work_signs x1).bind (fun r7 =>
  (F_X1_become c_rest_length c_rest_signs c_row_length c_row_signs).bind (fun r18 =>
  F_X5_stepsTo_L25 c_row_length c_row_signs x1 FU r7.1 r7.2.1 r18.1 r18.2 r7.2.2.1 r7.2.2.2 (0 : Int32) (0 : Int32))))
def F_X5_bestSwap_L45 (k27 : Int32 → (Nat → Int32) → Int32 → (Nat → Int32) → Int32 → Int32 → Int32 → Int32 → Option (Int32 × Int32 × (Nat → Int32) × Int32 × (Nat → Int32))) (c_row_length : Int32) (c_row_signs : Nat → Int32) (x1 : Int32) : Nat → Int32 → (Nat → Int32) → Int32 → (Nat → Int32) → Int32 → Int32 → Int32 → Int32 → Int32 → Option (Int32 × Int32 × (Nat → Int32) × Int32 × (Nat → Int32))
  | 0, _, _, _, _, _, _, _, _, _ => none
  | n + 1, c_bag_total, c_bag_often, c_work_length, c_work_signs, x2, x3, x4, x5, x6 =>
    (F_X1_length c_row_length).bind (fun r51 =>
    if r51 ≤ x6 then
      k27 c_bag_total c_bag_often c_work_length c_work_signs x2 x3 x4 (x5 + 1)
    else
      (F_X5_rankIfExchanged c_bag_total c_bag_often c_row_length c_row_signs c_work_length c_work_signs x5 x6).bind (fun r62 =>
      F_X5_bestSwap_L45 k27 c_row_length c_row_signs x1 n r62.2.1 r62.2.2.1 r62.2.2.2.1 r62.2.2.2.2 (if r62.1 ≤ x2 then x2 else r62.1) (if r62.1 ≤ x2 then x3 else x5) (if r62.1 ≤ x2 then x4 else x6) x5 (x6 + 1)))
def F_X5_bestSwap_L27 (c_row_length : Int32) (c_row_signs : Nat → Int32) (x1 : Int32) : Nat → Int32 → (Nat → Int32) → Int32 → (Nat → Int32) → Int32 → Int32 → Int32 → Int32 → Option (Int32 × Int32 × (Nat → Int32) × Int32 × (Nat → Int32))
  | 0, _, _, _, _, _, _, _, _ => none
  | n + 1, c_bag_total, c_bag_often, c_work_length, c_work_signs, x2, x3, x4, x5 =>
    (F_X1_length c_row_length).bind (fun r33 =>
    if r33 ≤ x5 then
      some ((if x1 = 0 then x2 else (if x1 = (1 : Int32) then x3 else x4)), c_bag_total, c_bag_often, c_work_length, c_work_signs)
    else
      F_X5_bestSwap_L45 (F_X5_bestSwap_L27 c_row_length c_row_signs x1 n) c_row_length c_row_signs x1 FU c_bag_total c_bag_often c_work_length c_work_signs x2 x3 x4 x5 (x5 + (1 : Int32)))
def F_X5_bestSwap_J14 (c_row_length : Int32) (c_row_signs : Nat → Int32) (x1 : Int32) (c_bag_total : Int32) (c_bag_often : Nat → Int32) (c_work_length : Int32) (c_work_signs : Nat → Int32) (v0 : Int32) : Option (Int32 × Int32 × (Nat → Int32) × Int32 × (Nat → Int32)) :=
  (F_X5_need v0).bind (fun r14 =>
  F_X5_bestSwap_L27 c_row_length c_row_signs x1 FU c_bag_total c_bag_often c_work_length c_work_signs ((-1) : Int32) ((-1) : Int32) ((-1) : Int32) (0 : Int32))
def F_X5_bestSwap (c_bag_total : Int32) (c_bag_often : Nat → Int32) (c_row_length : Int32) (c_row_signs : Nat → Int32) (c_work_length : Int32) (c_work_signs : Nat → Int32) (x1 : Int32) : Option (Int32 × Int32 × (Nat → Int32) × Int32 × (Nat → Int32)) :=
  F_X5_bestSwap_J14 c_row_length c_row_signs x1 c_bag_total c_bag_often c_work_length c_work_signs (if x1 < 0 then (0 : Int32) else (if (3 : Int32) ≤ x1 then (0 : Int32) else (1 : Int32)))
def F_X5_share (c_bag_total : Int32) (c_bag_often : Nat → Int32) (c_row_length : Int32) (c_row_signs : Nat → Int32) : Option (UInt64 × Int32 × (Nat → Int32)) :=
  (F_X5_all c_bag_total c_bag_often c_row_length c_row_signs).bind (fun r1 =>
  if r1.1 ≤ 0 then
    some (FP.dconst0, r1.2.1, r1.2.2)
  else
    (F_X5_rankOf r1.2.1 r1.2.2 c_row_length c_row_signs).bind (fun r14 =>
    gd (nn (FP.ddiv (FP.i2d r14.1) (FP.i2d r1.1))) (
    some (FP.ddiv (FP.i2d r14.1) (FP.i2d r1.1), r14.2.1, r14.2.2))))
def F_X5_mixed (x0 : Int64) (x2 : Int64) : Option (Int64) :=
  some (((31 : Int64) * x0) + x2)
def F_X5_bitsOf_J39 (x0 : UInt64) (x2 : UInt64) (x4 : Int32) : Option (Int64) :=
  gd (nn (FP.dsub x2 FP.dconst1)) (
  gd (nn (FP.dmul (FP.dsub x2 FP.dconst1) (4841369599423283200 : UInt64))) (
  some ((((x4).toInt64) <<< (((52 : Int32)).toInt64 &&& 63)) + (FP.d2l (FP.dmul (FP.dsub x2 FP.dconst1) (4841369599423283200 : UInt64))))))
def F_X5_bitsOf_L15 (x0 : UInt64) : Nat → UInt64 → Int32 → Option (Int64)
  | 0, _, _ => none
  | n + 1, x2, x4 =>
    if 0 ≤ (Op.cmpValue (FP.dcmp x2 FP.dconst1) .g) then
      F_X5_bitsOf_J39 x0 x2 x4
    else
      if x4 ≤ (1 : Int32) then
        F_X5_bitsOf_J39 x0 x2 x4
      else
        gd (nn (FP.dmul x2 (4611686018427387904 : UInt64))) (
        F_X5_bitsOf_L15 x0 n (FP.dmul x2 (4611686018427387904 : UInt64)) (x4 + (-1)))
def F_X5_bitsOf (x0 : UInt64) : Option (Int64) :=
  if 0 < (Op.cmpValue (FP.dcmp x0 FP.dconst0) .g) then
    F_X5_bitsOf_L15 x0 FU x0 (1023 : Int32)
  else
    some (0 : Int64)
def F_X5_digest_L80 (k41 : Int32 → (Nat → Int32) → Int32 → (Nat → Int32) → (Nat → Int32) → (Nat → Int32) → (Nat → Int32) → (Nat → Int32) → (Nat → Int32) → Int32 → (Nat → Int32) → Int64 → Int32 → Int32 → Option (Int64 × Int32 × (Nat → Int32) × Int32 × (Nat → Int32) × (Nat → Int32) × (Nat → Int32) × (Nat → Int32) × (Nat → Int32) × (Nat → Int32) × Int32 × (Nat → Int32))) (c_gone : Int32) (c_row_length : Int32) (c_row_signs : Nat → Int32) (c_saves_held : Int32) (c_text_length : Int32) (c_text_codes : Nat → Int32) : Nat → Int32 → (Nat → Int32) → Int32 → (Nat → Int32) → (Nat → Int32) → (Nat → Int32) → (Nat → Int32) → (Nat → Int32) → (Nat → Int32) → Int32 → (Nat → Int32) → Int64 → Int32 → Int32 → Int32 → Option (Int64 × Int32 × (Nat → Int32) × Int32 × (Nat → Int32) × (Nat → Int32) × (Nat → Int32) × (Nat → Int32) × (Nat → Int32) × (Nat → Int32) × Int32 × (Nat → Int32))
  | 0, _, _, _, _, _, _, _, _, _, _, _, _, _, _, _ => none
  | n + 1, c_bag_total, c_bag_often, c_rest_length, c_rest_signs, c_smooth_all, c_smooth_inCell, c_smooth_madeFor, c_smooth_starting, c_smooth_weight, c_work_length, c_work_signs, x1, x3, x4, x5 =>
    if (3 : Int32) ≤ x5 then
      (F_X5_ifSwapped c_bag_total c_bag_often c_row_length c_row_signs c_work_length c_work_signs x4 (0 : Int32)).bind (fun r111 =>
      (F_X5_mixed x1 ((r111.1).toInt64)).bind (fun r115 =>
      (F_X5_having r111.2.1 r111.2.2.1 c_row_length c_row_signs r111.2.2.2.1 r111.2.2.2.2 (0 : Int32) x3 x4 (0 : Int32)).bind (fun r126 =>
      (F_X5_mixed r115 ((r126.1).toInt64)).bind (fun r130 =>
      k41 r126.2.1 r126.2.2.1 c_rest_length c_rest_signs c_smooth_all c_smooth_inCell c_smooth_madeFor c_smooth_starting c_smooth_weight r126.2.2.2.1 r126.2.2.2.2 r130 x3 (x4 + 1)))))
    else
      (F_X5_block c_bag_total c_bag_often c_row_length c_row_signs c_smooth_all c_smooth_inCell c_smooth_madeFor c_smooth_starting c_smooth_weight x4 x5).bind (fun r92 =>
      (F_X5_mixed x1 ((r92.1).toInt64)).bind (fun r96 =>
      F_X5_digest_L80 k41 c_gone c_row_length c_row_signs c_saves_held c_text_length c_text_codes n r92.2.1 r92.2.2.1 c_rest_length c_rest_signs r92.2.2.2.1 r92.2.2.2.2.1 r92.2.2.2.2.2.1 r92.2.2.2.2.2.2.1 r92.2.2.2.2.2.2.2 c_work_length c_work_signs r96 x3 x4 (x5 + 1)))
def F_X5_digest_L278 (c_gone : Int32) (c_row_length : Int32) (c_row_signs : Nat → Int32) (c_saves_held : Int32) (c_text_length : Int32) (c_text_codes : Nat → Int32) : Nat → Int32 → (Nat → Int32) → Int32 → (Nat → Int32) → (Nat → Int32) → (Nat → Int32) → (Nat → Int32) → (Nat → Int32) → (Nat → Int32) → Int32 → (Nat → Int32) → Int64 → Int32 → Option (Int64 × Int32 × (Nat → Int32) × Int32 × (Nat → Int32) × (Nat → Int32) × (Nat → Int32) × (Nat → Int32) × (Nat → Int32) × (Nat → Int32) × Int32 × (Nat → Int32))
  | 0, _, _, _, _, _, _, _, _, _, _, _, _, _ => none
  | n + 1, c_bag_total, c_bag_often, c_rest_length, c_rest_signs, c_smooth_all, c_smooth_inCell, c_smooth_madeFor, c_smooth_starting, c_smooth_weight, c_work_length, c_work_signs, x1, x5 =>
    (F_X4_length c_text_length).bind (fun r284 =>
    if r284 ≤ x5 then
      some (x1, c_bag_total, c_bag_often, c_rest_length, c_rest_signs, c_smooth_all, c_smooth_inCell, c_smooth_madeFor, c_smooth_starting, c_smooth_weight, c_work_length, c_work_signs)
    else
      (F_X4_at c_text_length c_text_codes x5).bind (fun r297 =>
      (F_X5_mixed x1 ((r297).toInt64)).bind (fun r301 =>
      F_X5_digest_L278 c_gone c_row_length c_row_signs c_saves_held c_text_length c_text_codes n c_bag_total c_bag_often c_rest_length c_rest_signs c_smooth_all c_smooth_inCell c_smooth_madeFor c_smooth_starting c_smooth_weight c_work_length c_work_signs r301 (x5 + 1))))
def F_X5_digest_L226 (c_gone : Int32) (c_row_length : Int32) (c_row_signs : Nat → Int32) (c_saves_held : Int32) (c_text_length : Int32) (c_text_codes : Nat → Int32) : Nat → Int32 → (Nat → Int32) → Int32 → (Nat → Int32) → (Nat → Int32) → (Nat → Int32) → (Nat → Int32) → (Nat → Int32) → (Nat → Int32) → Int32 → (Nat → Int32) → Int64 → Int32 → Option (Int64 × Int32 × (Nat → Int32) × Int32 × (Nat → Int32) × (Nat → Int32) × (Nat → Int32) × (Nat → Int32) × (Nat → Int32) × (Nat → Int32) × Int32 × (Nat → Int32))
  | 0, _, _, _, _, _, _, _, _, _, _, _, _, _ => none
  | n + 1, c_bag_total, c_bag_often, c_rest_length, c_rest_signs, c_smooth_all, c_smooth_inCell, c_smooth_madeFor, c_smooth_starting, c_smooth_weight, c_work_length, c_work_signs, x1, x5 =>
    if (3 : Int32) ≤ x5 then
      (F_X5_share c_bag_total c_bag_often c_row_length c_row_signs).bind (fun r252 =>
      (F_X5_bitsOf r252.1).bind (fun r255 =>
      (F_X5_mixed x1 r255).bind (fun r258 =>
      (F_X4_length c_text_length).bind (fun r267 =>
      (F_X5_mixed r258 ((r267).toInt64)).bind (fun r271 =>
      F_X5_digest_L278 c_gone c_row_length c_row_signs c_saves_held c_text_length c_text_codes FU r252.2.1 r252.2.2 c_rest_length c_rest_signs c_smooth_all c_smooth_inCell c_smooth_madeFor c_smooth_starting c_smooth_weight c_work_length c_work_signs r271 (0 : Int32))))))
    else
      (F_X5_bestSwap c_bag_total c_bag_often c_row_length c_row_signs c_work_length c_work_signs x5).bind (fun r236 =>
      (F_X5_mixed x1 ((r236.1).toInt64)).bind (fun r240 =>
      F_X5_digest_L226 c_gone c_row_length c_row_signs c_saves_held c_text_length c_text_codes n r236.2.1 r236.2.2.1 c_rest_length c_rest_signs c_smooth_all c_smooth_inCell c_smooth_madeFor c_smooth_starting c_smooth_weight r236.2.2.2.1 r236.2.2.2.2 r240 (x5 + 1)))
def F_X5_digest_L179 (c_gone : Int32) (c_row_length : Int32) (c_row_signs : Nat → Int32) (c_saves_held : Int32) (c_text_length : Int32) (c_text_codes : Nat → Int32) : Nat → Int32 → (Nat → Int32) → Int32 → (Nat → Int32) → (Nat → Int32) → (Nat → Int32) → (Nat → Int32) → (Nat → Int32) → (Nat → Int32) → Int32 → (Nat → Int32) → Int64 → Int32 → Int32 → Option (Int64 × Int32 × (Nat → Int32) × Int32 × (Nat → Int32) × (Nat → Int32) × (Nat → Int32) × (Nat → Int32) × (Nat → Int32) × (Nat → Int32) × Int32 × (Nat → Int32))
  | 0, _, _, _, _, _, _, _, _, _, _, _, _, _, _ => none
  | n + 1, c_bag_total, c_bag_often, c_rest_length, c_rest_signs, c_smooth_all, c_smooth_inCell, c_smooth_madeFor, c_smooth_starting, c_smooth_weight, c_work_length, c_work_signs, x1, x4, x5 =>
    (F_X1_length c_row_length).bind (fun r185 =>
    if r185 ≤ x5 then
      (F_X5_stepsTo c_bag_total c_bag_often c_rest_length c_rest_signs c_row_length c_row_signs c_work_length c_work_signs x4).bind (fun r215 =>
      (F_X5_mixed x1 ((r215.1).toInt64)).bind (fun r219 =>
      F_X5_digest_L226 c_gone c_row_length c_row_signs c_saves_held c_text_length c_text_codes FU r215.2.1 r215.2.2.1 r215.2.2.2.1 r215.2.2.2.2.1 c_smooth_all c_smooth_inCell c_smooth_madeFor c_smooth_starting c_smooth_weight r215.2.2.2.2.2.1 r215.2.2.2.2.2.2 r219 (0 : Int32)))
    else
      (F_X5_signOf c_bag_total c_bag_often c_row_length c_row_signs c_work_length c_work_signs x4 x5).bind (fun r197 =>
      (F_X5_mixed x1 ((r197.1).toInt64)).bind (fun r201 =>
      F_X5_digest_L179 c_gone c_row_length c_row_signs c_saves_held c_text_length c_text_codes n r197.2.1 r197.2.2.1 c_rest_length c_rest_signs c_smooth_all c_smooth_inCell c_smooth_madeFor c_smooth_starting c_smooth_weight r197.2.2.2.1 r197.2.2.2.2 r201 x4 (x5 + 1))))
def F_X5_digest_L143 (c_gone : Int32) (c_row_length : Int32) (c_row_signs : Nat → Int32) (c_saves_held : Int32) (c_text_length : Int32) (c_text_codes : Nat → Int32) : Nat → Int32 → (Nat → Int32) → Int32 → (Nat → Int32) → (Nat → Int32) → (Nat → Int32) → (Nat → Int32) → (Nat → Int32) → (Nat → Int32) → Int32 → (Nat → Int32) → Int64 → Int32 → Option (Int64 × Int32 × (Nat → Int32) × Int32 × (Nat → Int32) × (Nat → Int32) × (Nat → Int32) × (Nat → Int32) × (Nat → Int32) × (Nat → Int32) × Int32 × (Nat → Int32))
  | 0, _, _, _, _, _, _, _, _, _, _, _, _, _ => none
  | n + 1, c_bag_total, c_bag_often, c_rest_length, c_rest_signs, c_smooth_all, c_smooth_inCell, c_smooth_madeFor, c_smooth_starting, c_smooth_weight, c_work_length, c_work_signs, x1, x4 =>
    if (6 : Int32) ≤ x4 then
      (F_X5_all c_bag_total c_bag_often c_row_length c_row_signs).bind (fun r169 =>
      gd (nz (2 : Int32)) (
      F_X5_digest_L179 c_gone c_row_length c_row_signs c_saves_held c_text_length c_text_codes FU r169.2.1 r169.2.2 c_rest_length c_rest_signs c_smooth_all c_smooth_inCell c_smooth_madeFor c_smooth_starting c_smooth_weight c_work_length c_work_signs x1 (r169.1 / (2 : Int32)) (0 : Int32)))
    else
      (F_X5_many c_bag_total c_bag_often c_row_length c_row_signs x4).bind (fun r154 =>
      (F_X5_mixed x1 ((r154.1).toInt64)).bind (fun r158 =>
      F_X5_digest_L143 c_gone c_row_length c_row_signs c_saves_held c_text_length c_text_codes n r154.2.1 r154.2.2 c_rest_length c_rest_signs c_smooth_all c_smooth_inCell c_smooth_madeFor c_smooth_starting c_smooth_weight c_work_length c_work_signs r158 (x4 + 1)))
def F_X5_digest_L41 (c_gone : Int32) (c_row_length : Int32) (c_row_signs : Nat → Int32) (c_saves_held : Int32) (c_text_length : Int32) (c_text_codes : Nat → Int32) : Nat → Int32 → (Nat → Int32) → Int32 → (Nat → Int32) → (Nat → Int32) → (Nat → Int32) → (Nat → Int32) → (Nat → Int32) → (Nat → Int32) → Int32 → (Nat → Int32) → Int64 → Int32 → Int32 → Option (Int64 × Int32 × (Nat → Int32) × Int32 × (Nat → Int32) × (Nat → Int32) × (Nat → Int32) × (Nat → Int32) × (Nat → Int32) × (Nat → Int32) × Int32 × (Nat → Int32))
  | 0, _, _, _, _, _, _, _, _, _, _, _, _, _, _ => none
  | n + 1, c_bag_total, c_bag_often, c_rest_length, c_rest_signs, c_smooth_all, c_smooth_inCell, c_smooth_madeFor, c_smooth_starting, c_smooth_weight, c_work_length, c_work_signs, x1, x3, x4 =>
    (F_X1_length c_row_length).bind (fun r47 =>
    if r47 ≤ x4 then
      F_X5_digest_L143 c_gone c_row_length c_row_signs c_saves_held c_text_length c_text_codes FU c_bag_total c_bag_often c_rest_length c_rest_signs c_smooth_all c_smooth_inCell c_smooth_madeFor c_smooth_starting c_smooth_weight c_work_length c_work_signs x1 (0 : Int32)
    else
      (F_X5_sign c_row_length c_row_signs x4).bind (fun r57 =>
      (F_X5_mixed x1 ((r57).toInt64)).bind (fun r61 =>
      (F_X5_digit c_bag_total c_bag_often c_row_length c_row_signs x4).bind (fun r69 =>
      (F_X5_mixed r61 ((r69.1).toInt64)).bind (fun r73 =>
      F_X5_digest_L80 (F_X5_digest_L41 c_gone c_row_length c_row_signs c_saves_held c_text_length c_text_codes n) c_gone c_row_length c_row_signs c_saves_held c_text_length c_text_codes FU r69.2.1 r69.2.2 c_rest_length c_rest_signs c_smooth_all c_smooth_inCell c_smooth_madeFor c_smooth_starting c_smooth_weight c_work_length c_work_signs r73 x3 x4 (0 : Int32))))))
def F_X5_digest_L6 (c_gone : Int32) (c_row_length : Int32) (c_row_signs : Nat → Int32) (c_saves_held : Int32) (c_text_length : Int32) (c_text_codes : Nat → Int32) : Nat → Int32 → (Nat → Int32) → Int32 → (Nat → Int32) → (Nat → Int32) → (Nat → Int32) → (Nat → Int32) → (Nat → Int32) → (Nat → Int32) → Int32 → (Nat → Int32) → Int64 → Int32 → Option (Int64 × Int32 × (Nat → Int32) × Int32 × (Nat → Int32) × (Nat → Int32) × (Nat → Int32) × (Nat → Int32) × (Nat → Int32) × (Nat → Int32) × Int32 × (Nat → Int32))
  | 0, _, _, _, _, _, _, _, _, _, _, _, _, _ => none
  | n + 1, c_bag_total, c_bag_often, c_rest_length, c_rest_signs, c_smooth_all, c_smooth_inCell, c_smooth_madeFor, c_smooth_starting, c_smooth_weight, c_work_length, c_work_signs, x1, x3 =>
    if (14 : Int32) ≤ x3 then
      (F_X5_rankOf c_bag_total c_bag_often c_row_length c_row_signs).bind (fun r34 =>
      F_X5_digest_L41 c_gone c_row_length c_row_signs c_saves_held c_text_length c_text_codes FU r34.2.1 r34.2.2 c_rest_length c_rest_signs c_smooth_all c_smooth_inCell c_smooth_madeFor c_smooth_starting c_smooth_weight c_work_length c_work_signs x1 r34.1 (0 : Int32))
    else
      (F_X5_count c_gone c_bag_total c_bag_often c_row_length c_row_signs c_saves_held c_smooth_all c_smooth_inCell c_smooth_madeFor c_smooth_starting c_smooth_weight c_work_length c_work_signs x3).bind (fun r15 =>
      (F_X5_mixed x1 ((r15.1).toInt64)).bind (fun r19 =>
      F_X5_digest_L6 c_gone c_row_length c_row_signs c_saves_held c_text_length c_text_codes n r15.2.1 r15.2.2.1 c_rest_length c_rest_signs r15.2.2.2.1 r15.2.2.2.2.1 r15.2.2.2.2.2.1 r15.2.2.2.2.2.2.1 r15.2.2.2.2.2.2.2.1 r15.2.2.2.2.2.2.2.2.1 r15.2.2.2.2.2.2.2.2.2 r19 (x3 + 1)))
def F_X5_digest (c_gone : Int32) (c_bag_total : Int32) (c_bag_often : Nat → Int32) (c_rest_length : Int32) (c_rest_signs : Nat → Int32) (c_row_length : Int32) (c_row_signs : Nat → Int32) (c_saves_held : Int32) (c_smooth_all : Nat → Int32) (c_smooth_inCell : Nat → Int32) (c_smooth_madeFor : Nat → Int32) (c_smooth_starting : Nat → Int32) (c_smooth_weight : Nat → Int32) (c_text_length : Int32) (c_text_codes : Nat → Int32) (c_work_length : Int32) (c_work_signs : Nat → Int32) : Option (Int64 × Int32 × (Nat → Int32) × Int32 × (Nat → Int32) × (Nat → Int32) × (Nat → Int32) × (Nat → Int32) × (Nat → Int32) × (Nat → Int32) × Int32 × (Nat → Int32)) :=
  F_X5_digest_L6 c_gone c_row_length c_row_signs c_saves_held c_text_length c_text_codes FU c_bag_total c_bag_often c_rest_length c_rest_signs c_smooth_all c_smooth_inCell c_smooth_madeFor c_smooth_starting c_smooth_weight c_work_length c_work_signs (2579 : Int64) (0 : Int32)
def F_X6_thrown (c_thrown : Int32) : Option (Int32) :=
  some c_thrown
def F_X6_within (x0 : Int32) (x1 : Int32) (x2 : Int32) : Option (Int32) :=
  some (if x0 < x1 then (0 : Int32) else (if x2 < x0 then (0 : Int32) else (1 : Int32)))
def F_X6_save_L51 (c_z : Nat → Int32) : Nat → Int32 → (Nat → Int32) → Int32 → Option (Int32 × (Nat → Int32))
  | 0, _, _, _ => none
  | n + 1, c_states, c_history, x1 =>
    if (13 : Int32) ≤ x1 then
      some (c_states + (1 : Int32), c_history)
    else
      gd (vin x1 13) (
      gd (vin (((13 : Int32) * c_states) + x1) 78) (
      F_X6_save_L51 c_z n c_states (upd c_history (((13 : Int32) * c_states) + x1).toNatClampNeg (c_z (x1).toNatClampNeg)) (x1 + 1)))
def F_X6_save_L12 (c_z : Nat → Int32) : Nat → Int32 → (Nat → Int32) → Int32 → Option (Int32 × (Nat → Int32))
  | 0, _, _, _ => none
  | n + 1, c_states, c_history, x1 =>
    if (78 : Int32) ≤ x1 then
      F_X6_save_L51 c_z FU (c_states - (1 : Int32)) c_history (0 : Int32)
    else
      gd (vin x1 78) (
      gd (vin (x1 - (13 : Int32)) 78) (
      F_X6_save_L12 c_z n c_states (upd c_history (x1 - (13 : Int32)).toNatClampNeg (c_history (x1).toNatClampNeg)) (x1 + 1)))
def F_X6_save (c_states : Int32) (c_history : Nat → Int32) (c_z : Nat → Int32) : Option (Int32 × (Nat → Int32)) :=
  if c_states = (6 : Int32) then
    F_X6_save_L12 c_z FU c_states c_history (13 : Int32)
  else
    F_X6_save_L51 c_z FU c_states c_history (0 : Int32)
def F_X6_isPlace (c_z : Nat → Int32) (x1 : Int32) : Option (Int32) :=
  gd (vin (0 : Int32) 13) (
  (F_X6_within x1 (0 : Int32) ((c_z ((0 : Int32)).toNatClampNeg) - (1 : Int32))).bind (fun r10 =>
  gd (bz r10) (
  some r10)))
def F_X6_isSign (x0 : Int32) : Option (Int32) :=
  (F_X6_within x0 (0 : Int32) (5 : Int32)).bind (fun r3 =>
  gd (bz r3) (
  some r3))
def F_X6_countAll_L23 (c_z : Nat → Int32) : Nat → (Nat → Int32) → Int32 → Option ((Nat → Int32))
  | 0, _, _ => none
  | n + 1, c_left, x1 =>
    gd (vin (0 : Int32) 13) (
    if (c_z ((0 : Int32)).toNatClampNeg) ≤ x1 then
      some c_left
    else
      gd (vin ((2 : Int32) + x1) 13) (
      gd (vin (c_z ((2 : Int32) + x1).toNatClampNeg) 6) (
      gd (vin (c_z ((2 : Int32) + x1).toNatClampNeg) 6) (
      F_X6_countAll_L23 c_z n (upd c_left (c_z ((2 : Int32) + x1).toNatClampNeg).toNatClampNeg ((c_left (c_z ((2 : Int32) + x1).toNatClampNeg).toNatClampNeg) + (1 : Int32))) (x1 + 1)))))
def F_X6_countAll_L2 (c_z : Nat → Int32) : Nat → (Nat → Int32) → Int32 → Option ((Nat → Int32))
  | 0, _, _ => none
  | n + 1, c_left, x1 =>
    if (6 : Int32) ≤ x1 then
      F_X6_countAll_L23 c_z FU c_left (0 : Int32)
    else
      gd (vin x1 6) (
      F_X6_countAll_L2 c_z n (upd c_left (x1).toNatClampNeg (0 : Int32)) (x1 + 1))
def F_X6_countAll (c_left : Nat → Int32) (c_z : Nat → Int32) : Option ((Nat → Int32)) :=
  F_X6_countAll_L2 c_z FU c_left (0 : Int32)
def F_X6_factorial_L4 (x0 : Int32) : Nat → Int32 → Int32 → Option (Int32)
  | 0, _, _ => none
  | n + 1, x1, x2 =>
    if x0 < x2 then
      some x1
    else
      F_X6_factorial_L4 x0 n (x1 * x2) (x2 + 1)
def F_X6_factorial (x0 : Int32) : Option (Int32) :=
  F_X6_factorial_L4 x0 FU (1 : Int32) (2 : Int32)
def F_X6_rows_L32 (c_left : Nat → Int32) : Nat → Int32 → Int32 → Option (Int32)
  | 0, _, _ => none
  | n + 1, x2, x3 =>
    if (6 : Int32) ≤ x3 then
      some x2
    else
      gd (vin x3 6) (
      (F_X6_factorial (c_left (x3).toNatClampNeg)).bind (fun r45 =>
      gd (nz r45) (
      F_X6_rows_L32 c_left n (x2 / r45) (x3 + 1))))
def F_X6_rows_L4 (c_left : Nat → Int32) : Nat → Int32 → Int32 → Option (Int32)
  | 0, _, _ => none
  | n + 1, x1, x2 =>
    if (6 : Int32) ≤ x2 then
      (F_X6_factorial x1).bind (fun r26 =>
      F_X6_rows_L32 c_left FU r26 (0 : Int32))
    else
      gd (vin x2 6) (
      F_X6_rows_L4 c_left n (x1 + (c_left (x2).toNatClampNeg)) (x2 + 1))
def F_X6_rows (c_left : Nat → Int32) : Option (Int32) :=
  F_X6_rows_L4 c_left FU (0 : Int32) (0 : Int32)
def F_X6_rowsWith (c_left : Nat → Int32) (x1 : Int32) : Option (Int32 × (Nat → Int32)) :=
  gd (vin x1 6) (
  if (c_left (x1).toNatClampNeg) = 0 then
    some ((0 : Int32), c_left)
  else
    gd (vin x1 6) (
    gd (vin x1 6) (
    (F_X6_rows (upd c_left (x1).toNatClampNeg ((c_left (x1).toNatClampNeg) - (1 : Int32)))).bind (fun r22 =>
    gd (vin x1 6) (
    gd (vin x1 6) (
    some (r22, (upd (upd c_left (x1).toNatClampNeg ((c_left (x1).toNatClampNeg) - (1 : Int32))) (x1).toNatClampNeg (((upd c_left (x1).toNatClampNeg ((c_left (x1).toNatClampNeg) - (1 : Int32))) (x1).toNatClampNeg) + (1 : Int32))))))))))
def F_X6_allRows (c_left : Nat → Int32) (c_z : Nat → Int32) : Option (Int32 × (Nat → Int32)) :=
  (F_X6_countAll c_left c_z).bind (fun r1 =>
  (F_X6_rows r1).bind (fun r5 =>
  some (r5, r1)))
def F_X6_copyRow_L2 (c_z : Nat → Int32) : Nat → (Nat → Int32) → Int32 → Option ((Nat → Int32))
  | 0, _, _ => none
  | n + 1, c_other, x1 =>
    gd (vin (0 : Int32) 13) (
    if (c_z ((0 : Int32)).toNatClampNeg) ≤ x1 then
      some c_other
    else
      gd (vin ((2 : Int32) + x1) 13) (
      gd (vin x1 11) (
      F_X6_copyRow_L2 c_z n (upd c_other (x1).toNatClampNeg (c_z ((2 : Int32) + x1).toNatClampNeg)) (x1 + 1))))
def F_X6_copyRow (c_other : Nat → Int32) (c_z : Nat → Int32) : Option ((Nat → Int32)) :=
  F_X6_copyRow_L2 c_z FU c_other (0 : Int32)
def F_X6_lowestRank_L16 (k8 : (Nat → Int32) → Int32 → Int32 → Option (Int32 × (Nat → Int32))) (c_other : Nat → Int32) (c_z : Nat → Int32) (x1 : Int32) : Nat → (Nat → Int32) → Int32 → Int32 → Int32 → Option (Int32 × (Nat → Int32))
  | 0, _, _, _, _ => none
  | n + 1, c_left, x2, x3, x4 =>
    gd (vin x3 11) (
    if (c_other (x3).toNatClampNeg) ≤ x4 then
      gd (vin x3 11) (
      gd (vin (c_other (x3).toNatClampNeg) 6) (
      gd (vin (c_other (x3).toNatClampNeg) 6) (
      k8 (upd c_left (c_other (x3).toNatClampNeg).toNatClampNeg ((c_left (c_other (x3).toNatClampNeg).toNatClampNeg) - (1 : Int32))) x2 (x3 + 1))))
    else
      (F_X6_rowsWith c_left x4).bind (fun r31 =>
      F_X6_lowestRank_L16 k8 c_other c_z x1 n r31.2 (x2 + r31.1) x3 (x4 + 1)))
def F_X6_lowestRank_L8 (c_other : Nat → Int32) (c_z : Nat → Int32) (x1 : Int32) : Nat → (Nat → Int32) → Int32 → Int32 → Option (Int32 × (Nat → Int32))
  | 0, _, _, _ => none
  | n + 1, c_left, x2, x3 =>
    if x1 ≤ x3 then
      some (x2, c_left)
    else
      F_X6_lowestRank_L16 (F_X6_lowestRank_L8 c_other c_z x1 n) c_other c_z x1 FU c_left x2 x3 (0 : Int32)
def F_X6_lowestRank (c_left : Nat → Int32) (c_other : Nat → Int32) (c_z : Nat → Int32) (x1 : Int32) : Option (Int32 × (Nat → Int32)) :=
  (F_X6_countAll c_left c_z).bind (fun r1 =>
  F_X6_lowestRank_L8 c_other c_z x1 FU r1 (0 : Int32) (0 : Int32))
def F_X6_rankOfOther (c_left : Nat → Int32) (c_other : Nat → Int32) (c_z : Nat → Int32) : Option (Int32 × (Nat → Int32)) :=
  gd (vin (0 : Int32) 13) (
  (F_X6_lowestRank c_left c_other c_z (c_z ((0 : Int32)).toNatClampNeg)).bind (fun r7 =>
  some (r7.1, r7.2)))
def F_X6_rankNow (c_left : Nat → Int32) (c_other : Nat → Int32) (c_z : Nat → Int32) : Option (Int32 × (Nat → Int32) × (Nat → Int32)) :=
  (F_X6_copyRow c_other c_z).bind (fun r1 =>
  (F_X6_rankOfOther c_left r1 c_z).bind (fun r5 =>
  some (r5.1, r5.2, r1)))
def F_X6_layRank_L21 (k8 : (Nat → Int32) → (Nat → Int32) → Int32 → Int32 → Option ((Nat → Int32) × (Nat → Int32))) (c_z : Nat → Int32) (x1 : Int32) : Nat → (Nat → Int32) → (Nat → Int32) → Int32 → Int32 → Int32 → Option ((Nat → Int32) × (Nat → Int32))
  | 0, _, _, _, _, _ => none
  | n + 1, c_left, c_other, x2, x3, x4 =>
    (F_X6_rowsWith c_left x4).bind (fun r25 =>
    if x2 < r25.1 then
      gd (vin x3 11) (
      gd (vin x4 6) (
      gd (vin x4 6) (
      k8 (upd r25.2 (x4).toNatClampNeg ((r25.2 (x4).toNatClampNeg) - (1 : Int32))) (upd c_other (x3).toNatClampNeg x4) x2 (x3 + 1))))
    else
      (F_X6_rowsWith r25.2 x4).bind (fun r35 =>
      F_X6_layRank_L21 k8 c_z x1 n r35.2 c_other (x2 - r35.1) x3 (x4 + 1)))
def F_X6_layRank_L8 (c_z : Nat → Int32) (x1 : Int32) : Nat → (Nat → Int32) → (Nat → Int32) → Int32 → Int32 → Option ((Nat → Int32) × (Nat → Int32))
  | 0, _, _, _, _ => none
  | n + 1, c_left, c_other, x2, x3 =>
    gd (vin (0 : Int32) 13) (
    if (c_z ((0 : Int32)).toNatClampNeg) ≤ x3 then
      some (c_left, c_other)
    else
      F_X6_layRank_L21 (F_X6_layRank_L8 c_z x1 n) c_z x1 FU c_left c_other x2 x3 (0 : Int32))
def F_X6_layRank (c_left : Nat → Int32) (c_other : Nat → Int32) (c_z : Nat → Int32) (x1 : Int32) : Option ((Nat → Int32) × (Nat → Int32)) :=
  (F_X6_countAll c_left c_z).bind (fun r1 =>
  F_X6_layRank_L8 c_z x1 FU r1 c_other x1 (0 : Int32))
def F_X6_takeOther_J37 (k4 : (Nat → Int32) → Int32 → Int32 → Option (Int32 × (Nat → Int32))) (c_other : Nat → Int32) (c_z : Nat → Int32) (x2 : Int32) (v0 : Int32) (v1 : Int32) : Option (Int32 × (Nat → Int32)) :=
  gd (vin x2 11) (
  gd (vin ((2 : Int32) + x2) 13) (
  k4 (upd c_z ((2 : Int32) + x2).toNatClampNeg (c_other (x2).toNatClampNeg)) (v0 + v1) (x2 + 1)))
def F_X6_takeOther_L4 (c_other : Nat → Int32) : Nat → (Nat → Int32) → Int32 → Int32 → Option (Int32 × (Nat → Int32))
  | 0, _, _, _ => none
  | n + 1, c_z, x1, x2 =>
    gd (vin (0 : Int32) 13) (
    if (c_z ((0 : Int32)).toNatClampNeg) ≤ x2 then
      some (x1, c_z)
    else
      gd (vin ((2 : Int32) + x2) 13) (
      gd (vin x2 11) (
      F_X6_takeOther_J37 (F_X6_takeOther_L4 c_other n) c_other c_z x2 x1 (if (c_z ((2 : Int32) + x2).toNatClampNeg) = (c_other (x2).toNatClampNeg) then (0 : Int32) else (1 : Int32)))))
def F_X6_takeOther (c_other : Nat → Int32) (c_z : Nat → Int32) : Option (Int32 × (Nat → Int32)) :=
  F_X6_takeOther_L4 c_other FU c_z (0 : Int32) (0 : Int32)
def F_X6_isRank (c_left : Nat → Int32) (c_z : Nat → Int32) (x1 : Int32) : Option (Int32 × (Nat → Int32)) :=
  if x1 < 0 then
    some ((0 : Int32), c_left)
  else
    (F_X6_allRows c_left c_z).bind (fun r6 =>
    some ((if r6.1 ≤ x1 then (0 : Int32) else (1 : Int32)), r6.2))
def F_X6_laySmooth_J115 (k52 : Int32 → (Nat → Int32) → (Nat → Int32) → (Nat → Int32) → Int32 → Option (Int32 × (Nat → Int32) × (Nat → Int32) × (Nat → Int32))) (k62 : Int32 → (Nat → Int32) → (Nat → Int32) → (Nat → Int32) → Int32 → Int32 → Option (Int32 × (Nat → Int32) × (Nat → Int32) × (Nat → Int32))) (k81 : Int32 → (Nat → Int32) → (Nat → Int32) → (Nat → Int32) → Int32 → Int32 → Int32 → Int32 → Option (Int32 × (Nat → Int32) × (Nat → Int32) × (Nat → Int32))) (c_z : Nat → Int32) (c_codes : Int32) (c_left : Nat → Int32) (c_smooth : Nat → Int32) (c_weights : Nat → Int32) (x1 : Int32) (x2 : Int32) (x3 : Int32) (x4 : Int32) (v0 : Int32) : Option (Int32 × (Nat → Int32) × (Nat → Int32) × (Nat → Int32)) :=
  if v0 = 0 then
    k81 c_codes c_left c_smooth c_weights x1 x2 (x3 + (0 : Int32)) (x4 + 1)
  else
    if x4 = x2 then
      k81 c_codes c_left c_smooth c_weights x1 x2 (x3 + (0 : Int32)) (x4 + 1)
    else
      gd (vin x4 6) (
      gd (vin (((7 : Int32) * (x1 - (c_weights (x4).toNatClampNeg))) + x4) 4200) (
      k81 c_codes c_left c_smooth c_weights x1 x2 (x3 + (c_smooth (((7 : Int32) * (x1 - (c_weights (x4).toNatClampNeg))) + x4).toNatClampNeg)) (x4 + 1)))
def F_X6_laySmooth_L81 (k52 : Int32 → (Nat → Int32) → (Nat → Int32) → (Nat → Int32) → Int32 → Option (Int32 × (Nat → Int32) × (Nat → Int32) × (Nat → Int32))) (k62 : Int32 → (Nat → Int32) → (Nat → Int32) → (Nat → Int32) → Int32 → Int32 → Option (Int32 × (Nat → Int32) × (Nat → Int32) × (Nat → Int32))) (c_z : Nat → Int32) : Nat → Int32 → (Nat → Int32) → (Nat → Int32) → (Nat → Int32) → Int32 → Int32 → Int32 → Int32 → Option (Int32 × (Nat → Int32) × (Nat → Int32) × (Nat → Int32))
  | 0, _, _, _, _, _, _, _, _ => none
  | n + 1, c_codes, c_left, c_smooth, c_weights, x1, x2, x3, x4 =>
    if (6 : Int32) ≤ x4 then
      gd (vin (((7 : Int32) * x1) + x2) 4200) (
      k62 c_codes c_left (upd c_smooth (((7 : Int32) * x1) + x2).toNatClampNeg x3) c_weights x1 (x2 + 1))
    else
      gd (vin x4 6) (
      gd (nz (c_weights (x4).toNatClampNeg)) (
      gd (vin x4 6) (
      gd (nz ((c_left (x4).toNatClampNeg) + (1 : Int32))) (
      F_X6_laySmooth_J115 k52 k62 (F_X6_laySmooth_L81 k52 k62 c_z n) c_z c_codes c_left c_smooth c_weights x1 x2 x3 x4 (if ((x1 / (c_weights (x4).toNatClampNeg)) - (x1 / (c_weights (x4).toNatClampNeg)) / ((c_left (x4).toNatClampNeg) + (1 : Int32)) * ((c_left (x4).toNatClampNeg) + (1 : Int32))) ≤ 0 then (0 : Int32) else (1 : Int32))))))
def F_X6_laySmooth_L62 (k52 : Int32 → (Nat → Int32) → (Nat → Int32) → (Nat → Int32) → Int32 → Option (Int32 × (Nat → Int32) × (Nat → Int32) × (Nat → Int32))) (c_z : Nat → Int32) : Nat → Int32 → (Nat → Int32) → (Nat → Int32) → (Nat → Int32) → Int32 → Int32 → Option (Int32 × (Nat → Int32) × (Nat → Int32) × (Nat → Int32))
  | 0, _, _, _, _, _, _ => none
  | n + 1, c_codes, c_left, c_smooth, c_weights, x1, x2 =>
    if (6 : Int32) < x2 then
      k52 c_codes c_left c_smooth c_weights (x1 + 1)
    else
      F_X6_laySmooth_L81 k52 (F_X6_laySmooth_L62 k52 c_z n) c_z FU c_codes c_left c_smooth c_weights x1 x2 (if x1 = 0 then (1 : Int32) else (0 : Int32)) (0 : Int32)
def F_X6_laySmooth_L52 (c_z : Nat → Int32) : Nat → Int32 → (Nat → Int32) → (Nat → Int32) → (Nat → Int32) → Int32 → Option (Int32 × (Nat → Int32) × (Nat → Int32) × (Nat → Int32))
  | 0, _, _, _, _, _ => none
  | n + 1, c_codes, c_left, c_smooth, c_weights, x1 =>
    if c_codes ≤ x1 then
      some (c_codes, c_left, c_smooth, c_weights)
    else
      F_X6_laySmooth_L62 (F_X6_laySmooth_L52 c_z n) c_z FU c_codes c_left c_smooth c_weights x1 (0 : Int32)
def F_X6_laySmooth_L11 (c_z : Nat → Int32) : Nat → Int32 → (Nat → Int32) → (Nat → Int32) → (Nat → Int32) → Int32 → Option (Int32 × (Nat → Int32) × (Nat → Int32) × (Nat → Int32))
  | 0, _, _, _, _, _ => none
  | n + 1, c_codes, c_left, c_smooth, c_weights, x1 =>
    if (6 : Int32) ≤ x1 then
      F_X6_laySmooth_L52 c_z FU c_codes c_left c_smooth c_weights (0 : Int32)
    else
      gd (vin x1 6) (
      gd (vin x1 6) (
      F_X6_laySmooth_L11 c_z n (c_codes * ((c_left (x1).toNatClampNeg) + (1 : Int32))) c_left c_smooth (upd c_weights (x1).toNatClampNeg c_codes) (x1 + 1)))
def F_X6_laySmooth (c_codes : Int32) (c_left : Nat → Int32) (c_smooth : Nat → Int32) (c_weights : Nat → Int32) (c_z : Nat → Int32) : Option (Int32 × (Nat → Int32) × (Nat → Int32) × (Nat → Int32)) :=
  (F_X6_countAll c_left c_z).bind (fun r1 =>
  F_X6_laySmooth_L11 c_z FU (1 : Int32) r1 c_smooth c_weights (0 : Int32))
def F_X6_allSmooth (c_codes : Int32) (c_left : Nat → Int32) (c_smooth : Nat → Int32) (c_weights : Nat → Int32) (c_z : Nat → Int32) : Option (Int32 × Int32 × (Nat → Int32) × (Nat → Int32) × (Nat → Int32)) :=
  (F_X6_laySmooth c_codes c_left c_smooth c_weights c_z).bind (fun r1 =>
  gd (vin (((7 : Int32) * (r1.1 - (1 : Int32))) + (6 : Int32)) 4200) (
  some (r1.2.2.1 (((7 : Int32) * (r1.1 - (1 : Int32))) + (6 : Int32)).toNatClampNeg, r1.1, r1.2.1, r1.2.2.1, r1.2.2.2)))
def F_X6_smoothAhead_J78 (k20 : Int32 → (Nat → Int32) → (Nat → Int32) → (Nat → Int32) → Int32 → Int32 → Int32 → Int32 → Option (Int32 × Int32 × (Nat → Int32) × (Nat → Int32) × (Nat → Int32))) (k44 : Int32 → (Nat → Int32) → (Nat → Int32) → (Nat → Int32) → Int32 → Int32 → Int32 → Int32 → Int32 → Int32 → Option (Int32 × Int32 × (Nat → Int32) × (Nat → Int32) × (Nat → Int32))) (c_z : Nat → Int32) (x1 : Int32) (c_codes : Int32) (c_left : Nat → Int32) (c_smooth : Nat → Int32) (c_weights : Nat → Int32) (x2 : Int32) (x3 : Int32) (x4 : Int32) (x5 : Int32) (x6 : Int32) (x7 : Int32) (v0 : Int32) : Option (Int32 × Int32 × (Nat → Int32) × (Nat → Int32) × (Nat → Int32)) :=
  if v0 = 0 then
    k44 c_codes c_left c_smooth c_weights x2 (x3 + (0 : Int32)) x4 x5 x6 (x7 + 1)
  else
    if x7 = x4 then
      k44 c_codes c_left c_smooth c_weights x2 (x3 + (0 : Int32)) x4 x5 x6 (x7 + 1)
    else
      gd (vin x7 6) (
      gd (vin (((7 : Int32) * (x2 - (c_weights (x7).toNatClampNeg))) + x7) 4200) (
      k44 c_codes c_left c_smooth c_weights x2 (x3 + (c_smooth (((7 : Int32) * (x2 - (c_weights (x7).toNatClampNeg))) + x7).toNatClampNeg)) x4 x5 x6 (x7 + 1)))
def F_X6_smoothAhead_L44 (k20 : Int32 → (Nat → Int32) → (Nat → Int32) → (Nat → Int32) → Int32 → Int32 → Int32 → Int32 → Option (Int32 × Int32 × (Nat → Int32) × (Nat → Int32) × (Nat → Int32))) (c_z : Nat → Int32) (x1 : Int32) : Nat → Int32 → (Nat → Int32) → (Nat → Int32) → (Nat → Int32) → Int32 → Int32 → Int32 → Int32 → Int32 → Int32 → Option (Int32 × Int32 × (Nat → Int32) × (Nat → Int32) × (Nat → Int32))
  | 0, _, _, _, _, _, _, _, _, _, _ => none
  | n + 1, c_codes, c_left, c_smooth, c_weights, x2, x3, x4, x5, x6, x7 =>
    if x6 ≤ x7 then
      if x6 = x4 then
        k20 c_codes c_left c_smooth c_weights ((-1) : Int32) x3 x6 (x5 + 1)
      else
        gd (vin x6 6) (
        k20 c_codes c_left c_smooth c_weights (x2 - (c_weights (x6).toNatClampNeg)) x3 x6 (x5 + 1))
    else
      gd (vin x7 6) (
      gd (nz (c_weights (x7).toNatClampNeg)) (
      gd (vin x7 6) (
      gd (nz ((c_left (x7).toNatClampNeg) + (1 : Int32))) (
      F_X6_smoothAhead_J78 k20 (F_X6_smoothAhead_L44 k20 c_z x1 n) c_z x1 c_codes c_left c_smooth c_weights x2 x3 x4 x5 x6 x7 (if ((x2 / (c_weights (x7).toNatClampNeg)) - (x2 / (c_weights (x7).toNatClampNeg)) / ((c_left (x7).toNatClampNeg) + (1 : Int32)) * ((c_left (x7).toNatClampNeg) + (1 : Int32))) ≤ 0 then (0 : Int32) else (1 : Int32))))))
def F_X6_smoothAhead_L20 (c_z : Nat → Int32) (x1 : Int32) : Nat → Int32 → (Nat → Int32) → (Nat → Int32) → (Nat → Int32) → Int32 → Int32 → Int32 → Int32 → Option (Int32 × Int32 × (Nat → Int32) × (Nat → Int32) × (Nat → Int32))
  | 0, _, _, _, _, _, _, _, _ => none
  | n + 1, c_codes, c_left, c_smooth, c_weights, x2, x3, x4, x5 =>
    if x1 ≤ x5 then
      some (x3, c_codes, c_left, c_smooth, c_weights)
    else
      if x2 < 0 then
        some (x3, c_codes, c_left, c_smooth, c_weights)
      else
        gd (vin ((2 : Int32) + x5) 13) (
        F_X6_smoothAhead_L44 (F_X6_smoothAhead_L20 c_z x1 n) c_z x1 FU c_codes c_left c_smooth c_weights x2 x3 x4 x5 (c_z ((2 : Int32) + x5).toNatClampNeg) (0 : Int32))
def F_X6_smoothAhead (c_codes : Int32) (c_left : Nat → Int32) (c_smooth : Nat → Int32) (c_weights : Nat → Int32) (c_z : Nat → Int32) (x1 : Int32) : Option (Int32 × Int32 × (Nat → Int32) × (Nat → Int32) × (Nat → Int32)) :=
  (F_X6_laySmooth c_codes c_left c_smooth c_weights c_z).bind (fun r1 =>
  F_X6_smoothAhead_L20 c_z x1 FU r1.1 r1.2.1 r1.2.2.1 r1.2.2.2 (r1.1 - (1 : Int32)) (0 : Int32) (6 : Int32) (0 : Int32))
def F_X6_smoothWith_J67 (c_z : Nat → Int32) (x1 : Int32) (c_codes : Int32) (c_left : Nat → Int32) (c_smooth : Nat → Int32) (c_weights : Nat → Int32) (x2 : Int32) (x3 : Int32) : Option (Int32 × Int32 × (Nat → Int32) × (Nat → Int32) × (Nat → Int32)) :=
  if 0 ≤ x2 then
    gd (vin (((7 : Int32) * x2) + x3) 4200) (
    some (c_smooth (((7 : Int32) * x2) + x3).toNatClampNeg, c_codes, c_left, c_smooth, c_weights))
  else
    some ((0 : Int32), c_codes, c_left, c_smooth, c_weights)
def F_X6_smoothWith_L17 (c_z : Nat → Int32) (x1 : Int32) : Nat → Int32 → (Nat → Int32) → (Nat → Int32) → (Nat → Int32) → Int32 → Int32 → Int32 → Option (Int32 × Int32 × (Nat → Int32) × (Nat → Int32) × (Nat → Int32))
  | 0, _, _, _, _, _, _, _ => none
  | n + 1, c_codes, c_left, c_smooth, c_weights, x2, x3, x4 =>
    if x1 ≤ x4 then
      F_X6_smoothWith_J67 c_z x1 c_codes c_left c_smooth c_weights x2 x3
    else
      if x2 < 0 then
        F_X6_smoothWith_J67 c_z x1 c_codes c_left c_smooth c_weights x2 x3
      else
        gd (vin ((2 : Int32) + x4) 13) (
        if (c_z ((2 : Int32) + x4).toNatClampNeg) = x3 then
          F_X6_smoothWith_L17 c_z x1 n c_codes c_left c_smooth c_weights ((-1) : Int32) (c_z ((2 : Int32) + x4).toNatClampNeg) (x4 + 1)
        else
          gd (vin (c_z ((2 : Int32) + x4).toNatClampNeg) 6) (
          F_X6_smoothWith_L17 c_z x1 n c_codes c_left c_smooth c_weights (x2 - (c_weights (c_z ((2 : Int32) + x4).toNatClampNeg).toNatClampNeg)) (c_z ((2 : Int32) + x4).toNatClampNeg) (x4 + 1)))
def F_X6_smoothWith (c_codes : Int32) (c_left : Nat → Int32) (c_smooth : Nat → Int32) (c_weights : Nat → Int32) (c_z : Nat → Int32) (x1 : Int32) : Option (Int32 × Int32 × (Nat → Int32) × (Nat → Int32) × (Nat → Int32)) :=
  (F_X6_laySmooth c_codes c_left c_smooth c_weights c_z).bind (fun r1 =>
  F_X6_smoothWith_L17 c_z x1 FU r1.1 r1.2.1 r1.2.2.1 r1.2.2.2 (r1.1 - (1 : Int32)) (6 : Int32) (0 : Int32))
def F_X6_smoothRank (c_codes : Int32) (c_left : Nat → Int32) (c_smooth : Nat → Int32) (c_weights : Nat → Int32) (c_z : Nat → Int32) : Option (Int32 × Int32 × (Nat → Int32) × (Nat → Int32) × (Nat → Int32)) :=
  gd (vin (0 : Int32) 13) (
  (F_X6_smoothAhead c_codes c_left c_smooth c_weights c_z (c_z ((0 : Int32)).toNatClampNeg)).bind (fun r7 =>
  some (r7.1, r7.2.1, r7.2.2.1, r7.2.2.2.1, r7.2.2.2.2)))
def F_X6_isSmooth (c_codes : Int32) (c_left : Nat → Int32) (c_smooth : Nat → Int32) (c_weights : Nat → Int32) (c_z : Nat → Int32) : Option (Int32 × Int32 × (Nat → Int32) × (Nat → Int32) × (Nat → Int32)) :=
  gd (vin (0 : Int32) 13) (
  (F_X6_smoothWith c_codes c_left c_smooth c_weights c_z (c_z ((0 : Int32)).toNatClampNeg)).bind (fun r7 =>
  some ((if r7.1 = (1 : Int32) then (1 : Int32) else (0 : Int32)), r7.2.1, r7.2.2.1, r7.2.2.2.1, r7.2.2.2.2)))
def F_X6_smoothBehind_J25 (c_left : Nat → Int32) (c_smooth : Nat → Int32) (c_weights : Nat → Int32) (x1 : Int32) (x2 : Int32) (x3 : Int32) (v0 : Int32) : Option (Int32) :=
  if v0 = 0 then
    some (0 : Int32)
  else
    if x2 = x3 then
      some (0 : Int32)
    else
      gd (vin x2 6) (
      gd (vin (((7 : Int32) * (x1 - (c_weights (x2).toNatClampNeg))) + x2) 4200) (
      some (c_smooth (((7 : Int32) * (x1 - (c_weights (x2).toNatClampNeg))) + x2).toNatClampNeg)))
def F_X6_smoothBehind (c_left : Nat → Int32) (c_smooth : Nat → Int32) (c_weights : Nat → Int32) (x1 : Int32) (x2 : Int32) (x3 : Int32) : Option (Int32) :=
  gd (vin x2 6) (
  gd (nz (c_weights (x2).toNatClampNeg)) (
  gd (vin x2 6) (
  gd (nz ((c_left (x2).toNatClampNeg) + (1 : Int32))) (
  F_X6_smoothBehind_J25 c_left c_smooth c_weights x1 x2 x3 (if ((x1 / (c_weights (x2).toNatClampNeg)) - (x1 / (c_weights (x2).toNatClampNeg)) / ((c_left (x2).toNatClampNeg) + (1 : Int32)) * ((c_left (x2).toNatClampNeg) + (1 : Int32))) ≤ 0 then (0 : Int32) else (1 : Int32))))))
def F_X6_laySmoothRank_L44 (k20 : Int32 → (Nat → Int32) → (Nat → Int32) → (Nat → Int32) → (Nat → Int32) → Int32 → Int32 → Int32 → Int32 → Option (Int32 × (Nat → Int32) × (Nat → Int32) × (Nat → Int32) × (Nat → Int32))) (c_z : Nat → Int32) (x1 : Int32) : Nat → Int32 → (Nat → Int32) → (Nat → Int32) → (Nat → Int32) → (Nat → Int32) → Int32 → Int32 → Int32 → Int32 → Int32 → Int32 → Option (Int32 × (Nat → Int32) × (Nat → Int32) × (Nat → Int32) × (Nat → Int32))
  | 0, _, _, _, _, _, _, _, _, _, _, _ => none
  | n + 1, c_codes, c_left, c_other, c_smooth, c_weights, x2, x3, x4, x5, x6, x7 =>
    if x4 < x7 then
      gd (vin x5 11) (
      gd (vin x6 6) (
      k20 c_codes c_left (upd c_other (x5).toNatClampNeg x6) c_smooth c_weights (x2 - (c_weights (x6).toNatClampNeg)) x6 x4 (x5 + 1)))
    else
      (F_X6_smoothBehind c_left c_smooth c_weights x2 (x6 + 1) x3).bind (fun r66 =>
      F_X6_laySmoothRank_L44 k20 c_z x1 n c_codes c_left c_other c_smooth c_weights x2 x3 (x4 - x7) x5 (x6 + 1) r66)
def F_X6_laySmoothRank_L20 (c_z : Nat → Int32) (x1 : Int32) : Nat → Int32 → (Nat → Int32) → (Nat → Int32) → (Nat → Int32) → (Nat → Int32) → Int32 → Int32 → Int32 → Int32 → Option (Int32 × (Nat → Int32) × (Nat → Int32) × (Nat → Int32) × (Nat → Int32))
  | 0, _, _, _, _, _, _, _, _, _ => none
  | n + 1, c_codes, c_left, c_other, c_smooth, c_weights, x2, x3, x4, x5 =>
    gd (vin (0 : Int32) 13) (
    if (c_z ((0 : Int32)).toNatClampNeg) ≤ x5 then
      some (c_codes, c_left, c_other, c_smooth, c_weights)
    else
      (F_X6_smoothBehind c_left c_smooth c_weights x2 (0 : Int32) x3).bind (fun r39 =>
      F_X6_laySmoothRank_L44 (F_X6_laySmoothRank_L20 c_z x1 n) c_z x1 FU c_codes c_left c_other c_smooth c_weights x2 x3 x4 x5 (0 : Int32) r39))
def F_X6_laySmoothRank (c_codes : Int32) (c_left : Nat → Int32) (c_other : Nat → Int32) (c_smooth : Nat → Int32) (c_weights : Nat → Int32) (c_z : Nat → Int32) (x1 : Int32) : Option (Int32 × (Nat → Int32) × (Nat → Int32) × (Nat → Int32) × (Nat → Int32)) :=
  (F_X6_laySmooth c_codes c_left c_smooth c_weights c_z).bind (fun r1 =>
  F_X6_laySmoothRank_L20 c_z x1 FU r1.1 r1.2.1 c_other r1.2.2.1 r1.2.2.2 (r1.1 - (1 : Int32)) (6 : Int32) x1 (0 : Int32))
def F_X6_goes (c_other : Nat → Int32) (c_z : Nat → Int32) : Option (Int32 × (Nat → Int32)) :=
  gd (vin (1 : Int32) 13) (
  gd (vin (1 : Int32) 13) (
  (F_X6_takeOther c_other (upd c_z ((1 : Int32)).toNatClampNeg ((c_z ((1 : Int32)).toNatClampNeg) + (1 : Int32)))).bind (fun r11 =>
  some (r11.1, r11.2))))
def F_X6_goTo_J14 (x1 : Int32) (c_states : Int32) (c_thrown : Int32) (c_history : Nat → Int32) (c_left : Nat → Int32) (c_other : Nat → Int32) (c_z : Nat → Int32) (v1 : Int32) : Option (Int32 × Int32 × Int32 × (Nat → Int32) × (Nat → Int32) × (Nat → Int32) × (Nat → Int32)) :=
  if v1 ≤ 0 then
    (F_X6_rankNow c_left c_other c_z).bind (fun r27 =>
    (F_X6_save c_states c_history c_z).bind (fun r32 =>
    (F_X6_layRank r27.2.1 r27.2.2 c_z x1).bind (fun r37 =>
    (F_X6_goes r37.2 c_z).bind (fun r41 =>
    some (r27.1, r32.1, v1, r32.2, r37.1, r37.2, r41.2)))))
  else
    some ((0 : Int32), c_states, v1, c_history, c_left, c_other, c_z)
def F_X6_goTo (c_states : Int32) (c_thrown : Int32) (c_history : Nat → Int32) (c_left : Nat → Int32) (c_other : Nat → Int32) (c_z : Nat → Int32) (x1 : Int32) : Option (Int32 × Int32 × Int32 × (Nat → Int32) × (Nat → Int32) × (Nat → Int32) × (Nat → Int32)) :=
  (F_X6_isRank c_left c_z x1).bind (fun r3 =>
  F_X6_goTo_J14 x1 c_states c_thrown c_history r3.2 c_other c_z (if r3.1 = 0 then (1 : Int32) else (0 : Int32)))
def F_X6_jump_J31 (x1 : Int32) (c_states : Int32) (c_thrown : Int32) (c_history : Nat → Int32) (c_left : Nat → Int32) (c_other : Nat → Int32) (c_z : Nat → Int32) (x2 : Int64) (v1 : Int32) : Option (Int32 × Int32 × Int32 × (Nat → Int32) × (Nat → Int32) × (Nat → Int32) × (Nat → Int32)) :=
  if v1 ≤ 0 then
    (F_X6_save c_states c_history c_z).bind (fun r44 =>
    (F_X6_layRank c_left c_other c_z ((x2).toInt32)).bind (fun r50 =>
    (F_X6_goes r50.2 c_z).bind (fun r54 =>
    some ((x2).toInt32, r44.1, v1, r44.2, r50.1, r50.2, r54.2))))
  else
    some ((0 : Int32), c_states, v1, c_history, c_left, c_other, c_z)
def F_X6_jump (c_states : Int32) (c_thrown : Int32) (c_history : Nat → Int32) (c_left : Nat → Int32) (c_other : Nat → Int32) (c_z : Nat → Int32) (x1 : Int32) : Option (Int32 × Int32 × Int32 × (Nat → Int32) × (Nat → Int32) × (Nat → Int32) × (Nat → Int32)) :=
  (F_X6_rankNow c_left c_other c_z).bind (fun r1 =>
  if (lg_cmp (((r1.1).toInt64) + ((x1).toInt64)) (0 : Int64)) < 0 then
    F_X6_jump_J31 x1 c_states c_thrown c_history r1.2.1 r1.2.2 c_z (((r1.1).toInt64) + ((x1).toInt64)) (1 : Int32)
  else
    (F_X6_allRows r1.2.1 c_z).bind (fun r18 =>
    F_X6_jump_J31 x1 c_states c_thrown c_history r18.2 r1.2.2 c_z (((r1.1).toInt64) + ((x1).toInt64)) (if 0 ≤ (lg_cmp (((r1.1).toInt64) + ((x1).toInt64)) ((r18.1).toInt64)) then (1 : Int32) else (0 : Int32))))
def F_X6_goesBy (c_states : Int32) (c_thrown : Int32) (c_history : Nat → Int32) (c_left : Nat → Int32) (c_other : Nat → Int32) (c_z : Nat → Int32) (x1 : Int32) : Option (Int32 × Int32 × Int32 × (Nat → Int32) × (Nat → Int32) × (Nat → Int32) × (Nat → Int32)) :=
  (F_X6_save c_states c_history c_z).bind (fun r6 =>
  (F_X6_allRows c_left c_z).bind (fun r10 =>
  (F_X6_rankNow r10.2 c_other c_z).bind (fun r15 =>
  gd (nz r10.1) (
  (F_X6_layRank r15.2.1 r15.2.2 c_z (((r15.1 + x1) + r10.1) - ((r15.1 + x1) + r10.1) / r10.1 * r10.1)).bind (fun r27 =>
  (F_X6_goes r27.2 c_z).bind (fun r31 =>
  some (r31.1, r6.1, (0 : Int32), r6.2, r27.1, r27.2, r31.2)))))))
def F_X6_next (c_states : Int32) (c_thrown : Int32) (c_history : Nat → Int32) (c_left : Nat → Int32) (c_other : Nat → Int32) (c_z : Nat → Int32) : Option (Int32 × Int32 × Int32 × (Nat → Int32) × (Nat → Int32) × (Nat → Int32) × (Nat → Int32)) :=
  (F_X6_goesBy c_states c_thrown c_history c_left c_other c_z (1 : Int32)).bind (fun r2 =>
  some (r2.1, r2.2.1, r2.2.2.1, r2.2.2.2.1, r2.2.2.2.2.1, r2.2.2.2.2.2.1, r2.2.2.2.2.2.2))
def F_X6_previous (c_states : Int32) (c_thrown : Int32) (c_history : Nat → Int32) (c_left : Nat → Int32) (c_other : Nat → Int32) (c_z : Nat → Int32) : Option (Int32 × Int32 × Int32 × (Nat → Int32) × (Nat → Int32) × (Nat → Int32) × (Nat → Int32)) :=
  (F_X6_goesBy c_states c_thrown c_history c_left c_other c_z ((-1) : Int32)).bind (fun r2 =>
  some (r2.1, r2.2.1, r2.2.2.1, r2.2.2.2.1, r2.2.2.2.2.1, r2.2.2.2.2.2.1, r2.2.2.2.2.2.2))
def F_X6_nextSmooth_J32 (c_states : Int32) (c_thrown : Int32) (c_codes : Int32) (c_history : Nat → Int32) (c_left : Nat → Int32) (c_other : Nat → Int32) (c_smooth : Nat → Int32) (c_weights : Nat → Int32) (c_z : Nat → Int32) (x1 : Int32) (v1 : Int32) : Option (Int32 × Int32 × Int32 × Int32 × (Nat → Int32) × (Nat → Int32) × (Nat → Int32) × (Nat → Int32) × (Nat → Int32) × (Nat → Int32)) :=
  if v1 ≤ 0 then
    (F_X6_save c_states c_history c_z).bind (fun r45 =>
    (F_X6_laySmoothRank c_codes c_left c_other c_smooth c_weights c_z x1).bind (fun r50 =>
    (F_X6_goes r50.2.2.1 c_z).bind (fun r54 =>
    (F_X6_rankNow r50.2.1 r50.2.2.1 r54.2).bind (fun r59 =>
    some (r59.1, r45.1, v1, r50.1, r45.2, r59.2.1, r59.2.2, r50.2.2.2.1, r50.2.2.2.2, r54.2)))))
  else
    some ((0 : Int32), c_states, v1, c_codes, c_history, c_left, c_other, c_smooth, c_weights, c_z)
def F_X6_nextSmooth_J16 (c_states : Int32) (c_thrown : Int32) (c_codes : Int32) (c_history : Nat → Int32) (c_left : Nat → Int32) (c_other : Nat → Int32) (c_smooth : Nat → Int32) (c_weights : Nat → Int32) (c_z : Nat → Int32) (v0 : Int32) (v1 : Int32) : Option (Int32 × Int32 × Int32 × Int32 × (Nat → Int32) × (Nat → Int32) × (Nat → Int32) × (Nat → Int32) × (Nat → Int32) × (Nat → Int32)) :=
  (F_X6_allSmooth c_codes c_left c_smooth c_weights c_z).bind (fun r21 =>
  F_X6_nextSmooth_J32 c_states c_thrown r21.2.1 c_history r21.2.2.1 c_other r21.2.2.2.1 r21.2.2.2.2 c_z (v0 + v1) (if r21.1 ≤ (v0 + v1) then (1 : Int32) else (0 : Int32)))
def F_X6_nextSmooth (c_states : Int32) (c_thrown : Int32) (c_codes : Int32) (c_history : Nat → Int32) (c_left : Nat → Int32) (c_other : Nat → Int32) (c_smooth : Nat → Int32) (c_weights : Nat → Int32) (c_z : Nat → Int32) : Option (Int32 × Int32 × Int32 × Int32 × (Nat → Int32) × (Nat → Int32) × (Nat → Int32) × (Nat → Int32) × (Nat → Int32) × (Nat → Int32)) :=
  (F_X6_smoothRank c_codes c_left c_smooth c_weights c_z).bind (fun r1 =>
  (F_X6_isSmooth r1.2.1 r1.2.2.1 r1.2.2.2.1 r1.2.2.2.2 c_z).bind (fun r5 =>
  F_X6_nextSmooth_J16 c_states c_thrown r5.2.1 c_history r5.2.2.1 c_other r5.2.2.2.1 r5.2.2.2.2 c_z r1.1 (if r5.1 = 0 then (0 : Int32) else (1 : Int32))))
def F_X6_goToSmooth_J18 (x1 : Int32) (c_states : Int32) (c_thrown : Int32) (c_codes : Int32) (c_history : Nat → Int32) (c_left : Nat → Int32) (c_other : Nat → Int32) (c_smooth : Nat → Int32) (c_weights : Nat → Int32) (c_z : Nat → Int32) (v1 : Int32) : Option (Int32 × Int32 × Int32 × Int32 × (Nat → Int32) × (Nat → Int32) × (Nat → Int32) × (Nat → Int32) × (Nat → Int32) × (Nat → Int32)) :=
  if v1 ≤ 0 then
    (F_X6_save c_states c_history c_z).bind (fun r31 =>
    (F_X6_laySmoothRank c_codes c_left c_other c_smooth c_weights c_z x1).bind (fun r36 =>
    (F_X6_goes r36.2.2.1 c_z).bind (fun r40 =>
    (F_X6_rankNow r36.2.1 r36.2.2.1 r40.2).bind (fun r45 =>
    some (r45.1, r31.1, v1, r36.1, r31.2, r45.2.1, r45.2.2, r36.2.2.2.1, r36.2.2.2.2, r40.2)))))
  else
    some ((0 : Int32), c_states, v1, c_codes, c_history, c_left, c_other, c_smooth, c_weights, c_z)
def F_X6_goToSmooth (c_states : Int32) (c_thrown : Int32) (c_codes : Int32) (c_history : Nat → Int32) (c_left : Nat → Int32) (c_other : Nat → Int32) (c_smooth : Nat → Int32) (c_weights : Nat → Int32) (c_z : Nat → Int32) (x1 : Int32) : Option (Int32 × Int32 × Int32 × Int32 × (Nat → Int32) × (Nat → Int32) × (Nat → Int32) × (Nat → Int32) × (Nat → Int32) × (Nat → Int32)) :=
  if x1 < 0 then
    F_X6_goToSmooth_J18 x1 c_states c_thrown c_codes c_history c_left c_other c_smooth c_weights c_z (1 : Int32)
  else
    (F_X6_allSmooth c_codes c_left c_smooth c_weights c_z).bind (fun r7 =>
    F_X6_goToSmooth_J18 x1 c_states c_thrown r7.2.1 c_history r7.2.2.1 c_other r7.2.2.2.1 r7.2.2.2.2 c_z (if r7.1 ≤ x1 then (1 : Int32) else (0 : Int32)))
def F_X6_exchange (c_z : Nat → Int32) (x1 : Int32) (x2 : Int32) : Option ((Nat → Int32)) :=
  gd (vin ((2 : Int32) + x1) 13) (
  gd (vin ((2 : Int32) + x2) 13) (
  gd (vin ((2 : Int32) + x1) 13) (
  gd (vin ((2 : Int32) + x2) 13) (
  some (upd (upd c_z ((2 : Int32) + x1).toNatClampNeg (c_z ((2 : Int32) + x2).toNatClampNeg)) ((2 : Int32) + x2).toNatClampNeg (c_z ((2 : Int32) + x1).toNatClampNeg))))))
def F_X6_swap_J22 (x1 : Int32) (x2 : Int32) (c_states : Int32) (c_thrown : Int32) (c_history : Nat → Int32) (c_left : Nat → Int32) (c_other : Nat → Int32) (c_z : Nat → Int32) (v1 : Int32) : Option (Int32 × Int32 × Int32 × (Nat → Int32) × (Nat → Int32) × (Nat → Int32) × (Nat → Int32)) :=
  if v1 ≤ 0 then
    (F_X6_save c_states c_history c_z).bind (fun r35 =>
    (F_X6_exchange c_z x1 x2).bind (fun r41 =>
    (F_X6_rankNow c_left c_other r41).bind (fun r45 =>
    some (r45.1, r35.1, v1, r35.2, r45.2.1, r45.2.2, r41))))
  else
    some ((0 : Int32), c_states, v1, c_history, c_left, c_other, c_z)
def F_X6_swap (c_states : Int32) (c_thrown : Int32) (c_history : Nat → Int32) (c_left : Nat → Int32) (c_other : Nat → Int32) (c_z : Nat → Int32) (x1 : Int32) (x2 : Int32) : Option (Int32 × Int32 × Int32 × (Nat → Int32) × (Nat → Int32) × (Nat → Int32) × (Nat → Int32)) :=
  (F_X6_isPlace c_z x1).bind (fun r3 =>
  if r3 = 0 then
    F_X6_swap_J22 x1 x2 c_states c_thrown c_history c_left c_other c_z (1 : Int32)
  else
    (F_X6_isPlace c_z x2).bind (fun r11 =>
    F_X6_swap_J22 x1 x2 c_states c_thrown c_history c_left c_other c_z (if r11 = 0 then (1 : Int32) else (0 : Int32))))
def F_X6_turnAround_L2 (x1 : Int32) (x2 : Int32) : Nat → (Nat → Int32) → Int32 → Option ((Nat → Int32))
  | 0, _, _ => none
  | n + 1, c_z, x3 =>
    if (x2 - x3) ≤ (x1 + x3) then
      some c_z
    else
      (F_X6_exchange c_z (x1 + x3) (x2 - x3)).bind (fun r18 =>
      F_X6_turnAround_L2 x1 x2 n r18 (x3 + 1))
def F_X6_turnAround (c_z : Nat → Int32) (x1 : Int32) (x2 : Int32) : Option ((Nat → Int32)) :=
  F_X6_turnAround_L2 x1 x2 FU c_z (0 : Int32)
def F_X6_turn_J31 (x1 : Int32) (x2 : Int32) (c_states : Int32) (c_thrown : Int32) (c_history : Nat → Int32) (c_left : Nat → Int32) (c_other : Nat → Int32) (c_z : Nat → Int32) (v1 : Int32) : Option (Int32 × Int32 × Int32 × (Nat → Int32) × (Nat → Int32) × (Nat → Int32) × (Nat → Int32)) :=
  if v1 ≤ 0 then
    (F_X6_save c_states c_history c_z).bind (fun r44 =>
    (F_X6_turnAround c_z x1 x2).bind (fun r50 =>
    (F_X6_rankNow c_left c_other r50).bind (fun r54 =>
    some (r54.1, r44.1, v1, r44.2, r54.2.1, r54.2.2, r50))))
  else
    some ((0 : Int32), c_states, v1, c_history, c_left, c_other, c_z)
def F_X6_turn (c_states : Int32) (c_thrown : Int32) (c_history : Nat → Int32) (c_left : Nat → Int32) (c_other : Nat → Int32) (c_z : Nat → Int32) (x1 : Int32) (x2 : Int32) : Option (Int32 × Int32 × Int32 × (Nat → Int32) × (Nat → Int32) × (Nat → Int32) × (Nat → Int32)) :=
  (F_X6_isPlace c_z x1).bind (fun r3 =>
  if r3 = 0 then
    F_X6_turn_J31 x1 x2 c_states c_thrown c_history c_left c_other c_z (1 : Int32)
  else
    (F_X6_isPlace c_z x2).bind (fun r11 =>
    F_X6_turn_J31 x1 x2 c_states c_thrown c_history c_left c_other c_z (if r11 = 0 then (1 : Int32) else (if x1 ≤ x2 then (0 : Int32) else (2 : Int32)))))
def F_X6_step_L33 (x1 : Int32) : Nat → (Nat → Int32) → Int32 → Option (Int32 × (Nat → Int32))
  | 0, _, _ => none
  | n + 1, c_z, x2 =>
    if x2 ≤ 0 then
      some ((0 : Int32), c_z)
    else
      (F_X6_exchange c_z x2 (x2 - (1 : Int32))).bind (fun r42 =>
      F_X6_step_L33 x1 n r42 (x2 + (-1)))
def F_X6_step (c_z : Nat → Int32) (x1 : Int32) : Option (Int32 × (Nat → Int32)) :=
  gd (vin (0 : Int32) 13) (
  if ((c_z ((0 : Int32)).toNatClampNeg) - (1 : Int32)) ≤ x1 then
    gd (vin (0 : Int32) 13) (
    F_X6_step_L33 x1 FU c_z ((c_z ((0 : Int32)).toNatClampNeg) - (1 : Int32)))
  else
    (F_X6_exchange c_z x1 (x1 + (1 : Int32))).bind (fun r17 =>
    some (x1 + (1 : Int32), r17)))
def F_X6_carry_L49 (x1 : Int32) (x2 : Int32) : Nat → Int32 → Int32 → (Nat → Int32) → (Nat → Int32) → Int32 → Int32 → Option (Int32 × Int32 × Int32 × (Nat → Int32) × (Nat → Int32))
  | 0, _, _, _, _, _, _ => none
  | n + 1, c_states, c_thrown, c_history, c_z, x3, x4 =>
    if x2 ≤ x4 then
      some (x3, c_states, c_thrown, c_history, c_z)
    else
      (F_X6_step c_z x3).bind (fun r57 =>
      F_X6_carry_L49 x1 x2 n c_states c_thrown c_history r57.2 r57.1 (x4 + 1))
def F_X6_carry_J28 (x1 : Int32) (x2 : Int32) (c_states : Int32) (c_thrown : Int32) (c_history : Nat → Int32) (c_z : Nat → Int32) (v1 : Int32) : Option (Int32 × Int32 × Int32 × (Nat → Int32) × (Nat → Int32)) :=
  if v1 ≤ 0 then
    (F_X6_save c_states c_history c_z).bind (fun r41 =>
    F_X6_carry_L49 x1 x2 FU r41.1 v1 r41.2 c_z x1 (0 : Int32))
  else
    some ((0 : Int32), c_states, v1, c_history, c_z)
def F_X6_carry (c_states : Int32) (c_thrown : Int32) (c_history : Nat → Int32) (c_z : Nat → Int32) (x1 : Int32) (x2 : Int32) : Option (Int32 × Int32 × Int32 × (Nat → Int32) × (Nat → Int32)) :=
  (F_X6_isPlace c_z x1).bind (fun r3 =>
  if r3 = 0 then
    F_X6_carry_J28 x1 x2 c_states c_thrown c_history c_z (1 : Int32)
  else
    (F_X6_within x2 (0 : Int32) (20 : Int32)).bind (fun r17 =>
    F_X6_carry_J28 x1 x2 c_states c_thrown c_history c_z (if r17 = 0 then (2 : Int32) else (0 : Int32))))
def F_X6_put_L71 (x1 : Int32) (x2 : Int32) : Nat → Int32 → Int32 → (Nat → Int32) → (Nat → Int32) → (Nat → Int32) → Int32 → Option (Int32 × Int32 × Int32 × (Nat → Int32) × (Nat → Int32) × (Nat → Int32))
  | 0, _, _, _, _, _, _ => none
  | n + 1, c_states, c_thrown, c_history, c_left, c_z, x3 =>
    if x3 ≤ ((2 : Int32) + x1) then
      gd (vin ((2 : Int32) + x1) 13) (
      gd (vin (0 : Int32) 13) (
      gd (vin (0 : Int32) 13) (
      (F_X6_allRows c_left (upd (upd c_z ((2 : Int32) + x1).toNatClampNeg x2) ((0 : Int32)).toNatClampNeg (((upd c_z ((2 : Int32) + x1).toNatClampNeg x2) ((0 : Int32)).toNatClampNeg) + (1 : Int32)))).bind (fun r118 =>
      some (r118.1, c_states, c_thrown, c_history, r118.2, (upd (upd c_z ((2 : Int32) + x1).toNatClampNeg x2) ((0 : Int32)).toNatClampNeg (((upd c_z ((2 : Int32) + x1).toNatClampNeg x2) ((0 : Int32)).toNatClampNeg) + (1 : Int32))))))))
    else
      gd (vin (x3 - (1 : Int32)) 13) (
      gd (vin x3 13) (
      F_X6_put_L71 x1 x2 n c_states c_thrown c_history c_left (upd c_z (x3).toNatClampNeg (c_z (x3 - (1 : Int32)).toNatClampNeg)) (x3 + (-1))))
def F_X6_put_J46 (x1 : Int32) (x2 : Int32) (c_states : Int32) (c_thrown : Int32) (c_history : Nat → Int32) (c_left : Nat → Int32) (c_z : Nat → Int32) (v1 : Int32) : Option (Int32 × Int32 × Int32 × (Nat → Int32) × (Nat → Int32) × (Nat → Int32)) :=
  if v1 ≤ 0 then
    (F_X6_save c_states c_history c_z).bind (fun r59 =>
    gd (vin (0 : Int32) 13) (
    F_X6_put_L71 x1 x2 FU r59.1 v1 r59.2 c_left c_z ((2 : Int32) + (c_z ((0 : Int32)).toNatClampNeg))))
  else
    some ((0 : Int32), c_states, v1, c_history, c_left, c_z)
def F_X6_put (c_states : Int32) (c_thrown : Int32) (c_history : Nat → Int32) (c_left : Nat → Int32) (c_z : Nat → Int32) (x1 : Int32) (x2 : Int32) : Option (Int32 × Int32 × Int32 × (Nat → Int32) × (Nat → Int32) × (Nat → Int32)) :=
  gd (vin (0 : Int32) 13) (
  (F_X6_within x1 (0 : Int32) (c_z ((0 : Int32)).toNatClampNeg)).bind (fun r9 =>
  if r9 = 0 then
    F_X6_put_J46 x1 x2 c_states c_thrown c_history c_left c_z (1 : Int32)
  else
    (F_X6_isSign x2).bind (fun r20 =>
    if r20 = 0 then
      F_X6_put_J46 x1 x2 c_states c_thrown c_history c_left c_z (2 : Int32)
    else
      gd (vin (0 : Int32) 13) (
      F_X6_put_J46 x1 x2 c_states c_thrown c_history c_left c_z (if (c_z ((0 : Int32)).toNatClampNeg) = (11 : Int32) then (3 : Int32) else (0 : Int32))))))
def F_X6_take_L67 (x1 : Int32) : Nat → Int32 → Int32 → (Nat → Int32) → (Nat → Int32) → Int32 → Int32 → Option (Int32 × Int32 × Int32 × (Nat → Int32) × (Nat → Int32))
  | 0, _, _, _, _, _, _ => none
  | n + 1, c_states, c_thrown, c_history, c_z, x2, x3 =>
    gd (vin (0 : Int32) 13) (
    if ((2 : Int32) + (c_z ((0 : Int32)).toNatClampNeg)) ≤ x3 then
      gd (vin (0 : Int32) 13) (
      gd (vin ((2 : Int32) + (c_z ((0 : Int32)).toNatClampNeg)) 13) (
      some (x2, c_states, c_thrown, c_history, (upd c_z ((2 : Int32) + (c_z ((0 : Int32)).toNatClampNeg)).toNatClampNeg (0 : Int32)))))
    else
      gd (vin (x3 + (1 : Int32)) 13) (
      gd (vin x3 13) (
      F_X6_take_L67 x1 n c_states c_thrown c_history (upd c_z (x3).toNatClampNeg (c_z (x3 + (1 : Int32)).toNatClampNeg)) x2 (x3 + 1))))
def F_X6_take_J28 (x1 : Int32) (c_states : Int32) (c_thrown : Int32) (c_history : Nat → Int32) (c_z : Nat → Int32) (v1 : Int32) : Option (Int32 × Int32 × Int32 × (Nat → Int32) × (Nat → Int32)) :=
  if v1 ≤ 0 then
    (F_X6_save c_states c_history c_z).bind (fun r41 =>
    gd (vin ((2 : Int32) + x1) 13) (
    gd (vin (0 : Int32) 13) (
    gd (vin (0 : Int32) 13) (
    F_X6_take_L67 x1 FU r41.1 v1 r41.2 (upd c_z ((0 : Int32)).toNatClampNeg ((c_z ((0 : Int32)).toNatClampNeg) - (1 : Int32))) (c_z ((2 : Int32) + x1).toNatClampNeg) ((2 : Int32) + x1)))))
  else
    some ((0 : Int32), c_states, v1, c_history, c_z)
def F_X6_take (c_states : Int32) (c_thrown : Int32) (c_history : Nat → Int32) (c_z : Nat → Int32) (x1 : Int32) : Option (Int32 × Int32 × Int32 × (Nat → Int32) × (Nat → Int32)) :=
  (F_X6_isPlace c_z x1).bind (fun r3 =>
  if r3 = 0 then
    F_X6_take_J28 x1 c_states c_thrown c_history c_z (1 : Int32)
  else
    gd (vin (0 : Int32) 13) (
    F_X6_take_J28 x1 c_states c_thrown c_history c_z (if (c_z ((0 : Int32)).toNatClampNeg) = (1 : Int32) then (2 : Int32) else (0 : Int32))))
def F_X6_append_J30 (x1 : Int32) (c_length : Int32) (c_thrown : Int32) (c_text : Nat → Int32) (v1 : Int32) : Option (Int32 × Int32 × Int32 × (Nat → Int32)) :=
  if v1 ≤ 0 then
    gd (vin c_length 60) (
    some (c_length + (1 : Int32), c_length + (1 : Int32), v1, (upd c_text (c_length).toNatClampNeg x1)))
  else
    some ((0 : Int32), c_length, v1, c_text)
def F_X6_append (c_length : Int32) (c_thrown : Int32) (c_text : Nat → Int32) (x1 : Int32) : Option (Int32 × Int32 × Int32 × (Nat → Int32)) :=
  (F_X6_within x1 (33 : Int32) (126 : Int32)).bind (fun r6 =>
  F_X6_append_J30 x1 c_length c_thrown c_text (if r6 = 0 then (1 : Int32) else (if c_length = (60 : Int32) then (2 : Int32) else (0 : Int32))))
def F_X6_clearBuffer (c_length : Int32) (c_thrown : Int32) : Option (Int32 × Int32 × Int32) :=
  some (c_length, (0 : Int32), (0 : Int32))
def F_X6_takes_J139 (x1 : Int32) (c_read : Int32) (c_isOpen : Int32) (c_signs : Nat → Int32) (x2 : Int32) : Option (Int32 × Int32 × Int32 × (Nat → Int32)) :=
  gd (bz x2) (
  some (x2, c_read, (0 : Int32), c_signs))
def F_X6_takes_L91 (x1 : Int32) : Nat → Int32 → Int32 → (Nat → Int32) → Int32 → Int32 → Option (Int32 × Int32 × Int32 × (Nat → Int32))
  | 0, _, _, _, _, _ => none
  | n + 1, c_read, c_isOpen, c_signs, x2, x3 =>
    if x2 = 0 then
      F_X6_takes_J139 x1 c_read c_isOpen c_signs x2
    else
      if (x1 - (48 : Int32)) ≤ x3 then
        F_X6_takes_J139 x1 c_read c_isOpen c_signs x2
      else
        gd (vin (c_read - (1 : Int32)) 11) (
        gd (vin c_read 11) (
        F_X6_takes_L91 x1 n (c_read + (1 : Int32)) c_isOpen (upd c_signs (c_read).toNatClampNeg (c_signs (c_read - (1 : Int32)).toNatClampNeg)) x2 (x3 + 1)))
def F_X6_takes_J49 (x1 : Int32) (c_read : Int32) (c_isOpen : Int32) (c_signs : Nat → Int32) : Option (Int32 × Int32 × Int32 × (Nat → Int32)) :=
  if c_isOpen = 0 then
    F_X6_takes_L91 x1 FU c_read c_isOpen c_signs (0 : Int32) (1 : Int32)
  else
    (F_X6_within x1 (50 : Int32) (57 : Int32)).bind (fun r61 =>
    F_X6_takes_L91 x1 FU c_read c_isOpen c_signs (if r61 = 0 then (0 : Int32) else (if (11 : Int32) < (((c_read - (1 : Int32)) + x1) - (48 : Int32)) then (0 : Int32) else (1 : Int32))) (1 : Int32))
def F_X6_takes (c_read : Int32) (c_isOpen : Int32) (c_signs : Nat → Int32) (x1 : Int32) : Option (Int32 × Int32 × Int32 × (Nat → Int32)) :=
  (F_X6_isSign (x1 - (97 : Int32))).bind (fun r4 =>
  if r4 = 0 then
    F_X6_takes_J49 x1 c_read c_isOpen c_signs
  else
    if (11 : Int32) ≤ c_read then
      F_X6_takes_J49 x1 c_read c_isOpen c_signs
    else
      gd (vin c_read 11) (
      some ((1 : Int32), c_read + (1 : Int32), (1 : Int32), (upd c_signs (c_read).toNatClampNeg (x1 - (97 : Int32))))))
def F_X6_rightUpTo_L12 (c_length : Int32) (c_text : Nat → Int32) : Nat → Int32 → Int32 → (Nat → Int32) → Int32 → Option (Int32 × Int32 × Int32 × (Nat → Int32))
  | 0, _, _, _, _ => none
  | n + 1, c_read, c_isOpen, c_signs, x1 =>
    if c_length ≤ x1 then
      some (x1, c_read, c_isOpen, c_signs)
    else
      gd (vin x1 60) (
      (F_X6_takes c_read c_isOpen c_signs (c_text (x1).toNatClampNeg)).bind (fun r27 =>
      if r27.1 = 0 then
        some (x1, r27.2.1, r27.2.2.1, r27.2.2.2)
      else
        F_X6_rightUpTo_L12 c_length c_text n r27.2.1 r27.2.2.1 r27.2.2.2 (x1 + 1)))
def F_X6_rightUpTo (c_length : Int32) (c_read : Int32) (c_isOpen : Int32) (c_signs : Nat → Int32) (c_text : Nat → Int32) : Option (Int32 × Int32 × Int32 × (Nat → Int32)) :=
  F_X6_rightUpTo_L12 c_length c_text FU (0 : Int32) (0 : Int32) c_signs (0 : Int32)
def F_X6_firstError (c_length : Int32) (c_thrown : Int32) (c_read : Int32) (c_isOpen : Int32) (c_signs : Nat → Int32) (c_text : Nat → Int32) : Option (Int32 × Int32 × Int32 × Int32 × (Nat → Int32)) :=
  (F_X6_rightUpTo c_length c_read c_isOpen c_signs c_text).bind (fun r6 =>
  some (r6.1, (0 : Int32), r6.2.1, r6.2.2.1, r6.2.2.2))
def F_X6_read_J88 (k57 : Int32 → Int32 → Int32 → Int32 → Int32 → (Nat → Int32) → (Nat → Int32) → (Nat → Int32) → (Nat → Int32) → (Nat → Int32) → Int32 → Option (Int32 × Int32 × Int32 × Int32 × Int32 × Int32 × (Nat → Int32) × (Nat → Int32) × (Nat → Int32) × (Nat → Int32) × (Nat → Int32))) (c_text : Nat → Int32) (c_states : Int32) (c_length : Int32) (c_thrown : Int32) (c_read : Int32) (c_isOpen : Int32) (c_history : Nat → Int32) (c_left : Nat → Int32) (c_other : Nat → Int32) (c_signs : Nat → Int32) (c_z : Nat → Int32) (x1 : Int32) (v1 : Int32) (v2 : Int32) : Option (Int32 × Int32 × Int32 × Int32 × Int32 × Int32 × (Nat → Int32) × (Nat → Int32) × (Nat → Int32) × (Nat → Int32) × (Nat → Int32)) :=
  gd (vin v1 13) (
  k57 c_states c_length c_thrown c_read c_isOpen c_history c_left c_other c_signs (upd c_z (v1).toNatClampNeg v2) (x1 + 1))
def F_X6_read_L57 (c_text : Nat → Int32) : Nat → Int32 → Int32 → Int32 → Int32 → Int32 → (Nat → Int32) → (Nat → Int32) → (Nat → Int32) → (Nat → Int32) → (Nat → Int32) → Int32 → Option (Int32 × Int32 × Int32 × Int32 × Int32 × Int32 × (Nat → Int32) × (Nat → Int32) × (Nat → Int32) × (Nat → Int32) × (Nat → Int32))
  | 0, _, _, _, _, _, _, _, _, _, _, _ => none
  | n + 1, c_states, c_length, c_thrown, c_read, c_isOpen, c_history, c_left, c_other, c_signs, c_z, x1 =>
    if (11 : Int32) ≤ x1 then
      (F_X6_rankNow c_left c_other c_z).bind (fun r96 =>
      some (r96.1, c_states, c_length, c_thrown, c_read, c_isOpen, c_history, r96.2.1, r96.2.2, c_signs, c_z))
    else
      if c_read ≤ x1 then
        F_X6_read_J88 (F_X6_read_L57 c_text n) c_text c_states c_length c_thrown c_read c_isOpen c_history c_left c_other c_signs c_z x1 ((2 : Int32) + x1) (0 : Int32)
      else
        gd (vin x1 11) (
        F_X6_read_J88 (F_X6_read_L57 c_text n) c_text c_states c_length c_thrown c_read c_isOpen c_history c_left c_other c_signs c_z x1 ((2 : Int32) + x1) (c_signs (x1).toNatClampNeg))
def F_X6_read_J24 (c_text : Nat → Int32) (c_states : Int32) (c_length : Int32) (c_thrown : Int32) (c_read : Int32) (c_isOpen : Int32) (c_history : Nat → Int32) (c_left : Nat → Int32) (c_other : Nat → Int32) (c_signs : Nat → Int32) (c_z : Nat → Int32) (v1 : Int32) : Option (Int32 × Int32 × Int32 × Int32 × Int32 × Int32 × (Nat → Int32) × (Nat → Int32) × (Nat → Int32) × (Nat → Int32) × (Nat → Int32)) :=
  if v1 ≤ 0 then
    (F_X6_save c_states c_history c_z).bind (fun r37 =>
    gd (vin (0 : Int32) 13) (
    F_X6_read_L57 c_text FU r37.1 (0 : Int32) v1 c_read c_isOpen r37.2 c_left c_other c_signs (upd c_z ((0 : Int32)).toNatClampNeg c_read) (0 : Int32)))
  else
    some ((0 : Int32), c_states, c_length, v1, c_read, c_isOpen, c_history, c_left, c_other, c_signs, c_z)
def F_X6_read (c_states : Int32) (c_length : Int32) (c_thrown : Int32) (c_read : Int32) (c_isOpen : Int32) (c_history : Nat → Int32) (c_left : Nat → Int32) (c_other : Nat → Int32) (c_signs : Nat → Int32) (c_text : Nat → Int32) (c_z : Nat → Int32) : Option (Int32 × Int32 × Int32 × Int32 × Int32 × Int32 × (Nat → Int32) × (Nat → Int32) × (Nat → Int32) × (Nat → Int32) × (Nat → Int32)) :=
  (F_X6_rightUpTo c_length c_read c_isOpen c_signs c_text).bind (fun r2 =>
  F_X6_read_J24 c_text c_states c_length c_thrown r2.2.1 r2.2.2.1 c_history c_left c_other r2.2.2.2 c_z (if r2.1 = c_length then (if c_length ≤ 0 then (1 : Int32) else (0 : Int32)) else (1 : Int32)))
def F_X6_undo_L37 (c_history : Nat → Int32) : Nat → Int32 → Int32 → (Nat → Int32) → Int32 → Option (Int32 × Int32 × Int32 × (Nat → Int32))
  | 0, _, _, _, _ => none
  | n + 1, c_states, c_thrown, c_z, x1 =>
    if (13 : Int32) ≤ x1 then
      some (c_states, c_states, c_thrown, c_z)
    else
      gd (vin (((13 : Int32) * c_states) + x1) 78) (
      gd (vin x1 13) (
      F_X6_undo_L37 c_history n c_states c_thrown (upd c_z (x1).toNatClampNeg (c_history (((13 : Int32) * c_states) + x1).toNatClampNeg)) (x1 + 1)))
def F_X6_undo_J13 (c_history : Nat → Int32) (c_states : Int32) (c_thrown : Int32) (c_z : Nat → Int32) (v1 : Int32) : Option (Int32 × Int32 × Int32 × (Nat → Int32)) :=
  if v1 ≤ 0 then
    F_X6_undo_L37 c_history FU (c_states - (1 : Int32)) v1 c_z (0 : Int32)
  else
    some ((0 : Int32), c_states, v1, c_z)
def F_X6_undo (c_states : Int32) (c_thrown : Int32) (c_history : Nat → Int32) (c_z : Nat → Int32) : Option (Int32 × Int32 × Int32 × (Nat → Int32)) :=
  F_X6_undo_J13 c_history c_states c_thrown c_z (if c_states ≤ 0 then (1 : Int32) else (0 : Int32))
def F_X6_sign_J14 (c_z : Nat → Int32) (x1 : Int32) (c_thrown : Int32) (v1 : Int32) : Option (Int32 × Int32) :=
  if v1 ≤ 0 then
    gd (vin ((2 : Int32) + x1) 13) (
    some (c_z ((2 : Int32) + x1).toNatClampNeg, v1))
  else
    some ((0 : Int32), v1)
def F_X6_sign (c_thrown : Int32) (c_z : Nat → Int32) (x1 : Int32) : Option (Int32 × Int32) :=
  (F_X6_isPlace c_z x1).bind (fun r3 =>
  F_X6_sign_J14 c_z x1 c_thrown (if r3 = 0 then (1 : Int32) else (0 : Int32)))
def F_X6_digitAt_J57 (k7 : Int32 → Int32 → Int32 → Option (Int32)) (c_z : Nat → Int32) (x1 : Int32) (x2 : Int32) (x4 : Int32) (x5 : Int32) (v0 : Int32) (v1 : Int32) : Option (Int32) :=
  k7 (x2 ||| ((1 : Int32) <<< (x5 &&& 31))) (v0 + v1) (x4 + 1)
def F_X6_digitAt_L7 (c_z : Nat → Int32) (x1 : Int32) : Nat → Int32 → Int32 → Int32 → Option (Int32)
  | 0, _, _, _ => none
  | n + 1, x2, x3, x4 =>
    gd (vin (0 : Int32) 13) (
    if (c_z ((0 : Int32)).toNatClampNeg) ≤ x4 then
      some x3
    else
      gd (vin ((2 : Int32) + x4) 13) (
      gd (vin ((2 : Int32) + x1) 13) (
      F_X6_digitAt_J57 (F_X6_digitAt_L7 c_z x1 n) c_z x1 x2 x4 (c_z ((2 : Int32) + x4).toNatClampNeg) x3 (if (c_z ((2 : Int32) + x1).toNatClampNeg) ≤ (c_z ((2 : Int32) + x4).toNatClampNeg) then (0 : Int32) else (if ((x2 >>> ((c_z ((2 : Int32) + x4).toNatClampNeg) &&& 31)) &&& (1 : Int32)) = 0 then (1 : Int32) else (0 : Int32))))))
def F_X6_digitAt (c_z : Nat → Int32) (x1 : Int32) : Option (Int32) :=
  F_X6_digitAt_L7 c_z x1 FU (0 : Int32) (0 : Int32) x1
def F_X6_digit_J14 (c_z : Nat → Int32) (x1 : Int32) (c_thrown : Int32) (v1 : Int32) : Option (Int32 × Int32) :=
  if v1 ≤ 0 then
    (F_X6_digitAt c_z x1).bind (fun r30 =>
    some (r30, v1))
  else
    some ((0 : Int32), v1)
def F_X6_digit (c_thrown : Int32) (c_z : Nat → Int32) (x1 : Int32) : Option (Int32 × Int32) :=
  (F_X6_isPlace c_z x1).bind (fun r3 =>
  F_X6_digit_J14 c_z x1 c_thrown (if r3 = 0 then (1 : Int32) else (0 : Int32)))
def F_X6_manyOf (c_left : Nat → Int32) (c_z : Nat → Int32) (x1 : Int32) : Option (Int32 × (Nat → Int32)) :=
  (F_X6_countAll c_left c_z).bind (fun r1 =>
  gd (vin x1 6) (
  some (r1 (x1).toNatClampNeg, r1)))
def F_X6_many_J13 (c_z : Nat → Int32) (x1 : Int32) (c_thrown : Int32) (c_left : Nat → Int32) (v1 : Int32) : Option (Int32 × Int32 × (Nat → Int32)) :=
  if v1 ≤ 0 then
    (F_X6_manyOf c_left c_z x1).bind (fun r29 =>
    some (r29.1, v1, r29.2))
  else
    some ((0 : Int32), v1, c_left)
def F_X6_many (c_thrown : Int32) (c_left : Nat → Int32) (c_z : Nat → Int32) (x1 : Int32) : Option (Int32 × Int32 × (Nat → Int32)) :=
  (F_X6_isSign x1).bind (fun r2 =>
  F_X6_many_J13 c_z x1 c_thrown c_left (if r2 = 0 then (1 : Int32) else (0 : Int32)))
def F_X6_blockNow (c_codes : Int32) (c_left : Nat → Int32) (c_other : Nat → Int32) (c_smooth : Nat → Int32) (c_weights : Nat → Int32) (c_z : Nat → Int32) (x1 : Int32) (x2 : Int32) : Option (Int32 × Int32 × (Nat → Int32) × (Nat → Int32) × (Nat → Int32) × (Nat → Int32)) :=
  if x2 = (2 : Int32) then
    (F_X6_smoothWith c_codes c_left c_smooth c_weights c_z x1).bind (fun r7 =>
    some (r7.1, r7.2.1, r7.2.2.1, c_other, r7.2.2.2.1, r7.2.2.2.2))
  else
    (F_X6_copyRow c_other c_z).bind (fun r12 =>
    (F_X6_lowestRank c_left r12 c_z x1).bind (fun r17 =>
    if x2 = 0 then
      some (r17.1, c_codes, r17.2, r12, c_smooth, c_weights)
    else
      (F_X6_rows r17.2).bind (fun r30 =>
      some (r30, c_codes, r17.2, r12, c_smooth, c_weights))))
def F_X6_block_J29 (c_z : Nat → Int32) (x1 : Int32) (x2 : Int32) (c_thrown : Int32) (c_codes : Int32) (c_left : Nat → Int32) (c_other : Nat → Int32) (c_smooth : Nat → Int32) (c_weights : Nat → Int32) (v1 : Int32) : Option (Int32 × Int32 × Int32 × (Nat → Int32) × (Nat → Int32) × (Nat → Int32) × (Nat → Int32)) :=
  if v1 ≤ 0 then
    (F_X6_blockNow c_codes c_left c_other c_smooth c_weights c_z x1 x2).bind (fun r46 =>
    some (r46.1, v1, r46.2.1, r46.2.2.1, r46.2.2.2.1, r46.2.2.2.2.1, r46.2.2.2.2.2))
  else
    some ((0 : Int32), v1, c_codes, c_left, c_other, c_smooth, c_weights)
def F_X6_block (c_thrown : Int32) (c_codes : Int32) (c_left : Nat → Int32) (c_other : Nat → Int32) (c_smooth : Nat → Int32) (c_weights : Nat → Int32) (c_z : Nat → Int32) (x1 : Int32) (x2 : Int32) : Option (Int32 × Int32 × Int32 × (Nat → Int32) × (Nat → Int32) × (Nat → Int32) × (Nat → Int32)) :=
  gd (vin (0 : Int32) 13) (
  (F_X6_within x1 (0 : Int32) (c_z ((0 : Int32)).toNatClampNeg)).bind (fun r9 =>
  if r9 = 0 then
    F_X6_block_J29 c_z x1 x2 c_thrown c_codes c_left c_other c_smooth c_weights (1 : Int32)
  else
    (F_X6_within x2 (0 : Int32) (2 : Int32)).bind (fun r18 =>
    F_X6_block_J29 c_z x1 x2 c_thrown c_codes c_left c_other c_smooth c_weights (if r18 = 0 then (1 : Int32) else (0 : Int32)))))
def F_X6_unlike_L8 (c_z : Nat → Int32) : Nat → (Nat → Int32) → Int32 → Int32 → Option (Int32 × (Nat → Int32))
  | 0, _, _, _ => none
  | n + 1, c_left, x1, x2 =>
    if (6 : Int32) ≤ x2 then
      some (x1, c_left)
    else
      gd (vin x2 6) (
      F_X6_unlike_L8 c_z n c_left (if (c_left (x2).toNatClampNeg) ≤ 0 then x1 + (0 : Int32) else x1 + (1 : Int32)) (x2 + 1))
def F_X6_unlike (c_left : Nat → Int32) (c_z : Nat → Int32) : Option (Int32 × (Nat → Int32)) :=
  (F_X6_countAll c_left c_z).bind (fun r1 =>
  F_X6_unlike_L8 c_z FU r1 (0 : Int32) (0 : Int32))
def F_X6_inversions_L18 (k4 : Int32 → Int32 → Option (Int32)) (c_z : Nat → Int32) : Nat → Int32 → Int32 → Int32 → Option (Int32)
  | 0, _, _, _ => none
  | n + 1, x1, x2, x3 =>
    gd (vin (0 : Int32) 13) (
    if (c_z ((0 : Int32)).toNatClampNeg) ≤ x3 then
      k4 x1 (x2 + 1)
    else
      gd (vin ((2 : Int32) + x2) 13) (
      gd (vin ((2 : Int32) + x3) 13) (
      F_X6_inversions_L18 k4 c_z n (if (c_z ((2 : Int32) + x2).toNatClampNeg) ≤ (c_z ((2 : Int32) + x3).toNatClampNeg) then x1 + (0 : Int32) else x1 + (1 : Int32)) x2 (x3 + 1))))
def F_X6_inversions_L4 (c_z : Nat → Int32) : Nat → Int32 → Int32 → Option (Int32)
  | 0, _, _ => none
  | n + 1, x1, x2 =>
    gd (vin (0 : Int32) 13) (
    if (c_z ((0 : Int32)).toNatClampNeg) ≤ x2 then
      some x1
    else
      F_X6_inversions_L18 (F_X6_inversions_L4 c_z n) c_z FU x1 x2 (x2 + (1 : Int32)))
def F_X6_inversions (c_z : Nat → Int32) : Option (Int32) :=
  F_X6_inversions_L4 c_z FU (0 : Int32) (0 : Int32)
def F_X6_descents_J42 (k4 : Int32 → Int32 → Option (Int32)) (c_z : Nat → Int32) (x1 : Int32) (x2 : Int32) (x3 : Int32) (v0 : Int32) : Option (Int32) :=
  k4 (if v0 = 0 then x2 + (0 : Int32) else (if x1 = 0 then x2 + (1 : Int32) else x2 + (x3 + (1 : Int32)))) (x3 + 1)
def F_X6_descents_L4 (c_z : Nat → Int32) (x1 : Int32) : Nat → Int32 → Int32 → Option (Int32)
  | 0, _, _ => none
  | n + 1, x2, x3 =>
    gd (vin (0 : Int32) 13) (
    if (c_z ((0 : Int32)).toNatClampNeg) ≤ (x3 + (1 : Int32)) then
      some x2
    else
      gd (vin ((2 : Int32) + x3) 13) (
      gd (vin (((2 : Int32) + x3) + (1 : Int32)) 13) (
      F_X6_descents_J42 (F_X6_descents_L4 c_z x1 n) c_z x1 x2 x3 (if (c_z ((2 : Int32) + x3).toNatClampNeg) ≤ (c_z (((2 : Int32) + x3) + (1 : Int32)).toNatClampNeg) then (0 : Int32) else (1 : Int32)))))
def F_X6_descents (c_z : Nat → Int32) (x1 : Int32) : Option (Int32) :=
  F_X6_descents_L4 c_z x1 FU (0 : Int32) (0 : Int32)
def F_X6_turnedRank_L2 (c_z : Nat → Int32) : Nat → (Nat → Int32) → (Nat → Int32) → Int32 → Option (Int32 × (Nat → Int32) × (Nat → Int32))
  | 0, _, _, _ => none
  | n + 1, c_left, c_other, x1 =>
    gd (vin (0 : Int32) 13) (
    if (c_z ((0 : Int32)).toNatClampNeg) ≤ x1 then
      (F_X6_rankOfOther c_left c_other c_z).bind (fun r42 =>
      some (r42.1, r42.2, c_other))
    else
      gd (vin (0 : Int32) 13) (
      gd (vin ((((2 : Int32) + (c_z ((0 : Int32)).toNatClampNeg)) - (1 : Int32)) - x1) 13) (
      gd (vin x1 11) (
      F_X6_turnedRank_L2 c_z n c_left (upd c_other (x1).toNatClampNeg (c_z ((((2 : Int32) + (c_z ((0 : Int32)).toNatClampNeg)) - (1 : Int32)) - x1).toNatClampNeg)) (x1 + 1)))))
def F_X6_turnedRank (c_left : Nat → Int32) (c_other : Nat → Int32) (c_z : Nat → Int32) : Option (Int32 × (Nat → Int32) × (Nat → Int32)) :=
  F_X6_turnedRank_L2 c_z FU c_left c_other (0 : Int32)
def F_X6_counted_J85 (c_states : Int32) (c_z : Nat → Int32) (x1 : Int32) (c_codes : Int32) (c_left : Nat → Int32) (c_other : Nat → Int32) (c_smooth : Nat → Int32) (c_weights : Nat → Int32) : Option (Int32 × Int32 × (Nat → Int32) × (Nat → Int32) × (Nat → Int32) × (Nat → Int32)) :=
  (F_X6_rankNow c_left c_other c_z).bind (fun r86 =>
  some (r86.1, c_codes, r86.2.1, r86.2.2, c_smooth, c_weights))
def F_X6_counted_J130 (c_states : Int32) (c_z : Nat → Int32) (x1 : Int32) (c_codes : Int32) (c_left : Nat → Int32) (c_other : Nat → Int32) (c_smooth : Nat → Int32) (c_weights : Nat → Int32) (v1 : Int32) : Option (Int32 × Int32 × (Nat → Int32) × (Nat → Int32) × (Nat → Int32) × (Nat → Int32)) :=
  (F_X6_descents c_z v1).bind (fun r130 =>
  some (r130, c_codes, c_left, c_other, c_smooth, c_weights))
def F_X6_counted_J118 (c_states : Int32) (c_z : Nat → Int32) (x1 : Int32) (c_codes : Int32) (c_left : Nat → Int32) (c_other : Nat → Int32) (c_smooth : Nat → Int32) (c_weights : Nat → Int32) : Option (Int32 × Int32 × (Nat → Int32) × (Nat → Int32) × (Nat → Int32) × (Nat → Int32)) :=
  F_X6_counted_J130 c_states c_z x1 c_codes c_left c_other c_smooth c_weights (if x1 = (9 : Int32) then (1 : Int32) else (0 : Int32))
def F_X6_counted (c_states : Int32) (c_codes : Int32) (c_left : Nat → Int32) (c_other : Nat → Int32) (c_smooth : Nat → Int32) (c_weights : Nat → Int32) (c_z : Nat → Int32) (x1 : Int32) : Option (Int32 × Int32 × (Nat → Int32) × (Nat → Int32) × (Nat → Int32) × (Nat → Int32)) :=
  if x1 = 0 then
    gd (vin (0 : Int32) 13) (
    some (c_z ((0 : Int32)).toNatClampNeg, c_codes, c_left, c_other, c_smooth, c_weights))
  else if x1 = 1 then
    (F_X6_unlike c_left c_z).bind (fun r76 =>
    some (r76.1, c_codes, r76.2, c_other, c_smooth, c_weights))
  else if x1 = 2 then
    (F_X6_allRows c_left c_z).bind (fun r81 =>
    some (r81.1, c_codes, r81.2, c_other, c_smooth, c_weights))
  else if x1 = 3 then
    F_X6_counted_J85 c_states c_z x1 c_codes c_left c_other c_smooth c_weights
  else if x1 = 4 then
    (F_X6_allSmooth c_codes c_left c_smooth c_weights c_z).bind (fun r91 =>
    some (r91.1, r91.2.1, r91.2.2.1, c_other, r91.2.2.2.1, r91.2.2.2.2))
  else if x1 = 5 then
    (F_X6_smoothRank c_codes c_left c_smooth c_weights c_z).bind (fun r96 =>
    some (r96.1, r96.2.1, r96.2.2.1, c_other, r96.2.2.2.1, r96.2.2.2.2))
  else if x1 = 6 then
    (F_X6_isSmooth c_codes c_left c_smooth c_weights c_z).bind (fun r101 =>
    some ((if r101.1 = 0 then (0 : Int32) else (1 : Int32)), r101.2.1, r101.2.2.1, c_other, r101.2.2.2.1, r101.2.2.2.2))
  else if x1 = 7 then
    (F_X6_inversions c_z).bind (fun r114 =>
    some (r114, c_codes, c_left, c_other, c_smooth, c_weights))
  else if x1 = 8 then
    F_X6_counted_J118 c_states c_z x1 c_codes c_left c_other c_smooth c_weights
  else if x1 = 9 then
    F_X6_counted_J118 c_states c_z x1 c_codes c_left c_other c_smooth c_weights
  else if x1 = 10 then
    (F_X6_turnedRank c_left c_other c_z).bind (fun r135 =>
    some (r135.1, c_codes, r135.2.1, r135.2.2, c_smooth, c_weights))
  else if x1 = 11 then
    F_X6_counted_J85 c_states c_z x1 c_codes c_left c_other c_smooth c_weights
  else if x1 = 12 then
    gd (vin (1 : Int32) 13) (
    some (c_z ((1 : Int32)).toNatClampNeg, c_codes, c_left, c_other, c_smooth, c_weights))
  else 
    some (c_states, c_codes, c_left, c_other, c_smooth, c_weights)
def F_X6_count_J16 (c_states : Int32) (c_z : Nat → Int32) (x1 : Int32) (c_thrown : Int32) (c_codes : Int32) (c_left : Nat → Int32) (c_other : Nat → Int32) (c_smooth : Nat → Int32) (c_weights : Nat → Int32) (v1 : Int32) : Option (Int32 × Int32 × Int32 × (Nat → Int32) × (Nat → Int32) × (Nat → Int32) × (Nat → Int32)) :=
  if v1 ≤ 0 then
    (F_X6_counted c_states c_codes c_left c_other c_smooth c_weights c_z x1).bind (fun r32 =>
    some (r32.1, v1, r32.2.1, r32.2.2.1, r32.2.2.2.1, r32.2.2.2.2.1, r32.2.2.2.2.2))
  else
    some ((0 : Int32), v1, c_codes, c_left, c_other, c_smooth, c_weights)
def F_X6_count (c_states : Int32) (c_thrown : Int32) (c_codes : Int32) (c_left : Nat → Int32) (c_other : Nat → Int32) (c_smooth : Nat → Int32) (c_weights : Nat → Int32) (c_z : Nat → Int32) (x1 : Int32) : Option (Int32 × Int32 × Int32 × (Nat → Int32) × (Nat → Int32) × (Nat → Int32) × (Nat → Int32)) :=
  (F_X6_within x1 (0 : Int32) (13 : Int32)).bind (fun r5 =>
  F_X6_count_J16 c_states c_z x1 c_thrown c_codes c_left c_other c_smooth c_weights (if r5 = 0 then (1 : Int32) else (0 : Int32)))
def F_X6_swappedRank (c_left : Nat → Int32) (c_other : Nat → Int32) (c_z : Nat → Int32) (x1 : Int32) (x2 : Int32) : Option (Int32 × (Nat → Int32) × (Nat → Int32)) :=
  (F_X6_copyRow c_other c_z).bind (fun r1 =>
  gd (vin ((2 : Int32) + x2) 13) (
  gd (vin x1 11) (
  gd (vin ((2 : Int32) + x1) 13) (
  gd (vin x2 11) (
  (F_X6_rankOfOther c_left (upd (upd r1 (x1).toNatClampNeg (c_z ((2 : Int32) + x2).toNatClampNeg)) (x2).toNatClampNeg (c_z ((2 : Int32) + x1).toNatClampNeg)) c_z).bind (fun r33 =>
  some (r33.1, r33.2, (upd (upd r1 (x1).toNatClampNeg (c_z ((2 : Int32) + x2).toNatClampNeg)) (x2).toNatClampNeg (c_z ((2 : Int32) + x1).toNatClampNeg)))))))))
def F_X6_ifSwapped_J22 (c_z : Nat → Int32) (x1 : Int32) (x2 : Int32) (c_thrown : Int32) (c_left : Nat → Int32) (c_other : Nat → Int32) (v1 : Int32) : Option (Int32 × Int32 × (Nat → Int32) × (Nat → Int32)) :=
  if v1 ≤ 0 then
    (F_X6_swappedRank c_left c_other c_z x1 x2).bind (fun r39 =>
    some (r39.1, v1, r39.2.1, r39.2.2))
  else
    some ((0 : Int32), v1, c_left, c_other)
def F_X6_ifSwapped (c_thrown : Int32) (c_left : Nat → Int32) (c_other : Nat → Int32) (c_z : Nat → Int32) (x1 : Int32) (x2 : Int32) : Option (Int32 × Int32 × (Nat → Int32) × (Nat → Int32)) :=
  (F_X6_isPlace c_z x1).bind (fun r3 =>
  if r3 = 0 then
    F_X6_ifSwapped_J22 c_z x1 x2 c_thrown c_left c_other (1 : Int32)
  else
    (F_X6_isPlace c_z x2).bind (fun r11 =>
    F_X6_ifSwapped_J22 c_z x1 x2 c_thrown c_left c_other (if r11 = 0 then (1 : Int32) else (0 : Int32))))
def F_X6_signAt (c_left : Nat → Int32) (c_other : Nat → Int32) (c_z : Nat → Int32) (x1 : Int32) (x2 : Int32) : Option (Int32 × (Nat → Int32) × (Nat → Int32)) :=
  (F_X6_layRank c_left c_other c_z x1).bind (fun r2 =>
  gd (vin x2 11) (
  some (r2.2 (x2).toNatClampNeg, r2.1, r2.2)))
def F_X6_signOf_J26 (c_z : Nat → Int32) (x1 : Int32) (x2 : Int32) (c_thrown : Int32) (c_left : Nat → Int32) (c_other : Nat → Int32) (v1 : Int32) : Option (Int32 × Int32 × (Nat → Int32) × (Nat → Int32)) :=
  if v1 ≤ 0 then
    (F_X6_signAt c_left c_other c_z x1 x2).bind (fun r43 =>
    some (r43.1, v1, r43.2.1, r43.2.2))
  else
    some ((0 : Int32), v1, c_left, c_other)
def F_X6_signOf (c_thrown : Int32) (c_left : Nat → Int32) (c_other : Nat → Int32) (c_z : Nat → Int32) (x1 : Int32) (x2 : Int32) : Option (Int32 × Int32 × (Nat → Int32) × (Nat → Int32)) :=
  (F_X6_isPlace c_z x2).bind (fun r3 =>
  if r3 = 0 then
    F_X6_signOf_J26 c_z x1 x2 c_thrown c_left c_other (1 : Int32)
  else
    (F_X6_isRank c_left c_z x1).bind (fun r15 =>
    F_X6_signOf_J26 c_z x1 x2 c_thrown r15.2 c_other (if r15.1 = 0 then (2 : Int32) else (0 : Int32))))
def F_X6_rowsWithBoth (c_left : Nat → Int32) (x1 : Int32) (x2 : Int32) : Option (Int32 × (Nat → Int32)) :=
  gd (vin x1 6) (
  if (c_left (x1).toNatClampNeg) = 0 then
    some ((0 : Int32), c_left)
  else
    gd (vin x1 6) (
    gd (vin x1 6) (
    (F_X6_rowsWith (upd c_left (x1).toNatClampNeg ((c_left (x1).toNatClampNeg) - (1 : Int32))) x2).bind (fun r23 =>
    gd (vin x1 6) (
    gd (vin x1 6) (
    some (r23.1, (upd r23.2 (x1).toNatClampNeg ((r23.2 (x1).toNatClampNeg) + (1 : Int32))))))))))
def F_X6_havingBelow_J90 (k29 : (Nat → Int32) → (Nat → Int32) → Int32 → Int32 → Option (Int32 × (Nat → Int32) × (Nat → Int32))) (k43 : (Nat → Int32) → (Nat → Int32) → Int32 → Int32 → Int32 → Option (Int32 × (Nat → Int32) × (Nat → Int32))) (c_z : Nat → Int32) (x1 : Int32) (x2 : Int32) (x3 : Int32) (c_left : Nat → Int32) (c_other : Nat → Int32) (x4 : Int32) (x5 : Int32) (x6 : Int32) (v0 : Int32) : Option (Int32 × (Nat → Int32) × (Nat → Int32)) :=
  if x2 ≤ x5 then
    if v0 = 0 then
      k43 c_left c_other (x4 + (0 : Int32)) x5 (x6 + 1)
    else
      (F_X6_rowsWith c_left x6).bind (fun r118 =>
      k43 r118.2 c_other (x4 + r118.1) x5 (x6 + 1))
  else
    (F_X6_rowsWithBoth c_left x6 x3).bind (fun r104 =>
    k43 r104.2 c_other (x4 + r104.1) x5 (x6 + 1))
def F_X6_havingBelow_L43 (k29 : (Nat → Int32) → (Nat → Int32) → Int32 → Int32 → Option (Int32 × (Nat → Int32) × (Nat → Int32))) (c_z : Nat → Int32) (x1 : Int32) (x2 : Int32) (x3 : Int32) : Nat → (Nat → Int32) → (Nat → Int32) → Int32 → Int32 → Int32 → Option (Int32 × (Nat → Int32) × (Nat → Int32))
  | 0, _, _, _, _, _ => none
  | n + 1, c_left, c_other, x4, x5, x6 =>
    gd (vin x5 11) (
    if (c_other (x5).toNatClampNeg) ≤ x6 then
      gd (vin x5 11) (
      gd (vin (c_other (x5).toNatClampNeg) 6) (
      gd (vin (c_other (x5).toNatClampNeg) 6) (
      k29 (upd c_left (c_other (x5).toNatClampNeg).toNatClampNeg ((c_left (c_other (x5).toNatClampNeg).toNatClampNeg) - (1 : Int32))) c_other x4 (x5 + 1))))
    else
      if x5 = x2 then
        F_X6_havingBelow_J90 k29 (F_X6_havingBelow_L43 k29 c_z x1 x2 x3 n) c_z x1 x2 x3 c_left c_other x4 x5 x6 (if x6 = x3 then (1 : Int32) else (0 : Int32))
      else
        gd (vin x2 11) (
        F_X6_havingBelow_J90 k29 (F_X6_havingBelow_L43 k29 c_z x1 x2 x3 n) c_z x1 x2 x3 c_left c_other x4 x5 x6 (if (c_other (x2).toNatClampNeg) = x3 then (1 : Int32) else (0 : Int32))))
def F_X6_havingBelow_L29 (c_z : Nat → Int32) (x1 : Int32) (x2 : Int32) (x3 : Int32) : Nat → (Nat → Int32) → (Nat → Int32) → Int32 → Int32 → Option (Int32 × (Nat → Int32) × (Nat → Int32))
  | 0, _, _, _, _ => none
  | n + 1, c_left, c_other, x4, x5 =>
    gd (vin (0 : Int32) 13) (
    if (c_z ((0 : Int32)).toNatClampNeg) ≤ x5 then
      some (x4, c_left, c_other)
    else
      F_X6_havingBelow_L43 (F_X6_havingBelow_L29 c_z x1 x2 x3 n) c_z x1 x2 x3 FU c_left c_other x4 x5 (0 : Int32))
def F_X6_havingBelow (c_left : Nat → Int32) (c_other : Nat → Int32) (c_z : Nat → Int32) (x1 : Int32) (x2 : Int32) (x3 : Int32) : Option (Int32 × (Nat → Int32) × (Nat → Int32)) :=
  (F_X6_allRows c_left c_z).bind (fun r2 =>
  if x1 = r2.1 then
    (F_X6_rowsWith r2.2 x3).bind (fun r10 =>
    some (r10.1, r10.2, c_other))
  else
    (F_X6_layRank r2.2 c_other c_z x1).bind (fun r16 =>
    (F_X6_countAll r16.1 c_z).bind (fun r20 =>
    F_X6_havingBelow_L29 c_z x1 x2 x3 FU r20 r16.2 (0 : Int32) (0 : Int32))))
def F_X6_havingIn (c_left : Nat → Int32) (c_other : Nat → Int32) (c_z : Nat → Int32) (x1 : Int32) (x2 : Int32) (x3 : Int32) (x4 : Int32) : Option (Int32 × (Nat → Int32) × (Nat → Int32)) :=
  (F_X6_havingBelow c_left c_other c_z x2 x3 x4).bind (fun r5 =>
  (F_X6_havingBelow r5.2.1 r5.2.2 c_z x1 x3 x4).bind (fun r17 =>
  some (r5.1 - r17.1, r17.2.1, r17.2.2)))
def F_X6_having_J59 (c_z : Nat → Int32) (x1 : Int32) (x2 : Int32) (x3 : Int32) (x4 : Int32) (c_thrown : Int32) (c_left : Nat → Int32) (c_other : Nat → Int32) (v1 : Int32) : Option (Int32 × Int32 × (Nat → Int32) × (Nat → Int32)) :=
  if v1 ≤ 0 then
    (F_X6_havingIn c_left c_other c_z x1 x2 x3 x4).bind (fun r79 =>
    some (r79.1, v1, r79.2.1, r79.2.2))
  else
    some ((0 : Int32), v1, c_left, c_other)
def F_X6_having_J26 (c_z : Nat → Int32) (x1 : Int32) (x2 : Int32) (x3 : Int32) (x4 : Int32) (c_thrown : Int32) (c_left : Nat → Int32) (c_other : Nat → Int32) (v0 : Int32) : Option (Int32 × Int32 × (Nat → Int32) × (Nat → Int32)) :=
  (F_X6_isPlace c_z x3).bind (fun r31 =>
  if r31 = 0 then
    F_X6_having_J59 c_z x1 x2 x3 x4 c_thrown c_left c_other (1 : Int32)
  else
    if v0 = 0 then
      F_X6_having_J59 c_z x1 x2 x3 x4 c_thrown c_left c_other (2 : Int32)
    else
      (F_X6_isSign x4).bind (fun r48 =>
      F_X6_having_J59 c_z x1 x2 x3 x4 c_thrown c_left c_other (if r48 = 0 then (2 : Int32) else (0 : Int32))))
def F_X6_having (c_thrown : Int32) (c_left : Nat → Int32) (c_other : Nat → Int32) (c_z : Nat → Int32) (x1 : Int32) (x2 : Int32) (x3 : Int32) (x4 : Int32) : Option (Int32 × Int32 × (Nat → Int32) × (Nat → Int32)) :=
  (F_X6_allRows c_left c_z).bind (fun r3 =>
  (F_X6_within x2 (0 : Int32) r3.1).bind (fun r6 =>
  if r6 = 0 then
    F_X6_having_J26 c_z x1 x2 x3 x4 c_thrown r3.2 c_other (0 : Int32)
  else
    (F_X6_within x1 (0 : Int32) x2).bind (fun r15 =>
    F_X6_having_J26 c_z x1 x2 x3 x4 c_thrown r3.2 c_other (if r15 = 0 then (0 : Int32) else (1 : Int32)))))
def F_X6_stepsNow_L87 (k41 : (Nat → Int32) → (Nat → Int32) → (Nat → Int32) → Int32 → Int32 → Option (Int32 × (Nat → Int32) × (Nat → Int32) × (Nat → Int32))) (c_z : Nat → Int32) (x1 : Int32) : Nat → (Nat → Int32) → (Nat → Int32) → (Nat → Int32) → Int32 → Int32 → Int32 → Option (Int32 × (Nat → Int32) × (Nat → Int32) × (Nat → Int32))
  | 0, _, _, _, _, _, _ => none
  | n + 1, c_left, c_other, c_worked, x2, x3, x5 =>
    if x5 ≤ x3 then
      k41 c_left c_other c_worked x2 (x3 + 1)
    else
      gd (vin (x5 - (1 : Int32)) 11) (
      gd (vin x5 11) (
      F_X6_stepsNow_L87 k41 c_z x1 n c_left c_other (upd c_worked (x5).toNatClampNeg (c_worked (x5 - (1 : Int32)).toNatClampNeg)) x2 x3 (x5 + (-1))))
def F_X6_stepsNow_L54 (k41 : (Nat → Int32) → (Nat → Int32) → (Nat → Int32) → Int32 → Int32 → Option (Int32 × (Nat → Int32) × (Nat → Int32) × (Nat → Int32))) (c_z : Nat → Int32) (x1 : Int32) : Nat → (Nat → Int32) → (Nat → Int32) → (Nat → Int32) → Int32 → Int32 → Int32 → Option (Int32 × (Nat → Int32) × (Nat → Int32) × (Nat → Int32))
  | 0, _, _, _, _, _, _ => none
  | n + 1, c_left, c_other, c_worked, x2, x3, x4 =>
    gd (vin x4 11) (
    gd (vin x3 11) (
    if (c_worked (x4).toNatClampNeg) = (c_other (x3).toNatClampNeg) then
      F_X6_stepsNow_L87 k41 c_z x1 FU c_left c_other c_worked (x2 + (x4 - x3)) x3 x4
    else
      F_X6_stepsNow_L54 k41 c_z x1 n c_left c_other c_worked x2 x3 (x4 + 1)))
def F_X6_stepsNow_L41 (c_z : Nat → Int32) (x1 : Int32) : Nat → (Nat → Int32) → (Nat → Int32) → (Nat → Int32) → Int32 → Int32 → Option (Int32 × (Nat → Int32) × (Nat → Int32) × (Nat → Int32))
  | 0, _, _, _, _, _ => none
  | n + 1, c_left, c_other, c_worked, x2, x3 =>
    gd (vin (0 : Int32) 13) (
    if (c_z ((0 : Int32)).toNatClampNeg) ≤ x3 then
      some (x2, c_left, c_other, c_worked)
    else
      F_X6_stepsNow_L54 (F_X6_stepsNow_L41 c_z x1 n) c_z x1 FU c_left c_other c_worked x2 x3 x3)
def F_X6_stepsNow_L7 (c_z : Nat → Int32) (x1 : Int32) : Nat → (Nat → Int32) → (Nat → Int32) → (Nat → Int32) → Int32 → Option (Int32 × (Nat → Int32) × (Nat → Int32) × (Nat → Int32))
  | 0, _, _, _, _ => none
  | n + 1, c_left, c_other, c_worked, x2 =>
    gd (vin (0 : Int32) 13) (
    if (c_z ((0 : Int32)).toNatClampNeg) ≤ x2 then
      F_X6_stepsNow_L41 c_z x1 FU c_left c_other c_worked (0 : Int32) (0 : Int32)
    else
      gd (vin ((2 : Int32) + x2) 13) (
      gd (vin x2 11) (
      F_X6_stepsNow_L7 c_z x1 n c_left c_other (upd c_worked (x2).toNatClampNeg (c_z ((2 : Int32) + x2).toNatClampNeg)) (x2 + 1))))
def F_X6_stepsNow (c_left : Nat → Int32) (c_other : Nat → Int32) (c_worked : Nat → Int32) (c_z : Nat → Int32) (x1 : Int32) : Option (Int32 × (Nat → Int32) × (Nat → Int32) × (Nat → Int32)) :=
  (F_X6_layRank c_left c_other c_z x1).bind (fun r2 =>
  F_X6_stepsNow_L7 c_z x1 FU r2.1 r2.2 c_worked (0 : Int32))
def F_X6_stepsTo_J14 (c_z : Nat → Int32) (x1 : Int32) (c_thrown : Int32) (c_left : Nat → Int32) (c_other : Nat → Int32) (c_worked : Nat → Int32) (v1 : Int32) : Option (Int32 × Int32 × (Nat → Int32) × (Nat → Int32) × (Nat → Int32)) :=
  if v1 ≤ 0 then
    (F_X6_stepsNow c_left c_other c_worked c_z x1).bind (fun r30 =>
    some (r30.1, v1, r30.2.1, r30.2.2.1, r30.2.2.2))
  else
    some ((0 : Int32), v1, c_left, c_other, c_worked)
def F_X6_stepsTo (c_thrown : Int32) (c_left : Nat → Int32) (c_other : Nat → Int32) (c_worked : Nat → Int32) (c_z : Nat → Int32) (x1 : Int32) : Option (Int32 × Int32 × (Nat → Int32) × (Nat → Int32) × (Nat → Int32)) :=
  (F_X6_isRank c_left c_z x1).bind (fun r3 =>
  F_X6_stepsTo_J14 c_z x1 c_thrown r3.2 c_other c_worked (if r3.1 = 0 then (1 : Int32) else (0 : Int32)))
def F_X6_bestNow_J84 (k10 : (Nat → Int32) → (Nat → Int32) → Int32 → Int32 → Int32 → Int32 → Option (Int32 × (Nat → Int32) × (Nat → Int32))) (k27 : (Nat → Int32) → (Nat → Int32) → Int32 → Int32 → Int32 → Int32 → Int32 → Option (Int32 × (Nat → Int32) × (Nat → Int32))) (c_z : Nat → Int32) (x1 : Int32) (c_left : Nat → Int32) (c_other : Nat → Int32) (x2 : Int32) (x4 : Int32) (x5 : Int32) (x6 : Int32) (x8 : Int32) (v0 : Int32) : Option (Int32 × (Nat → Int32) × (Nat → Int32)) :=
  k27 c_left c_other x2 v0 (if x8 = 0 then x4 else x6) x5 (x6 + 1)
def F_X6_bestNow_J72 (k10 : (Nat → Int32) → (Nat → Int32) → Int32 → Int32 → Int32 → Int32 → Option (Int32 × (Nat → Int32) × (Nat → Int32))) (k27 : (Nat → Int32) → (Nat → Int32) → Int32 → Int32 → Int32 → Int32 → Int32 → Option (Int32 × (Nat → Int32) × (Nat → Int32))) (c_z : Nat → Int32) (x1 : Int32) (c_left : Nat → Int32) (c_other : Nat → Int32) (x3 : Int32) (x4 : Int32) (x5 : Int32) (x6 : Int32) (x8 : Int32) (v0 : Int32) : Option (Int32 × (Nat → Int32) × (Nat → Int32)) :=
  F_X6_bestNow_J84 k10 k27 c_z x1 c_left c_other v0 x4 x5 x6 x8 (if x8 = 0 then x3 else x5)
def F_X6_bestNow_J59 (k10 : (Nat → Int32) → (Nat → Int32) → Int32 → Int32 → Int32 → Int32 → Option (Int32 × (Nat → Int32) × (Nat → Int32))) (k27 : (Nat → Int32) → (Nat → Int32) → Int32 → Int32 → Int32 → Int32 → Int32 → Option (Int32 × (Nat → Int32) × (Nat → Int32))) (c_z : Nat → Int32) (x1 : Int32) (c_left : Nat → Int32) (c_other : Nat → Int32) (x2 : Int32) (x3 : Int32) (x4 : Int32) (x5 : Int32) (x6 : Int32) (x7 : Int32) (v0 : Int32) : Option (Int32 × (Nat → Int32) × (Nat → Int32)) :=
  F_X6_bestNow_J72 k10 k27 c_z x1 c_left c_other x3 x4 x5 x6 v0 (if v0 = 0 then x2 else x7)
def F_X6_bestNow_L27 (k10 : (Nat → Int32) → (Nat → Int32) → Int32 → Int32 → Int32 → Int32 → Option (Int32 × (Nat → Int32) × (Nat → Int32))) (c_z : Nat → Int32) (x1 : Int32) : Nat → (Nat → Int32) → (Nat → Int32) → Int32 → Int32 → Int32 → Int32 → Int32 → Option (Int32 × (Nat → Int32) × (Nat → Int32))
  | 0, _, _, _, _, _, _, _ => none
  | n + 1, c_left, c_other, x2, x3, x4, x5, x6 =>
    gd (vin (0 : Int32) 13) (
    if (c_z ((0 : Int32)).toNatClampNeg) ≤ x6 then
      k10 c_left c_other x2 x3 x4 (x5 + 1)
    else
      (F_X6_swappedRank c_left c_other c_z x5 x6).bind (fun r43 =>
      F_X6_bestNow_J59 k10 (F_X6_bestNow_L27 k10 c_z x1 n) c_z x1 r43.2.1 r43.2.2 x2 x3 x4 x5 x6 r43.1 (if r43.1 ≤ x2 then (0 : Int32) else (1 : Int32))))
def F_X6_bestNow_L10 (c_z : Nat → Int32) (x1 : Int32) : Nat → (Nat → Int32) → (Nat → Int32) → Int32 → Int32 → Int32 → Int32 → Option (Int32 × (Nat → Int32) × (Nat → Int32))
  | 0, _, _, _, _, _, _ => none
  | n + 1, c_left, c_other, x2, x3, x4, x5 =>
    gd (vin (0 : Int32) 13) (
    if (c_z ((0 : Int32)).toNatClampNeg) ≤ x5 then
      some ((if x1 = 0 then x2 else (if x1 = (1 : Int32) then x3 else x4)), c_left, c_other)
    else
      F_X6_bestNow_L27 (F_X6_bestNow_L10 c_z x1 n) c_z x1 FU c_left c_other x2 x3 x4 x5 (x5 + (1 : Int32)))
def F_X6_bestNow (c_left : Nat → Int32) (c_other : Nat → Int32) (c_z : Nat → Int32) (x1 : Int32) : Option (Int32 × (Nat → Int32) × (Nat → Int32)) :=
  F_X6_bestNow_L10 c_z x1 FU c_left c_other ((-1) : Int32) ((-1) : Int32) ((-1) : Int32) (0 : Int32)
def F_X6_bestSwap_J15 (c_z : Nat → Int32) (x1 : Int32) (c_thrown : Int32) (c_left : Nat → Int32) (c_other : Nat → Int32) (v1 : Int32) : Option (Int32 × Int32 × (Nat → Int32) × (Nat → Int32)) :=
  if v1 ≤ 0 then
    (F_X6_bestNow c_left c_other c_z x1).bind (fun r31 =>
    some (r31.1, v1, r31.2.1, r31.2.2))
  else
    some ((0 : Int32), v1, c_left, c_other)
def F_X6_bestSwap (c_thrown : Int32) (c_left : Nat → Int32) (c_other : Nat → Int32) (c_z : Nat → Int32) (x1 : Int32) : Option (Int32 × Int32 × (Nat → Int32) × (Nat → Int32)) :=
  (F_X6_within x1 (0 : Int32) (2 : Int32)).bind (fun r4 =>
  F_X6_bestSwap_J15 c_z x1 c_thrown c_left c_other (if r4 = 0 then (1 : Int32) else (0 : Int32)))
def F_X6_shareNow (c_left : Nat → Int32) (c_other : Nat → Int32) (c_z : Nat → Int32) : Option (UInt64 × (Nat → Int32) × (Nat → Int32)) :=
  (F_X6_rankNow c_left c_other c_z).bind (fun r1 =>
  (F_X6_allRows r1.2.1 c_z).bind (fun r6 =>
  gd (nn (FP.ddiv (FP.i2d r1.1) (FP.i2d r6.1))) (
  some (FP.ddiv (FP.i2d r1.1) (FP.i2d r6.1), r6.2, r1.2.2))))
def F_X6_share (c_thrown : Int32) (c_left : Nat → Int32) (c_other : Nat → Int32) (c_z : Nat → Int32) : Option (UInt64 × Int32 × (Nat → Int32) × (Nat → Int32)) :=
  (F_X6_shareNow c_left c_other c_z).bind (fun r6 =>
  some (r6.1, (0 : Int32), r6.2.1, r6.2.2))
def F_X6_mix (c_hash : Int64) (x1 : Int64) : Option (Int64) :=
  some (((31 : Int64) * c_hash) + x1)
def F_X6_mixPlace_L25 (c_z : Nat → Int32) (x1 : Int32) : Nat → Int32 → Int64 → (Nat → Int32) → (Nat → Int32) → (Nat → Int32) → (Nat → Int32) → Int32 → Option (Int32 × Int64 × (Nat → Int32) × (Nat → Int32) × (Nat → Int32) × (Nat → Int32))
  | 0, _, _, _, _, _, _, _ => none
  | n + 1, c_codes, c_hash, c_left, c_other, c_smooth, c_weights, x2 =>
    if (3 : Int32) ≤ x2 then
      (F_X6_swappedRank c_left c_other c_z x1 (0 : Int32)).bind (fun r51 =>
      (F_X6_mix c_hash ((r51.1).toInt64)).bind (fun r55 =>
      (F_X6_rankNow r51.2.1 r51.2.2 c_z).bind (fun r62 =>
      (F_X6_havingIn r62.2.1 r62.2.2 c_z (0 : Int32) r62.1 x1 (0 : Int32)).bind (fun r67 =>
      (F_X6_mix r55 ((r67.1).toInt64)).bind (fun r71 =>
      some (c_codes, r71, r67.2.1, r67.2.2, c_smooth, c_weights))))))
    else
      (F_X6_blockNow c_codes c_left c_other c_smooth c_weights c_z x1 x2).bind (fun r34 =>
      (F_X6_mix c_hash ((r34.1).toInt64)).bind (fun r38 =>
      F_X6_mixPlace_L25 c_z x1 n r34.2.1 r38 r34.2.2.1 r34.2.2.2.1 r34.2.2.2.2.1 r34.2.2.2.2.2 (x2 + 1)))
def F_X6_mixPlace (c_codes : Int32) (c_hash : Int64) (c_left : Nat → Int32) (c_other : Nat → Int32) (c_smooth : Nat → Int32) (c_weights : Nat → Int32) (c_z : Nat → Int32) (x1 : Int32) : Option (Int32 × Int64 × (Nat → Int32) × (Nat → Int32) × (Nat → Int32) × (Nat → Int32)) :=
  gd (vin ((2 : Int32) + x1) 13) (
  (F_X6_mix c_hash ((c_z ((2 : Int32) + x1).toNatClampNeg).toInt64)).bind (fun r10 =>
  (F_X6_digitAt c_z x1).bind (fun r16 =>
  (F_X6_mix r10 ((r16).toInt64)).bind (fun r20 =>
  F_X6_mixPlace_L25 c_z x1 FU c_codes r20 c_left c_other c_smooth c_weights (0 : Int32)))))
def F_Jxe99ae_isNaN_b9ae7 (x0 : UInt64) : Option (Int32) :=
  some (if (Op.cmpValue (FP.dcmp x0 x0) .l) = 0 then (0 : Int32) else (1 : Int32))
def F_Jxe99ae_doubleToLongBits_ccdee (x0 : UInt64) : Option (Int64) :=
  (F_Jxe99ae_isNaN_b9ae7 x0).bind (fun r1 =>
  some (if r1 = 0 then (x0).toInt64 else (9221120237041090560 : Int64)))
def F_X6_digest_L177 (c_states : Int32) (c_length : Int32) (c_text : Nat → Int32) (c_z : Nat → Int32) : Nat → Int32 → Int32 → Int64 → (Nat → Int32) → (Nat → Int32) → (Nat → Int32) → (Nat → Int32) → (Nat → Int32) → Int32 → Option (Int64 × Int32 × Int32 × Int64 × (Nat → Int32) × (Nat → Int32) × (Nat → Int32) × (Nat → Int32) × (Nat → Int32))
  | 0, _, _, _, _, _, _, _, _, _ => none
  | n + 1, c_thrown, c_codes, c_hash, c_left, c_other, c_smooth, c_weights, c_worked, x1 =>
    if c_length ≤ x1 then
      some (c_hash, c_thrown, c_codes, c_hash, c_left, c_other, c_smooth, c_weights, c_worked)
    else
      gd (vin x1 60) (
      (F_X6_mix c_hash ((c_text (x1).toNatClampNeg).toInt64)).bind (fun r193 =>
      F_X6_digest_L177 c_states c_length c_text c_z n c_thrown c_codes r193 c_left c_other c_smooth c_weights c_worked (x1 + 1)))
def F_X6_digest_L134 (c_states : Int32) (c_length : Int32) (c_text : Nat → Int32) (c_z : Nat → Int32) : Nat → Int32 → Int32 → Int64 → (Nat → Int32) → (Nat → Int32) → (Nat → Int32) → (Nat → Int32) → (Nat → Int32) → Int32 → Option (Int64 × Int32 × Int32 × Int64 × (Nat → Int32) × (Nat → Int32) × (Nat → Int32) × (Nat → Int32) × (Nat → Int32))
  | 0, _, _, _, _, _, _, _, _, _ => none
  | n + 1, c_thrown, c_codes, c_hash, c_left, c_other, c_smooth, c_weights, c_worked, x1 =>
    if (3 : Int32) ≤ x1 then
      (F_X6_shareNow c_left c_other c_z).bind (fun r157 =>
      (F_Jxe99ae_doubleToLongBits_ccdee r157.1).bind (fun r160 =>
      (F_X6_mix c_hash r160).bind (fun r163 =>
      (F_X6_mix r163 ((c_length).toInt64)).bind (fun r172 =>
      F_X6_digest_L177 c_states c_length c_text c_z FU c_thrown c_codes r172 r157.2.1 r157.2.2 c_smooth c_weights c_worked (0 : Int32)))))
    else
      (F_X6_bestNow c_left c_other c_z x1).bind (fun r142 =>
      (F_X6_mix c_hash ((r142.1).toInt64)).bind (fun r146 =>
      F_X6_digest_L134 c_states c_length c_text c_z n c_thrown c_codes r146 r142.2.1 r142.2.2 c_smooth c_weights c_worked (x1 + 1)))
def F_X6_digest_L85 (c_states : Int32) (c_length : Int32) (c_text : Nat → Int32) (c_z : Nat → Int32) : Nat → Int32 → Int32 → Int64 → (Nat → Int32) → (Nat → Int32) → (Nat → Int32) → (Nat → Int32) → (Nat → Int32) → Int32 → Option (Int64 × Int32 × Int32 × Int64 × (Nat → Int32) × (Nat → Int32) × (Nat → Int32) × (Nat → Int32) × (Nat → Int32))
  | 0, _, _, _, _, _, _, _, _, _ => none
  | n + 1, c_thrown, c_codes, c_hash, c_left, c_other, c_smooth, c_weights, c_worked, x1 =>
    gd (vin (0 : Int32) 13) (
    if (c_z ((0 : Int32)).toNatClampNeg) ≤ x1 then
      (F_X6_allRows c_left c_z).bind (fun r120 =>
      gd (nz (2 : Int32)) (
      (F_X6_stepsNow r120.2 c_other c_worked c_z (r120.1 / (2 : Int32))).bind (fun r125 =>
      (F_X6_mix c_hash ((r125.1).toInt64)).bind (fun r129 =>
      F_X6_digest_L134 c_states c_length c_text c_z FU c_thrown c_codes r129 r125.2.1 r125.2.2.1 c_smooth c_weights r125.2.2.2 (0 : Int32)))))
    else
      (F_X6_allRows c_left c_z).bind (fun r98 =>
      gd (nz (2 : Int32)) (
      (F_X6_signAt r98.2 c_other c_z (r98.1 / (2 : Int32)) x1).bind (fun r104 =>
      (F_X6_mix c_hash ((r104.1).toInt64)).bind (fun r108 =>
      F_X6_digest_L85 c_states c_length c_text c_z n c_thrown c_codes r108 r104.2.1 r104.2.2 c_smooth c_weights c_worked (x1 + 1))))))
def F_X6_digest_L61 (c_states : Int32) (c_length : Int32) (c_text : Nat → Int32) (c_z : Nat → Int32) : Nat → Int32 → Int32 → Int64 → (Nat → Int32) → (Nat → Int32) → (Nat → Int32) → (Nat → Int32) → (Nat → Int32) → Int32 → Option (Int64 × Int32 × Int32 × Int64 × (Nat → Int32) × (Nat → Int32) × (Nat → Int32) × (Nat → Int32) × (Nat → Int32))
  | 0, _, _, _, _, _, _, _, _, _ => none
  | n + 1, c_thrown, c_codes, c_hash, c_left, c_other, c_smooth, c_weights, c_worked, x1 =>
    if (6 : Int32) ≤ x1 then
      F_X6_digest_L85 c_states c_length c_text c_z FU c_thrown c_codes c_hash c_left c_other c_smooth c_weights c_worked (0 : Int32)
    else
      (F_X6_manyOf c_left c_z x1).bind (fun r70 =>
      (F_X6_mix c_hash ((r70.1).toInt64)).bind (fun r74 =>
      F_X6_digest_L61 c_states c_length c_text c_z n c_thrown c_codes r74 r70.2 c_other c_smooth c_weights c_worked (x1 + 1)))
def F_X6_digest_L38 (c_states : Int32) (c_length : Int32) (c_text : Nat → Int32) (c_z : Nat → Int32) : Nat → Int32 → Int32 → Int64 → (Nat → Int32) → (Nat → Int32) → (Nat → Int32) → (Nat → Int32) → (Nat → Int32) → Int32 → Option (Int64 × Int32 × Int32 × Int64 × (Nat → Int32) × (Nat → Int32) × (Nat → Int32) × (Nat → Int32) × (Nat → Int32))
  | 0, _, _, _, _, _, _, _, _, _ => none
  | n + 1, c_thrown, c_codes, c_hash, c_left, c_other, c_smooth, c_weights, c_worked, x1 =>
    gd (vin (0 : Int32) 13) (
    if (c_z ((0 : Int32)).toNatClampNeg) ≤ x1 then
      F_X6_digest_L61 c_states c_length c_text c_z FU c_thrown c_codes c_hash c_left c_other c_smooth c_weights c_worked (0 : Int32)
    else
      (F_X6_mixPlace c_codes c_hash c_left c_other c_smooth c_weights c_z x1).bind (fun r50 =>
      F_X6_digest_L38 c_states c_length c_text c_z n c_thrown r50.1 r50.2.1 r50.2.2.1 r50.2.2.2.1 r50.2.2.2.2.1 r50.2.2.2.2.2 c_worked (x1 + 1)))
def F_X6_digest_L14 (c_states : Int32) (c_length : Int32) (c_text : Nat → Int32) (c_z : Nat → Int32) : Nat → Int32 → Int32 → Int64 → (Nat → Int32) → (Nat → Int32) → (Nat → Int32) → (Nat → Int32) → (Nat → Int32) → Int32 → Option (Int64 × Int32 × Int32 × Int64 × (Nat → Int32) × (Nat → Int32) × (Nat → Int32) × (Nat → Int32) × (Nat → Int32))
  | 0, _, _, _, _, _, _, _, _, _ => none
  | n + 1, c_thrown, c_codes, c_hash, c_left, c_other, c_smooth, c_weights, c_worked, x1 =>
    if (14 : Int32) ≤ x1 then
      F_X6_digest_L38 c_states c_length c_text c_z FU c_thrown c_codes c_hash c_left c_other c_smooth c_weights c_worked (0 : Int32)
    else
      (F_X6_counted c_states c_codes c_left c_other c_smooth c_weights c_z x1).bind (fun r23 =>
      (F_X6_mix c_hash ((r23.1).toInt64)).bind (fun r27 =>
      F_X6_digest_L14 c_states c_length c_text c_z n c_thrown r23.2.1 r27 r23.2.2.1 r23.2.2.2.1 r23.2.2.2.2.1 r23.2.2.2.2.2 c_worked (x1 + 1)))
def F_X6_digest (c_states : Int32) (c_length : Int32) (c_thrown : Int32) (c_codes : Int32) (c_hash : Int64) (c_left : Nat → Int32) (c_other : Nat → Int32) (c_smooth : Nat → Int32) (c_text : Nat → Int32) (c_weights : Nat → Int32) (c_worked : Nat → Int32) (c_z : Nat → Int32) : Option (Int64 × Int32 × Int32 × Int64 × (Nat → Int32) × (Nat → Int32) × (Nat → Int32) × (Nat → Int32) × (Nat → Int32)) :=
  F_X6_digest_L14 c_states c_length c_text c_z FU (0 : Int32) c_codes (2579 : Int64) c_left c_other c_smooth c_weights c_worked (0 : Int32)
