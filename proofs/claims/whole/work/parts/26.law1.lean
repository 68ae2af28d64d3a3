/-! THE CLAIM OUT OF ONE WALK OF THE LAW'S BODY. Your part is whole_start (and what it stands on); all else here is the same for every law, but numbers. -/
def R_law : String := "SignRanksLaw"
def lw_P (b : Addr) (xs : List Int32) (args : Array Value) (s : State) : Prop := args = #[.ref b] ∧ s.IntsAt b xs ∧ xs.length ≤ 2560 ∧ (Jvm.Cond.and given_1 narrow_1).before args s = true
/-- what a walk over the start with the record d0 says of its end, said of the start itself -/
theorem lw_closed {s t : State} {o : Outcome} {d0 : Drawn} {L : List Loc} {k n : Nat} (hd0 : s.drawn.sameBut d0 lw_cs) (hv : ∃ v, o = .returned v) (hW : (s.setDrawn d0).WarmedH t.vm) (hs : (s.setDrawn d0).sameButNew ({ t with vm := s.vm } : State) L k n) : State.butDraws s t lw_cs (fun t1 => Framed s o t1 L k n) := by
  have h2 : t.drawn = d0 := congrArg State.drawn hs.1
  refine ⟨⟨hv, hW, State.sameButNew.setDrawn hs s.drawn⟩, ?_, by decide⟩
  rw [h2]
  exact hd0
def lw_Q (_ : Array Value) (s : State) (o : Outcome) (t : State) : Prop := o = .returned (some (.int 1)) ∧ State.butDraws s t lw_cs (fun t1 => Framed s o t1 [] 1065 16293)
def lw_Z (below : List Frame) (a : Array Value) (s : State) : State → Prop := fun t => ∃ o, t.status = .running ∧ Ended t below o ∧ lw_Q a s o t
/-- the law's own end, with 1 on the stack, nothing written that was there before, its room as the claim has it; d0: the record of draws at this point (at the entry s.drawn: begin with 'refine W.base ?_' and 'have hd0 := Drawn.sameBut.refl s.drawn lw_cs') -/
theorem lw_ret {p : Program} {l : Launch} {e : Env} {s : State} {m : MethodId} {below : List Frame} {meth : Method} {c : Code} {b : Nat} {d0 : Drawn} (hd0 : s.drawn.sameBut d0 lw_cs) (hx : p.tables.exec = Jvm.exec) (hb : c.code = code) (hr : meth.sig.returnType = ret) (hlocks : meth.locks = false) {pc : Nat} {H : Heap} {ls : Array Slot} (hdg : decode code pc = .ok (.ireturn, 1)) : W p l e room_1 (s.setDrawn d0) m #[Value.ref b] below meth c H [] 1065 16293 (lw_Z below #[Value.ref b] s) (F0 m pc ls [.int 1]) := by
  intro T hT X
  obtain ⟨fs, hret, hrun, hended, hW, hframe⟩ := X.leave (v := some (.int 1)) (hlocks := hlocks) (fun h => by rw [hr] at h; cases h)
  have hmeth' : T.vm.method? m = some meth := X.method'
  refine ⟨T.setFrames fs, ?_, .returned (some (.int 1)), hrun, hended, rfl, lw_closed hd0 ⟨_, rfl⟩ hW hframe⟩
  jvm_step X.here [X.here.top, hx, hb, hdg, hmeth', hr, ret, narrow_b1]
  (try refine ⟨rfl, ?_⟩); (try refine ⟨rfl, ?_⟩)
  first | (intro acts; rw [hret _ acts rfl rfl rfl]) | rw [hret _ _ rfl rfl rfl]
  exact Steps.refl _
/-- what holds at the law's entry: the machine, the code, the tables' words (any of lw_tbl by 'hts w (by decide +kernel)'), the script of L ints xs at the cell b, what the Statement gives of the start (any of its parts by flat_of_before) -/
def lw_At (p : Program) (s : State) (m : MethodId) (meth : Method) (c : Code) (b L : Nat) (xs : Nat → Int32) : Prop :=
  p.tables.exec = Jvm.exec ∧ c.code = code ∧ meth.sig.returnType = ret ∧ c.maxLocals = 9 ∧ s.vm.findClass R_law = some m.cls ∧ (∀ w ∈ lw_tbl, w.before #[Value.ref b] s = true) ∧ va_X b L xs s s.heap ∧ b < s.heap.size ∧ meth.locks = false ∧ (Jvm.Cond.and given_1 narrow_1).before #[Value.ref b] s = true
set_option maxHeartbeats 4000000 in
set_option maxRecDepth 100000 in
theorem GI_start {s : State} {b : Nat} (hts : ∀ w ∈ lw_tbl, w.before #[Value.ref b] s = true) (hgv : (Jvm.Cond.and given_1 narrow_1).before #[Value.ref b] s = true) : GI (fun q : Nat => s.heap.size ≤ q) s s.heap := by
  have hs := flat_of_before _ hgv
  have hA : ∀ a : Nat, a < s.heap.size → ¬ (fun q : Nat => s.heap.size ≤ q) a := fun a h => Nat.not_le.mpr h
  have hel : ∀ j : Nat, j < 12 → (Cond.eq (.elem (.static "SignRanks$Bag" "FACTORIALS" "[I") (.int (Int32.ofNat j))) (.int (kF j))).before #[Value.ref b] s = true := by
    intro j hj
    rcases (show j = 0 ∨ j = 1 ∨ j = 2 ∨ j = 3 ∨ j = 4 ∨ j = 5 ∨ j = 6 ∨ j = 7 ∨ j = 8 ∨ j = 9 ∨ j = 10 ∨ j = 11 by omega) with rfl | rfl | rfl | rfl | rfl | rfl | rfl | rfl | rfl | rfl | rfl | rfl
    · exact hs _ (by decide +kernel)
    · exact hs _ (by decide +kernel)
    · exact hs _ (by decide +kernel)
    · exact hs _ (by decide +kernel)
    · exact hs _ (by decide +kernel)
    · exact hs _ (by decide +kernel)
    · exact hs _ (by decide +kernel)
    · exact hs _ (by decide +kernel)
    · exact hs _ (by decide +kernel)
    · exact hs _ (by decide +kernel)
    · exact hs _ (by decide +kernel)
    · exact hs _ (by decide +kernel)
  obtain ⟨ft, ht, hT⟩ := va_Tof (tm := .static "SignRanks$Bag" "FACTORIALS" "[I") (ty := .int) (N := 12) (f := fun j => .int (kF j)) (A := fun q : Nat => s.heap.size ≤ q) (by decide) (hs _ (by decide +kernel)) (va_eqt (hs (Cond.eq (.length (.static "SignRanks$Bag" "FACTORIALS" "[I")) (.int 12)) (by decide +kernel))) (fun j hj => va_eqt (hel j hj)) hA
  refine ⟨⟨ft, va_Zref (hts _ (List.mem_append_right _ (List.mem_append_left _ (List.mem_of_getElem? (i := 168) rfl)))) (hts _ (List.mem_append_right _ (List.mem_append_left _ (List.mem_of_getElem? (i := 3) rfl)))) ht hA, hT⟩, vx_Zqof (hts _ (List.mem_append_right _ (List.mem_append_right _ (List.mem_append_left _ (List.mem_of_getElem? (i := 85) rfl))))) (hts _ (List.mem_append_right _ (List.mem_append_left _ (List.mem_of_getElem? (i := 8) rfl)))) (hs _ (by decide +kernel)) hA, vx_Zqof (hts _ (List.mem_append_right _ (List.mem_append_right _ (List.mem_append_left _ (List.mem_of_getElem? (i := 87) rfl))))) (hts _ (List.mem_append_right _ (List.mem_append_left _ (List.mem_of_getElem? (i := 8) rfl)))) (hs _ (by decide +kernel)) hA, ?_, ?_, ?_, ?_, ?_⟩
  · intro q hq
    have hex : ∀ k : Nat, (Cond.exactly (.string "SignRanks" k) "java/lang/String").before #[Value.ref b] s = true → ∃ a, (Term.string "SignRanks" k).eval #[Value.ref b] s none [] s = some (.ref a) := fun k h => by
      obtain ⟨a, c, cA, kA, q1, -⟩ := Cond.exactly_spec (args := #[Value.ref b]) (first := s) (o := none) (s := s) (idx := []) (t := .string "SignRanks" k) (cls := "java/lang/String") h
      exact ⟨a, q1⟩
    simp only [kS_strs, List.mem_cons, List.not_mem_nil, or_false] at hq
    rcases hq with rfl | rfl | rfl | rfl | rfl | rfl | rfl | rfl | rfl | rfl
    · obtain ⟨a, ha⟩ := hex 275 (hs _ (by decide +kernel)); exact ⟨a, vk_R.of (hts _ (List.mem_append_right _ (List.mem_append_right _ (List.mem_append_left _ (List.mem_of_getElem? (i := 99) rfl))))) ha⟩
    · obtain ⟨a, ha⟩ := hex 124 (hs _ (by decide +kernel)); exact ⟨a, vk_R.of (hts _ (List.mem_append_right _ (List.mem_append_right _ (List.mem_append_right _ (List.mem_append_left _ (List.mem_of_getElem? (i := 18) rfl)))))) ha⟩
    · obtain ⟨a, ha⟩ := hex 71 (hs _ (by decide +kernel)); exact ⟨a, vk_R.of (hts _ (List.mem_append_right _ (List.mem_append_right _ (List.mem_append_right _ (List.mem_append_left _ (List.mem_of_getElem? (i := 117) rfl)))))) ha⟩
    · obtain ⟨a, ha⟩ := hex 89 (hs _ (by decide +kernel)); exact ⟨a, vk_R.of (hts _ (List.mem_append_right _ (List.mem_append_right _ (List.mem_append_right _ (List.mem_append_left _ (List.mem_of_getElem? (i := 131) rfl)))))) ha⟩
    · obtain ⟨a, ha⟩ := hex 99 (hs _ (by decide +kernel)); exact ⟨a, vk_R.of (hts _ (List.mem_append_right _ (List.mem_append_right _ (List.mem_append_right _ (List.mem_append_left _ (List.mem_of_getElem? (i := 143) rfl)))))) ha⟩
    · obtain ⟨a, ha⟩ := hex 130 (hs _ (by decide +kernel)); exact ⟨a, vk_R.of (hts _ (List.mem_append_right _ (List.mem_append_right _ (List.mem_append_right _ (List.mem_append_left _ (List.mem_of_getElem? (i := 182) rfl)))))) ha⟩
    · obtain ⟨a, ha⟩ := hex 135 (hs _ (by decide +kernel)); exact ⟨a, vk_R.of (hts _ (List.mem_append_right _ (List.mem_append_right _ (List.mem_append_right _ (List.mem_append_left _ (List.mem_of_getElem? (i := 194) rfl)))))) ha⟩
    · obtain ⟨a, ha⟩ := hex 144 (hs _ (by decide +kernel)); exact ⟨a, vk_R.of (hts _ (List.mem_append_right _ (List.mem_append_right _ (List.mem_append_right _ (List.mem_append_left _ (List.mem_of_getElem? (i := 207) rfl)))))) ha⟩
    · obtain ⟨a, ha⟩ := hex 153 (hs _ (by decide +kernel)); exact ⟨a, vk_R.of (hts _ (List.mem_append_right _ (List.mem_append_right _ (List.mem_append_right _ (List.mem_append_left _ (List.mem_of_getElem? (i := 219) rfl)))))) ha⟩
    · obtain ⟨a, ha⟩ := hex 162 (hs _ (by decide +kernel)); exact ⟨a, vk_R.of (hts _ (List.mem_append_right _ (List.mem_append_right _ (List.mem_append_right _ (List.mem_append_left _ (List.mem_of_getElem? (i := 233) rfl)))))) ha⟩
  · intro X hX
    simp only [kS_exs, List.mem_cons, List.not_mem_nil, or_false] at hX
    rcases hX with rfl | rfl | rfl
    · exact va_Nw.of rfl (hts _ (List.mem_append_right _ (List.mem_append_right _ (List.mem_append_left _ (List.mem_of_getElem? (i := 60) rfl)))))
    · exact va_Nw.of rfl (hts _ (List.mem_append_right _ (List.mem_append_right _ (List.mem_append_right _ (List.mem_append_left _ (List.mem_of_getElem? (i := 110) rfl))))))
    · exact va_Nw.of rfl (hts _ (List.mem_append_right _ (List.mem_append_right _ (List.mem_append_right _ (List.mem_append_left _ (List.mem_of_getElem? (i := 11) rfl))))))
  · intro q hq
    simp only [kS_nc, List.mem_cons, List.not_mem_nil, or_false] at hq
    rcases hq with rfl | rfl | rfl
    · exact va_Nc.of (hs _ (by decide +kernel))
    · exact va_Nc.of (hs _ (by decide +kernel))
    · exact va_Nc.of (hs _ (by decide +kernel))
  · intro x hx
    simp only [kS_decl, List.mem_cons, List.not_mem_nil, or_false] at hx
    rcases hx with rfl | rfl | rfl
    · exact va_Nw.of rfl (hts _ (List.mem_append_right _ (List.mem_append_right _ (List.mem_append_left _ (List.mem_of_getElem? (i := 62) rfl)))))
    · exact va_Nw.of rfl (hts _ (List.mem_append_right _ (List.mem_append_right _ (List.mem_append_left _ (List.mem_of_getElem? (i := 64) rfl)))))
    · exact va_Nw.of rfl (hts _ (List.mem_append_right _ (List.mem_append_right _ (List.mem_append_left _ (List.mem_of_getElem? (i := 66) rfl)))))
  · intro q hq
    simp only [kS_nest, List.mem_cons, List.not_mem_nil, or_false] at hq
    rcases hq with rfl | rfl | rfl | rfl | rfl
    · exact va_Nw.of rfl (hts _ (List.mem_append_right _ (List.mem_append_left _ (List.mem_of_getElem? (i := 25) rfl))))
    · exact va_Nw.of rfl (hts _ (List.mem_append_right _ (List.mem_append_left _ (List.mem_of_getElem? (i := 39) rfl))))
    · exact va_Nw.of rfl (hts _ (List.mem_append_right _ (List.mem_append_left _ (List.mem_of_getElem? (i := 52) rfl))))
    · exact va_Nw.of rfl (hts _ (List.mem_append_right _ (List.mem_append_left _ (List.mem_of_getElem? (i := 74) rfl))))
    · exact va_Nw.of rfl (hts _ (List.mem_append_right _ (List.mem_append_left _ (List.mem_of_getElem? (i := 87) rfl))))
theorem K_arr {s : State} {args : Array Value} {ty : FieldType} (h : (Cond.arrayClass ty).before args s = true) (hty : ∀ C, ty ≠ .object C) : ∃ cA : ClassId, ArrOfT s cA ty ∧ va_RA s cA ty := by
  obtain ⟨cA, kA, comp, h1, h2, h3⟩ := Cond.arrayClass_spec h
  refine ⟨cA, fun n z => ⟨fun k h => (by cases h), kA, h2, comp, h3⟩, ?_⟩
  cases ty <;> first | exact h1 | exact absurd rfl (hty _)
def OkAll (Rel : XS → MS → Prop) : Prop := (∀ (X : XS) (M : MS) (x1 : Int32), Rel X M → Ok_goTo Rel X M x1) ∧ (∀ (X : XS) (M : MS) (x1 : Int32), Rel X M → Ok_jump Rel X M x1) ∧ (∀ (X : XS) (M : MS), Rel X M → Ok_next Rel X M) ∧ (∀ (X : XS) (M : MS), Rel X M → Ok_previous Rel X M) ∧ (∀ (X : XS) (M : MS), Rel X M → Ok_nextSmooth Rel X M) ∧ (∀ (X : XS) (M : MS) (x1 : Int32), Rel X M → Ok_goToSmooth Rel X M x1) ∧ (∀ (X : XS) (M : MS) (x1 : Int32) (x2 : Int32), Rel X M → Ok_swap Rel X M x1 x2) ∧ (∀ (X : XS) (M : MS) (x1 : Int32) (x2 : Int32), Rel X M → Ok_turn Rel X M x1 x2) ∧ (∀ (X : XS) (M : MS) (x1 : Int32) (x2 : Int32), Rel X M → Ok_carry Rel X M x1 x2) ∧ (∀ (X : XS) (M : MS) (x1 : Int32) (x2 : Int32), Rel X M → Ok_put Rel X M x1 x2) ∧ (∀ (X : XS) (M : MS) (x1 : Int32), Rel X M → Ok_take Rel X M x1) ∧ (∀ (X : XS) (M : MS) (x1 : Int32), Rel X M → Ok_append Rel X M x1) ∧ (∀ (X : XS) (M : MS), Rel X M → Ok_clearBuffer Rel X M) ∧ (∀ (X : XS) (M : MS), Rel X M → Ok_firstError Rel X M) ∧ (∀ (X : XS) (M : MS), Rel X M → Ok_read Rel X M) ∧ (∀ (X : XS) (M : MS), Rel X M → Ok_undo Rel X M) ∧ (∀ (X : XS) (M : MS) (x1 : Int32), Rel X M → Ok_sign Rel X M x1) ∧ (∀ (X : XS) (M : MS) (x1 : Int32), Rel X M → Ok_digit Rel X M x1) ∧ (∀ (X : XS) (M : MS) (x1 : Int32), Rel X M → Ok_many Rel X M x1) ∧ (∀ (X : XS) (M : MS) (x1 : Int32) (x2 : Int32), Rel X M → Ok_block Rel X M x1 x2) ∧ (∀ (X : XS) (M : MS) (x1 : Int32), Rel X M → Ok_count Rel X M x1) ∧ (∀ (X : XS) (M : MS) (x1 : Int32) (x2 : Int32), Rel X M → Ok_ifSwapped Rel X M x1 x2) ∧ (∀ (X : XS) (M : MS) (x1 : Int32) (x2 : Int32), Rel X M → Ok_signOf Rel X M x1 x2) ∧ (∀ (X : XS) (M : MS) (x1 : Int32) (x2 : Int32) (x3 : Int32) (x4 : Int32), Rel X M → Ok_having Rel X M x1 x2 x3 x4) ∧ (∀ (X : XS) (M : MS) (x1 : Int32), Rel X M → Ok_stepsTo Rel X M x1) ∧ (∀ (X : XS) (M : MS) (x1 : Int32), Rel X M → Ok_bestSwap Rel X M x1) ∧ (∀ (X : XS) (M : MS), Rel X M → Ok_share Rel X M) ∧ (∀ (X : XS) (M : MS), Rel X M → Ok_digest Rel X M)
set_option maxHeartbeats 4000000 in
set_option maxRecDepth 100000 in
theorem law_loop {p : Program} {l : Launch} {e : Env} {s : State} {m : MethodId} {below : List Frame} {meth : Method} {c : Code} {D : va_G} {cI cJ : ClassId} {b L : Nat} {xs : Nat → Int32} (hl0 : l.stackTraces = false) (hL : L ≤ 2560) (C : LC p s m c b L xs D cI cJ) (hr : meth.sig.returnType = ret) (hlocks : meth.locks = false) (Rel : XS → MS → Prop) (hst : OkAll Rel) (a_t a_row a_row_signs a_work a_work_signs a_rest a_rest_signs a_bag a_bag_often a_smooth a_smooth_madeFor a_smooth_weight a_smooth_inCell a_smooth_all a_smooth_starting a_text a_text_codes a_saves a_saves_slots a_out b_t b_z b_history b_text b_left b_other b_smooth b_weights b_signs b_worked : Nat) :
    ∀ (n k k0 n0 : Nat) (X : XS) (M : MS) (O : Nat → Int64) (H : Heap) (locs : List Loc) (ls : Array Slot), 5 * k ≤ L → L < 5 * k + 5 * n → k0 = 30 + k → n0 = 8035 + 6 * k → Rel X M → va_P D vwCl (wdL cI cJ a_t a_row a_row_signs a_work a_work_signs a_rest a_rest_signs a_bag a_bag_often a_smooth a_smooth_madeFor a_smooth_weight a_smooth_inCell a_smooth_all a_smooth_starting a_text a_text_codes a_saves a_saves_slots a_out X O b_t b_z b_history b_text b_left b_other b_smooth b_weights b_signs b_worked M) H → va_D (fun q : Nat => s.heap.size ≤ q) (wdL cI cJ a_t a_row a_row_signs a_work a_work_signs a_rest a_rest_signs a_bag a_bag_often a_smooth a_smooth_madeFor a_smooth_weight a_smooth_inCell a_smooth_all a_smooth_starting a_text a_text_codes a_saves a_saves_slots a_out X O b_t b_z b_history b_text b_left b_other b_smooth b_weights b_signs b_worked M) → va_S (fun q : Nat => s.heap.size ≤ q) s.heap H locs → lv_has ls 9 [(0, .ref b), (1, .ref a_t), (2, .ref b_t), (3, .ref a_out), (4, .int (nI (5 * k)))] → W p l e room_1 s m #[Value.ref b] below meth c H locs k0 n0 (lw_Z below #[Value.ref b] s) (F0 m 23 ls []) := by
  have C' := C
  obtain ⟨hx, hb, hml, hown, hts, hX, hbl, hK, hG⟩ := C'
  have hA : ∀ q : Nat, s.heap.size ≤ q → (fun q : Nat => s.heap.size ≤ q) q := fun _ h => h
  have hbA : ¬ (fun q : Nat => s.heap.size ≤ q) b := Nat.not_le.mpr hbl
  intro n
  induction n with
  | zero => intro k k0 n0 X M O H locs ls h1 h2; exact absurd h2 (by omega)
  | succ n ih =>
    intro k k0 n0 X M O H locs ls h1 h2 hk0 hn0 hRel hP hD hS hl
    refine lv_iload hx hb dL_law_23 (lv_at hl 4 rfl) ?_
    refine lv_aload_n hx hb dL_law_25 rfl (lv_at hl 0 rfl) ?_
    refine va_slen hx hb hX hbl hbA hS dL_law_26 ?_
    refine lv_iconst (v := 5) hx hb dL_law_27 (by decide) ?_
    refine lv_isub hx hb dL_law_28 ?_
    refine lv_icmp_gt (tgt := 1593) hx hb dL_law_29 (by decide) (fun _ => ?_) (fun k29 => ?_)
    · refine lv_iconst (v := 1) hx hb dL_law_1593 (by decide) ?_
      refine va_forget (fun q hq => hS.2.2 q hq) ?_
      refine W.widen (k := 1065) (n := 16293) (by omega) (by omega) ?_
      exact lw_ret (d0 := s.drawn) (Drawn.sameBut.refl s.drawn lw_cs) hx hb hr hlocks dL_law_1594
    · have hi : 5 * k + 5 ≤ L := by
        have h5 : ((Int32.ofNat L) - 5).toInt = (L : Int) - 5 := pk_sub_toInt (a := L) (b := 5) (by omega) (by omega)
        have h6 := (Int32.not_lt.mp k29)
        have h7 := Int32.le_iff_toInt_le.mp h6
        rw [h5, nI_toInt (by omega)] at h7
        omega
      have hkk : k0 + 1 ≤ 1065 ∧ n0 + 6 ≤ 16293 := by omega
      refine lv_aload_n hx hb dL_law_32 rfl (lv_at hl 0 rfl) ?_
      refine lv_iload hx hb dL_law_33 (lv_at hl 4 rfl) ?_
      refine va_sld hx hb hX hbl hbA hS (vp_in_nI (by omega) (by omega)) dL_law_35 ?_
      rw [nI_clamp (by omega)]
      refine lv_bipush (v := 31) hx hb dL_law_36 (by decide) ?_
      refine lv_iand hx hb dL_law_38 ?_
      obtain ⟨j, hj, hje⟩ := pk_andE (xs (5 * k)) (m := 31) 5 (by decide)
      rw [hje]
      have kont : ∀ (X' : XS) (M' : MS) (O' : Nat → Int64) (H : Heap) (locs : List Loc) (ls : Array Slot), Rel X' M' → va_P D vwCl (wdL cI cJ a_t a_row a_row_signs a_work a_work_signs a_rest a_rest_signs a_bag a_bag_often a_smooth a_smooth_madeFor a_smooth_weight a_smooth_inCell a_smooth_all a_smooth_starting a_text a_text_codes a_saves a_saves_slots a_out X' O' b_t b_z b_history b_text b_left b_other b_smooth b_weights b_signs b_worked M') H → va_D (fun q : Nat => s.heap.size ≤ q) (wdL cI cJ a_t a_row a_row_signs a_work a_work_signs a_rest a_rest_signs a_bag a_bag_often a_smooth a_smooth_madeFor a_smooth_weight a_smooth_inCell a_smooth_all a_smooth_starting a_text a_text_codes a_saves a_saves_slots a_out X' O' b_t b_z b_history b_text b_left b_other b_smooth b_weights b_signs b_worked M') → va_S (fun q : Nat => s.heap.size ≤ q) s.heap H locs → lv_has ls 9 [(0, .ref b), (1, .ref a_t), (2, .ref b_t), (3, .ref a_out), (4, .int (nI (5 * k)))] → W p l e room_1 s m #[Value.ref b] below meth c H locs (k0 + 1) (n0 + 6) (lw_Z below #[Value.ref b] s) (F0 m 1587 ls []) := by
        intro X' M' O' H locs ls hRel hP hD hS hl
        refine lv_iinc (v := nI (5 * (k + 1))) (lv' := [(4, .int (nI (5 * (k + 1)))), (0, .ref b), (1, .ref a_t), (2, .ref b_t), (3, .ref a_out)]) hx hb dL_law_1587 hl (k := 4) rfl (nI_add (5 * k) 5) (by decide) rfl (fun ls hl => ?_)
        refine lv_goto (tgt := 23) hx hb dL_law_1590 (by decide) ?_
        exact ih (k + 1) (k0 + 1) (n0 + 6) X' M' O' H locs ls (by omega) (by omega) (by omega) (by omega) hRel hP hD hS (lv_sub hl [1, 2, 3, 4, 0] rfl)
      by_cases hj28 : 28 ≤ j
      · refine lv_tableOut (tgt := 1587) hx hb dL_law_39 (Or.inr (by rw [nI_toInt (by omega)]; omega)) (by decide) ?_
        refine W.widen (k := k0 + 1) (n := n0 + 6) (Nat.le_add_right _ _) (Nat.le_add_right _ _) ?_
        exact kont X M O H locs ls hRel hP hD hS hl
      · rcases (show j = 0 ∨ j = 1 ∨ j = 2 ∨ j = 3 ∨ j = 4 ∨ j = 5 ∨ j = 6 ∨ j = 7 ∨ j = 8 ∨ j = 9 ∨ j = 10 ∨ j = 11 ∨ j = 12 ∨ j = 13 ∨ j = 14 ∨ j = 15 ∨ j = 16 ∨ j = 17 ∨ j = 18 ∨ j = 19 ∨ j = 20 ∨ j = 21 ∨ j = 22 ∨ j = 23 ∨ j = 24 ∨ j = 25 ∨ j = 26 ∨ j = 27 by omega) with rfl | rfl | rfl | rfl | rfl | rfl | rfl | rfl | rfl | rfl | rfl | rfl | rfl | rfl | rfl | rfl | rfl | rfl | rfl | rfl | rfl | rfl | rfl | rfl | rfl | rfl | rfl | rfl
        · refine lv_tableIn (tgt := 164) (off := 125) hx hb dL_law_39 (by decide) (by decide) (by decide) (by decide) ?_
          exact lc_goTo hl0 hL C Rel a_t a_row a_row_signs a_work a_work_signs a_rest a_rest_signs a_bag a_bag_often a_smooth a_smooth_madeFor a_smooth_weight a_smooth_inCell a_smooth_all a_smooth_starting a_text a_text_codes a_saves a_saves_slots a_out b_t b_z b_history b_text b_left b_other b_smooth b_weights b_signs b_worked (5 * k) k0 n0 X M O H locs ls hi hkk hP hD hS hl (hst.1 X M _ hRel) kont
        · refine lv_tableIn (tgt := 220) (off := 181) hx hb dL_law_39 (by decide) (by decide) (by decide) (by decide) ?_
          exact lc_jump hl0 hL C Rel a_t a_row a_row_signs a_work a_work_signs a_rest a_rest_signs a_bag a_bag_often a_smooth a_smooth_madeFor a_smooth_weight a_smooth_inCell a_smooth_all a_smooth_starting a_text a_text_codes a_saves a_saves_slots a_out b_t b_z b_history b_text b_left b_other b_smooth b_weights b_signs b_worked (5 * k) k0 n0 X M O H locs ls hi hkk hP hD hS hl (hst.2.1 X M _ hRel) kont
        · refine lv_tableIn (tgt := 276) (off := 237) hx hb dL_law_39 (by decide) (by decide) (by decide) (by decide) ?_
          exact lc_next hl0 hL C Rel a_t a_row a_row_signs a_work a_work_signs a_rest a_rest_signs a_bag a_bag_often a_smooth a_smooth_madeFor a_smooth_weight a_smooth_inCell a_smooth_all a_smooth_starting a_text a_text_codes a_saves a_saves_slots a_out b_t b_z b_history b_text b_left b_other b_smooth b_weights b_signs b_worked (5 * k) k0 n0 X M O H locs ls hi hkk hP hD hS hl (hst.2.2.1 X M hRel) kont
        · refine lv_tableIn (tgt := 289) (off := 250) hx hb dL_law_39 (by decide) (by decide) (by decide) (by decide) ?_
          exact lc_previous hl0 hL C Rel a_t a_row a_row_signs a_work a_work_signs a_rest a_rest_signs a_bag a_bag_often a_smooth a_smooth_madeFor a_smooth_weight a_smooth_inCell a_smooth_all a_smooth_starting a_text a_text_codes a_saves a_saves_slots a_out b_t b_z b_history b_text b_left b_other b_smooth b_weights b_signs b_worked (5 * k) k0 n0 X M O H locs ls hi hkk hP hD hS hl (hst.2.2.2.1 X M hRel) kont
        · refine lv_tableIn (tgt := 302) (off := 263) hx hb dL_law_39 (by decide) (by decide) (by decide) (by decide) ?_
          exact lc_nextSmooth hl0 hL C Rel a_t a_row a_row_signs a_work a_work_signs a_rest a_rest_signs a_bag a_bag_often a_smooth a_smooth_madeFor a_smooth_weight a_smooth_inCell a_smooth_all a_smooth_starting a_text a_text_codes a_saves a_saves_slots a_out b_t b_z b_history b_text b_left b_other b_smooth b_weights b_signs b_worked (5 * k) k0 n0 X M O H locs ls hi hkk hP hD hS hl (hst.2.2.2.2.1 X M hRel) kont
        · refine lv_tableIn (tgt := 346) (off := 307) hx hb dL_law_39 (by decide) (by decide) (by decide) (by decide) ?_
          exact lc_goToSmooth hl0 hL C Rel a_t a_row a_row_signs a_work a_work_signs a_rest a_rest_signs a_bag a_bag_often a_smooth a_smooth_madeFor a_smooth_weight a_smooth_inCell a_smooth_all a_smooth_starting a_text a_text_codes a_saves a_saves_slots a_out b_t b_z b_history b_text b_left b_other b_smooth b_weights b_signs b_worked (5 * k) k0 n0 X M O H locs ls hi hkk hP hD hS hl (hst.2.2.2.2.2.1 X M _ hRel) kont
        · refine lv_tableIn (tgt := 402) (off := 363) hx hb dL_law_39 (by decide) (by decide) (by decide) (by decide) ?_
          exact lc_swap hl0 hL C Rel a_t a_row a_row_signs a_work a_work_signs a_rest a_rest_signs a_bag a_bag_often a_smooth a_smooth_madeFor a_smooth_weight a_smooth_inCell a_smooth_all a_smooth_starting a_text a_text_codes a_saves a_saves_slots a_out b_t b_z b_history b_text b_left b_other b_smooth b_weights b_signs b_worked (5 * k) k0 n0 X M O H locs ls hi hkk hP hD hS hl (hst.2.2.2.2.2.2.1 X M _ _ hRel) kont
        · refine lv_tableIn (tgt := 470) (off := 431) hx hb dL_law_39 (by decide) (by decide) (by decide) (by decide) ?_
          exact lc_turn hl0 hL C Rel a_t a_row a_row_signs a_work a_work_signs a_rest a_rest_signs a_bag a_bag_often a_smooth a_smooth_madeFor a_smooth_weight a_smooth_inCell a_smooth_all a_smooth_starting a_text a_text_codes a_saves a_saves_slots a_out b_t b_z b_history b_text b_left b_other b_smooth b_weights b_signs b_worked (5 * k) k0 n0 X M O H locs ls hi hkk hP hD hS hl (hst.2.2.2.2.2.2.2.1 X M _ _ hRel) kont
        · refine lv_tableIn (tgt := 538) (off := 499) hx hb dL_law_39 (by decide) (by decide) (by decide) (by decide) ?_
          exact lc_carry hl0 hL C Rel a_t a_row a_row_signs a_work a_work_signs a_rest a_rest_signs a_bag a_bag_often a_smooth a_smooth_madeFor a_smooth_weight a_smooth_inCell a_smooth_all a_smooth_starting a_text a_text_codes a_saves a_saves_slots a_out b_t b_z b_history b_text b_left b_other b_smooth b_weights b_signs b_worked (5 * k) k0 n0 X M O H locs ls hi hkk hP hD hS hl (hst.2.2.2.2.2.2.2.2.1 X M _ _ hRel) kont
        · refine lv_tableIn (tgt := 606) (off := 567) hx hb dL_law_39 (by decide) (by decide) (by decide) (by decide) ?_
          exact lc_put hl0 hL C Rel a_t a_row a_row_signs a_work a_work_signs a_rest a_rest_signs a_bag a_bag_often a_smooth a_smooth_madeFor a_smooth_weight a_smooth_inCell a_smooth_all a_smooth_starting a_text a_text_codes a_saves a_saves_slots a_out b_t b_z b_history b_text b_left b_other b_smooth b_weights b_signs b_worked (5 * k) k0 n0 X M O H locs ls hi hkk hP hD hS hl (hst.2.2.2.2.2.2.2.2.2.1 X M _ _ hRel) kont
        · refine lv_tableIn (tgt := 674) (off := 635) hx hb dL_law_39 (by decide) (by decide) (by decide) (by decide) ?_
          exact lc_take hl0 hL C Rel a_t a_row a_row_signs a_work a_work_signs a_rest a_rest_signs a_bag a_bag_often a_smooth a_smooth_madeFor a_smooth_weight a_smooth_inCell a_smooth_all a_smooth_starting a_text a_text_codes a_saves a_saves_slots a_out b_t b_z b_history b_text b_left b_other b_smooth b_weights b_signs b_worked (5 * k) k0 n0 X M O H locs ls hi hkk hP hD hS hl (hst.2.2.2.2.2.2.2.2.2.2.1 X M _ hRel) kont
        · refine lv_tableIn (tgt := 730) (off := 691) hx hb dL_law_39 (by decide) (by decide) (by decide) (by decide) ?_
          exact lc_append hl0 hL C Rel a_t a_row a_row_signs a_work a_work_signs a_rest a_rest_signs a_bag a_bag_often a_smooth a_smooth_madeFor a_smooth_weight a_smooth_inCell a_smooth_all a_smooth_starting a_text a_text_codes a_saves a_saves_slots a_out b_t b_z b_history b_text b_left b_other b_smooth b_weights b_signs b_worked (5 * k) k0 n0 X M O H locs ls hi hkk hP hD hS hl (hst.2.2.2.2.2.2.2.2.2.2.2.1 X M _ hRel) kont
        · refine lv_tableIn (tgt := 786) (off := 747) hx hb dL_law_39 (by decide) (by decide) (by decide) (by decide) ?_
          exact lc_clearBuffer hl0 hL C Rel a_t a_row a_row_signs a_work a_work_signs a_rest a_rest_signs a_bag a_bag_often a_smooth a_smooth_madeFor a_smooth_weight a_smooth_inCell a_smooth_all a_smooth_starting a_text a_text_codes a_saves a_saves_slots a_out b_t b_z b_history b_text b_left b_other b_smooth b_weights b_signs b_worked (5 * k) k0 n0 X M O H locs ls hi hkk hP hD hS hl (hst.2.2.2.2.2.2.2.2.2.2.2.2.1 X M hRel) kont
        · refine lv_tableIn (tgt := 799) (off := 760) hx hb dL_law_39 (by decide) (by decide) (by decide) (by decide) ?_
          exact lc_firstError hl0 hL C Rel a_t a_row a_row_signs a_work a_work_signs a_rest a_rest_signs a_bag a_bag_often a_smooth a_smooth_madeFor a_smooth_weight a_smooth_inCell a_smooth_all a_smooth_starting a_text a_text_codes a_saves a_saves_slots a_out b_t b_z b_history b_text b_left b_other b_smooth b_weights b_signs b_worked (5 * k) k0 n0 X M O H locs ls hi hkk hP hD hS hl (hst.2.2.2.2.2.2.2.2.2.2.2.2.2.1 X M hRel) kont
        · refine lv_tableIn (tgt := 812) (off := 773) hx hb dL_law_39 (by decide) (by decide) (by decide) (by decide) ?_
          exact lc_read hl0 hL C Rel a_t a_row a_row_signs a_work a_work_signs a_rest a_rest_signs a_bag a_bag_often a_smooth a_smooth_madeFor a_smooth_weight a_smooth_inCell a_smooth_all a_smooth_starting a_text a_text_codes a_saves a_saves_slots a_out b_t b_z b_history b_text b_left b_other b_smooth b_weights b_signs b_worked (5 * k) k0 n0 X M O H locs ls hi hkk hP hD hS hl (hst.2.2.2.2.2.2.2.2.2.2.2.2.2.2.1 X M hRel) kont
        · refine lv_tableIn (tgt := 856) (off := 817) hx hb dL_law_39 (by decide) (by decide) (by decide) (by decide) ?_
          exact lc_undo hl0 hL C Rel a_t a_row a_row_signs a_work a_work_signs a_rest a_rest_signs a_bag a_bag_often a_smooth a_smooth_madeFor a_smooth_weight a_smooth_inCell a_smooth_all a_smooth_starting a_text a_text_codes a_saves a_saves_slots a_out b_t b_z b_history b_text b_left b_other b_smooth b_weights b_signs b_worked (5 * k) k0 n0 X M O H locs ls hi hkk hP hD hS hl (hst.2.2.2.2.2.2.2.2.2.2.2.2.2.2.2.1 X M hRel) kont
        · refine lv_tableIn (tgt := 900) (off := 861) hx hb dL_law_39 (by decide) (by decide) (by decide) (by decide) ?_
          exact lc_sign hl0 hL C Rel a_t a_row a_row_signs a_work a_work_signs a_rest a_rest_signs a_bag a_bag_often a_smooth a_smooth_madeFor a_smooth_weight a_smooth_inCell a_smooth_all a_smooth_starting a_text a_text_codes a_saves a_saves_slots a_out b_t b_z b_history b_text b_left b_other b_smooth b_weights b_signs b_worked (5 * k) k0 n0 X M O H locs ls hi hkk hP hD hS hl (hst.2.2.2.2.2.2.2.2.2.2.2.2.2.2.2.2.1 X M _ hRel) kont
        · refine lv_tableIn (tgt := 956) (off := 917) hx hb dL_law_39 (by decide) (by decide) (by decide) (by decide) ?_
          exact lc_digit hl0 hL C Rel a_t a_row a_row_signs a_work a_work_signs a_rest a_rest_signs a_bag a_bag_often a_smooth a_smooth_madeFor a_smooth_weight a_smooth_inCell a_smooth_all a_smooth_starting a_text a_text_codes a_saves a_saves_slots a_out b_t b_z b_history b_text b_left b_other b_smooth b_weights b_signs b_worked (5 * k) k0 n0 X M O H locs ls hi hkk hP hD hS hl (hst.2.2.2.2.2.2.2.2.2.2.2.2.2.2.2.2.2.1 X M _ hRel) kont
        · refine lv_tableIn (tgt := 1012) (off := 973) hx hb dL_law_39 (by decide) (by decide) (by decide) (by decide) ?_
          exact lc_many hl0 hL C Rel a_t a_row a_row_signs a_work a_work_signs a_rest a_rest_signs a_bag a_bag_often a_smooth a_smooth_madeFor a_smooth_weight a_smooth_inCell a_smooth_all a_smooth_starting a_text a_text_codes a_saves a_saves_slots a_out b_t b_z b_history b_text b_left b_other b_smooth b_weights b_signs b_worked (5 * k) k0 n0 X M O H locs ls hi hkk hP hD hS hl (hst.2.2.2.2.2.2.2.2.2.2.2.2.2.2.2.2.2.2.1 X M _ hRel) kont
        · refine lv_tableIn (tgt := 1068) (off := 1029) hx hb dL_law_39 (by decide) (by decide) (by decide) (by decide) ?_
          exact lc_block hl0 hL C Rel a_t a_row a_row_signs a_work a_work_signs a_rest a_rest_signs a_bag a_bag_often a_smooth a_smooth_madeFor a_smooth_weight a_smooth_inCell a_smooth_all a_smooth_starting a_text a_text_codes a_saves a_saves_slots a_out b_t b_z b_history b_text b_left b_other b_smooth b_weights b_signs b_worked (5 * k) k0 n0 X M O H locs ls hi hkk hP hD hS hl (hst.2.2.2.2.2.2.2.2.2.2.2.2.2.2.2.2.2.2.2.1 X M _ _ hRel) kont
        · refine lv_tableIn (tgt := 1136) (off := 1097) hx hb dL_law_39 (by decide) (by decide) (by decide) (by decide) ?_
          exact lc_count hl0 hL C Rel a_t a_row a_row_signs a_work a_work_signs a_rest a_rest_signs a_bag a_bag_often a_smooth a_smooth_madeFor a_smooth_weight a_smooth_inCell a_smooth_all a_smooth_starting a_text a_text_codes a_saves a_saves_slots a_out b_t b_z b_history b_text b_left b_other b_smooth b_weights b_signs b_worked (5 * k) k0 n0 X M O H locs ls hi hkk hP hD hS hl (hst.2.2.2.2.2.2.2.2.2.2.2.2.2.2.2.2.2.2.2.2.1 X M _ hRel) kont
        · refine lv_tableIn (tgt := 1192) (off := 1153) hx hb dL_law_39 (by decide) (by decide) (by decide) (by decide) ?_
          exact lc_ifSwapped hl0 hL C Rel a_t a_row a_row_signs a_work a_work_signs a_rest a_rest_signs a_bag a_bag_often a_smooth a_smooth_madeFor a_smooth_weight a_smooth_inCell a_smooth_all a_smooth_starting a_text a_text_codes a_saves a_saves_slots a_out b_t b_z b_history b_text b_left b_other b_smooth b_weights b_signs b_worked (5 * k) k0 n0 X M O H locs ls hi hkk hP hD hS hl (hst.2.2.2.2.2.2.2.2.2.2.2.2.2.2.2.2.2.2.2.2.2.1 X M _ _ hRel) kont
        · refine lv_tableIn (tgt := 1260) (off := 1221) hx hb dL_law_39 (by decide) (by decide) (by decide) (by decide) ?_
          exact lc_signOf hl0 hL C Rel a_t a_row a_row_signs a_work a_work_signs a_rest a_rest_signs a_bag a_bag_often a_smooth a_smooth_madeFor a_smooth_weight a_smooth_inCell a_smooth_all a_smooth_starting a_text a_text_codes a_saves a_saves_slots a_out b_t b_z b_history b_text b_left b_other b_smooth b_weights b_signs b_worked (5 * k) k0 n0 X M O H locs ls hi hkk hP hD hS hl (hst.2.2.2.2.2.2.2.2.2.2.2.2.2.2.2.2.2.2.2.2.2.2.1 X M _ _ hRel) kont
        · refine lv_tableIn (tgt := 1328) (off := 1289) hx hb dL_law_39 (by decide) (by decide) (by decide) (by decide) ?_
          exact lc_having hl0 hL C Rel a_t a_row a_row_signs a_work a_work_signs a_rest a_rest_signs a_bag a_bag_often a_smooth a_smooth_madeFor a_smooth_weight a_smooth_inCell a_smooth_all a_smooth_starting a_text a_text_codes a_saves a_saves_slots a_out b_t b_z b_history b_text b_left b_other b_smooth b_weights b_signs b_worked (5 * k) k0 n0 X M O H locs ls hi hkk hP hD hS hl (hst.2.2.2.2.2.2.2.2.2.2.2.2.2.2.2.2.2.2.2.2.2.2.2.1 X M _ _ _ _ hRel) kont
        · refine lv_tableIn (tgt := 1420) (off := 1381) hx hb dL_law_39 (by decide) (by decide) (by decide) (by decide) ?_
          exact lc_stepsTo hl0 hL C Rel a_t a_row a_row_signs a_work a_work_signs a_rest a_rest_signs a_bag a_bag_often a_smooth a_smooth_madeFor a_smooth_weight a_smooth_inCell a_smooth_all a_smooth_starting a_text a_text_codes a_saves a_saves_slots a_out b_t b_z b_history b_text b_left b_other b_smooth b_weights b_signs b_worked (5 * k) k0 n0 X M O H locs ls hi hkk hP hD hS hl (hst.2.2.2.2.2.2.2.2.2.2.2.2.2.2.2.2.2.2.2.2.2.2.2.2.1 X M _ hRel) kont
        · refine lv_tableIn (tgt := 1476) (off := 1437) hx hb dL_law_39 (by decide) (by decide) (by decide) (by decide) ?_
          exact lc_bestSwap hl0 hL C Rel a_t a_row a_row_signs a_work a_work_signs a_rest a_rest_signs a_bag a_bag_often a_smooth a_smooth_madeFor a_smooth_weight a_smooth_inCell a_smooth_all a_smooth_starting a_text a_text_codes a_saves a_saves_slots a_out b_t b_z b_history b_text b_left b_other b_smooth b_weights b_signs b_worked (5 * k) k0 n0 X M O H locs ls hi hkk hP hD hS hl (hst.2.2.2.2.2.2.2.2.2.2.2.2.2.2.2.2.2.2.2.2.2.2.2.2.2.1 X M _ hRel) kont
        · refine lv_tableIn (tgt := 1532) (off := 1493) hx hb dL_law_39 (by decide) (by decide) (by decide) (by decide) ?_
          exact lc_share hl0 hL C Rel a_t a_row a_row_signs a_work a_work_signs a_rest a_rest_signs a_bag a_bag_often a_smooth a_smooth_madeFor a_smooth_weight a_smooth_inCell a_smooth_all a_smooth_starting a_text a_text_codes a_saves a_saves_slots a_out b_t b_z b_history b_text b_left b_other b_smooth b_weights b_signs b_worked (5 * k) k0 n0 X M O H locs ls hi hkk hP hD hS hl (hst.2.2.2.2.2.2.2.2.2.2.2.2.2.2.2.2.2.2.2.2.2.2.2.2.2.2.1 X M hRel) kont
        · refine lv_tableIn (tgt := 1573) (off := 1534) hx hb dL_law_39 (by decide) (by decide) (by decide) (by decide) ?_
          exact lc_digest hl0 hL C Rel a_t a_row a_row_signs a_work a_work_signs a_rest a_rest_signs a_bag a_bag_often a_smooth a_smooth_madeFor a_smooth_weight a_smooth_inCell a_smooth_all a_smooth_starting a_text a_text_codes a_saves a_saves_slots a_out b_t b_z b_history b_text b_left b_other b_smooth b_weights b_signs b_worked (5 * k) k0 n0 X M O H locs ls hi hkk hP hD hS hl (hst.2.2.2.2.2.2.2.2.2.2.2.2.2.2.2.2.2.2.2.2.2.2.2.2.2.2.2 X M hRel) kont
set_option maxHeartbeats 4000000 in
set_option maxRecDepth 100000 in
theorem whole_open (Rel : XS → MS → Prop) (hst : OkAll Rel) (hini : Rel X0 M0) {p : Program} {e : Env} {s : State} {m : MethodId} {below : List Frame} {meth : Method} {c : Code} (l : Launch) (hflags : l.flags = flags0) {b L : Nat} {xs : Nat → Int32} (hL : L ≤ 2560) (C0 : lw_At p s m meth c b L xs) : W p l e room_1 s m #[Value.ref b] below meth c s.heap [] 0 0 (lw_Z below #[Value.ref b] s) (entryFrame m ([Value.ref b] : List Value).toArray 9) := by
  obtain ⟨hx, hb, hr, hml, hown, hts, hX, hbl, hlocks, hgv⟩ := id C0
  have hl0 : l.stackTraces = false := by unfold Launch.stackTraces; rw [hflags]; decide
  have hts' : ∀ w ∈ WL, w.before #[Value.ref b] s = true := fun w hw => hts w (WL_t w hw)
  have hG := GI_start hts hgv
  have hA : ∀ q : Nat, s.heap.size ≤ q → (fun q : Nat => s.heap.size ≤ q) q := fun _ h => h
  obtain ⟨c0, i0, hn0⟩ := u_known (C := RX0) (T := TX0) (N := 2) (n := 2) hts' inW_X0 (hts' _ k1_38)
  obtain ⟨c1, i1, hn1⟩ := u_known (C := RX1) (T := TX1) (N := 2) (n := 2) hts' inW_X1 (hts' _ k1_24)
  obtain ⟨c2, i2, hn2⟩ := u_known (C := RX2) (T := TX2) (N := 2) (n := 2) hts' inW_X2 (hts' _ k1_86)
  obtain ⟨c3, i3, hn3⟩ := u_known (C := RX3) (T := TX3) (N := 5) (n := 5) hts' inW_X3 (hts' _ k1_51)
  obtain ⟨c4, i4, hn4⟩ := u_known (C := RX4) (T := TX4) (N := 2) (n := 2) hts' inW_X4 (hts' _ k1_73)
  obtain ⟨c5, i5, hn5⟩ := u_known (C := RX5) (T := TX5) (N := 8) (n := 8) hts' inW_X5 (hts' _ k1_16)
  obtain ⟨c6, i6, hn6⟩ := u_known (C := RX6) (T := TX6) (N := 16) (n := 16) hts' inW_X6 (hts' _ k4_41)
  obtain ⟨dC, dI, hKc⟩ : ∃ (dC : Nat → ClassId) (dI : Nat → Nat → Nat), ∀ (k : Nat) (q : vw_C), vwCl[k]? = some q → u_Kn s q.1 q.2.1 q.2.2 (dC k) (dI k) := by
    refine ⟨fun k => match k with | 0 => c0 | 1 => c1 | 2 => c2 | 3 => c3 | 4 => c4 | 5 => c5 | _ => c6, fun k => match k with | 0 => i0 | 1 => i1 | 2 => i2 | 3 => i3 | 4 => i4 | 5 => i5 | _ => i6, ?_⟩
    intro k q hq
    match k, hq with
    | 0, hq => cases hq; exact hn0
    | 1, hq => cases hq; exact hn1
    | 2, hq => cases hq; exact hn2
    | 3, hq => cases hq; exact hn3
    | 4, hq => cases hq; exact hn4
    | 5, hq => cases hq; exact hn5
    | 6, hq => cases hq; exact hn6
    | k + 7, hq => simp [vwCl] at hq
  obtain ⟨D, hD9⟩ : ∃ D : va_G, D = (dC, dI) := ⟨_, rfl⟩
  obtain ⟨cI, hI1, hI2⟩ := K_arr (ty := .int) (hts' _ k1_36) (fun C h => by cases h)
  obtain ⟨cJ, hJ1, hJ2⟩ := K_arr (ty := .long) (hts' _ k5_176) (fun C h => by cases h)
  have hK : va_K D vwCl [(cI, .int), (cJ, .long)] s := by
    subst hD9
    refine ⟨hKc, fun k q hq => ?_⟩
    match k, hq with
    | 0, hq => cases hq; exact ⟨hI1, hI2⟩
    | 1, hq => cases hq; exact ⟨hJ1, hJ2⟩
    | k + 2, hq => simp at hq
  have hK1 : va_K D vwCl [(cI, .int)] s := hK.sub [0] rfl
  have hS : va_S (fun q : Nat => s.heap.size ≤ q) s.heap s.heap [] := va_S.rf
  have hP : va_P D vwCl [] s.heap := fun k q h => by simp at h
  have hD : va_D (fun q : Nat => s.heap.size ≤ q) [] := ⟨fun i j p q h => by simp at h, fun k q h => by simp at h⟩
  have hl := lv_entry ([.ref b]) (n := 9) (Nat.le_of_ble_eq_true rfl)
  rw [lg_entry_eq]
  generalize (lg_sl ([.ref b]) ++ List.replicate (9 - (lg_sl ([.ref b])).length) Slot.unset).toArray = ls at hl ⊢
  have hl : lv_has ls 9 [(0, .ref b)] := hl
  refine va_new (ci := 5) (fs := [.null, .null, .null, .null, .null, .null, .null, .int 0]) (C := RX5) (T := TX5) (N := 8) hx hb hts' inW_X5 tyX5 tyX5_ok hown (hts' _ k1_15) (hts' _ k1_16) (hts' _ k1_1) hK1 hP hD hS hA rfl (fun j hj => by rcases (show j = 0 ∨ j = 1 ∨ j = 2 ∨ j = 3 ∨ j = 4 ∨ j = 5 ∨ j = 6 ∨ j = 7 by omega) with rfl | rfl | rfl | rfl | rfl | rfl | rfl | rfl <;> rfl) (Nat.le_of_ble_eq_true rfl) (Nat.le_of_ble_eq_true rfl) dL_law_0 (fun q0 H hP hD hS => ?_)
  refine W.widen (k := 1) (n := 8) (by decide) (by decide) ?_
  refine lv_dup hx hb dL_law_3 rfl ?_
  refine kII (wr := []) (rest := [.ref q0]) ⟨hx, hb, hml, hown, hts'⟩ (c_X5_init l D cI q0 H.size) (cwI 0 hts' (WL_in (List.forall_mem_cons.mpr ⟨k1_19, fun _ h => h⟩)) rfl rfl rfl (hts' _ k1_1) (hts' _ k1_17) (hts' _ k1_18) rfl ⟨by decide +kernel, by decide +kernel, by decide +kernel⟩ ⟨Nat.le_of_ble_eq_true rfl, Nat.le_of_ble_eq_true rfl⟩) hS hA hG hK1 hP hD [0] [] rfl rfl rfl (by decide) (by decide) ⟨Nat.le_of_ble_eq_true rfl, Nat.le_of_ble_eq_true rfl⟩ hl.1 rfl (Nat.le_of_ble_eq_true rfl) dL_law_4 (fun u4 H locs hP hD hS => ?_)
  have hP : va_P D vwCl (wdX cI q0 u4.1 u4.2.1 u4.2.2.1 u4.2.2.2.1 u4.2.2.2.2.1 u4.2.2.2.2.2.1 u4.2.2.2.2.2.2.1 u4.2.2.2.2.2.2.2.1 u4.2.2.2.2.2.2.2.2.1 u4.2.2.2.2.2.2.2.2.2.1 u4.2.2.2.2.2.2.2.2.2.2.1 u4.2.2.2.2.2.2.2.2.2.2.2.1 u4.2.2.2.2.2.2.2.2.2.2.2.2.1 u4.2.2.2.2.2.2.2.2.2.2.2.2.2.1 u4.2.2.2.2.2.2.2.2.2.2.2.2.2.2.1 u4.2.2.2.2.2.2.2.2.2.2.2.2.2.2.2.1 u4.2.2.2.2.2.2.2.2.2.2.2.2.2.2.2.2.1 u4.2.2.2.2.2.2.2.2.2.2.2.2.2.2.2.2.2 X0) H := hP
  have hD : va_D (fun q : Nat => s.heap.size ≤ q) (wdX cI q0 u4.1 u4.2.1 u4.2.2.1 u4.2.2.2.1 u4.2.2.2.2.1 u4.2.2.2.2.2.1 u4.2.2.2.2.2.2.1 u4.2.2.2.2.2.2.2.1 u4.2.2.2.2.2.2.2.2.1 u4.2.2.2.2.2.2.2.2.2.1 u4.2.2.2.2.2.2.2.2.2.2.1 u4.2.2.2.2.2.2.2.2.2.2.2.1 u4.2.2.2.2.2.2.2.2.2.2.2.2.1 u4.2.2.2.2.2.2.2.2.2.2.2.2.2.1 u4.2.2.2.2.2.2.2.2.2.2.2.2.2.2.1 u4.2.2.2.2.2.2.2.2.2.2.2.2.2.2.2.1 u4.2.2.2.2.2.2.2.2.2.2.2.2.2.2.2.2.1 u4.2.2.2.2.2.2.2.2.2.2.2.2.2.2.2.2.2 X0) := hD
  refine W.widen (k := 19) (n := 3622) (by decide) (by decide) ?_
  refine lv_astore_n (lv' := [(1, .ref q0), (0, .ref b)]) hx hb dL_law_7 rfl hl (by decide) rfl (fun ls hl => ?_)
  refine va_new (ci := 6) (fs := [.null, .int 0, .null, .int 0, .null, .int 0, .null, .null, .null, .null, .int 0, .null, .int 0, .int 0, .null, .long 0]) (C := RX6) (T := TX6) (N := 16) hx hb hts' inW_X6 tyX6 tyX6_ok hown (hts' _ k4_40) (hts' _ k4_41) (hts' _ k1_7) hK1 hP hD hS hA rfl (fun j hj => by rcases (show j = 0 ∨ j = 1 ∨ j = 2 ∨ j = 3 ∨ j = 4 ∨ j = 5 ∨ j = 6 ∨ j = 7 ∨ j = 8 ∨ j = 9 ∨ j = 10 ∨ j = 11 ∨ j = 12 ∨ j = 13 ∨ j = 14 ∨ j = 15 by omega) with rfl | rfl | rfl | rfl | rfl | rfl | rfl | rfl | rfl | rfl | rfl | rfl | rfl | rfl | rfl | rfl <;> rfl) (Nat.le_of_ble_eq_true rfl) (Nat.le_of_ble_eq_true rfl) dL_law_8 (fun q8 H hP hD hS => ?_)
  refine W.widen (k := 20) (n := 3638) (by decide) (by decide) ?_
  refine lv_dup hx hb dL_law_11 rfl ?_
  refine kII (wr := (wdX cI q0 u4.1 u4.2.1 u4.2.2.1 u4.2.2.2.1 u4.2.2.2.2.1 u4.2.2.2.2.2.1 u4.2.2.2.2.2.2.1 u4.2.2.2.2.2.2.2.1 u4.2.2.2.2.2.2.2.2.1 u4.2.2.2.2.2.2.2.2.2.1 u4.2.2.2.2.2.2.2.2.2.2.1 u4.2.2.2.2.2.2.2.2.2.2.2.1 u4.2.2.2.2.2.2.2.2.2.2.2.2.1 u4.2.2.2.2.2.2.2.2.2.2.2.2.2.1 u4.2.2.2.2.2.2.2.2.2.2.2.2.2.2.1 u4.2.2.2.2.2.2.2.2.2.2.2.2.2.2.2.1 u4.2.2.2.2.2.2.2.2.2.2.2.2.2.2.2.2.1 u4.2.2.2.2.2.2.2.2.2.2.2.2.2.2.2.2.2 X0)) (rest := [.ref q8]) ⟨hx, hb, hml, hown, hts'⟩ (c_X6_init l D cI q8 H.size) (cwI 0 hts' (WL_in (List.forall_mem_cons.mpr ⟨k4_44, fun _ h => h⟩)) rfl rfl rfl (hts' _ k1_7) (hts' _ k4_42) (hts' _ k4_43) rfl ⟨by decide +kernel, by decide +kernel, by decide +kernel⟩ ⟨Nat.le_of_ble_eq_true rfl, Nat.le_of_ble_eq_true rfl⟩) hS hA hG hK1 hP hD [19] [0, 1, 2, 3, 4, 5, 6, 7, 8, 9, 10, 11, 12, 13, 14, 15, 16, 17, 18] rfl rfl rfl (by decide) (by decide) ⟨Nat.le_of_ble_eq_true rfl, Nat.le_of_ble_eq_true rfl⟩ hl.1 rfl (Nat.le_of_ble_eq_true rfl) dL_law_12 (fun u12 H locs hP hD hS => ?_)
  have hP : va_P D vwCl (wdX cI q0 u4.1 u4.2.1 u4.2.2.1 u4.2.2.2.1 u4.2.2.2.2.1 u4.2.2.2.2.2.1 u4.2.2.2.2.2.2.1 u4.2.2.2.2.2.2.2.1 u4.2.2.2.2.2.2.2.2.1 u4.2.2.2.2.2.2.2.2.2.1 u4.2.2.2.2.2.2.2.2.2.2.1 u4.2.2.2.2.2.2.2.2.2.2.2.1 u4.2.2.2.2.2.2.2.2.2.2.2.2.1 u4.2.2.2.2.2.2.2.2.2.2.2.2.2.1 u4.2.2.2.2.2.2.2.2.2.2.2.2.2.2.1 u4.2.2.2.2.2.2.2.2.2.2.2.2.2.2.2.1 u4.2.2.2.2.2.2.2.2.2.2.2.2.2.2.2.2.1 u4.2.2.2.2.2.2.2.2.2.2.2.2.2.2.2.2.2 X0 ++ wdM cI q8 u12.1 u12.2.1 u12.2.2.1 u12.2.2.2.1 u12.2.2.2.2.1 u12.2.2.2.2.2.1 u12.2.2.2.2.2.2.1 u12.2.2.2.2.2.2.2.1 u12.2.2.2.2.2.2.2.2 M0) H := hP
  have hD : va_D (fun q : Nat => s.heap.size ≤ q) (wdX cI q0 u4.1 u4.2.1 u4.2.2.1 u4.2.2.2.1 u4.2.2.2.2.1 u4.2.2.2.2.2.1 u4.2.2.2.2.2.2.1 u4.2.2.2.2.2.2.2.1 u4.2.2.2.2.2.2.2.2.1 u4.2.2.2.2.2.2.2.2.2.1 u4.2.2.2.2.2.2.2.2.2.2.1 u4.2.2.2.2.2.2.2.2.2.2.2.1 u4.2.2.2.2.2.2.2.2.2.2.2.2.1 u4.2.2.2.2.2.2.2.2.2.2.2.2.2.1 u4.2.2.2.2.2.2.2.2.2.2.2.2.2.2.1 u4.2.2.2.2.2.2.2.2.2.2.2.2.2.2.2.1 u4.2.2.2.2.2.2.2.2.2.2.2.2.2.2.2.2.1 u4.2.2.2.2.2.2.2.2.2.2.2.2.2.2.2.2.2 X0 ++ wdM cI q8 u12.1 u12.2.1 u12.2.2.1 u12.2.2.2.1 u12.2.2.2.2.1 u12.2.2.2.2.2.1 u12.2.2.2.2.2.2.1 u12.2.2.2.2.2.2.2.1 u12.2.2.2.2.2.2.2.2 M0) := hD
  refine W.widen (k := 29) (n := 8034) (by decide) (by decide) ?_
  refine lv_astore_n (lv' := [(2, .ref q8), (1, .ref q0), (0, .ref b)]) hx hb dL_law_15 rfl hl (by decide) rfl (fun ls hl => ?_)
  refine lv_iconst (v := 1) hx hb dL_law_16 (by decide) ?_
  refine va_newa (atype := .long) hx hb (hts' (.arrayClass .long) k5_176) (ty := .long) rfl hK hP hD hS hA (a0 := (1, .inr (.inl (fun _ => 0)))) (fun _ => rfl) (by decide) (N' := 1) (by decide) (Nat.le_of_ble_eq_true rfl) (Nat.le_of_ble_eq_true rfl) (Nat.le_of_ble_eq_true rfl) dL_law_17 (fun q17 cA H hK2 hP hD hS => ?_)
  have e1 : s.vm.findClass ("[" ++ FieldType.long.toString) = some cA := (hK2.2 2 (cA, .long) rfl).2
  have e2 : s.vm.findClass ("[" ++ FieldType.long.toString) = some cJ := hJ2
  have e3 : cA = cJ := Option.some.inj (e1.symm.trans e2)
  subst e3
  refine W.widen (k := 30) (n := 8035) (by decide) (by decide) ?_
  refine lv_astore_n (lv' := [(3, .ref q17), (2, .ref q8), (1, .ref q0), (0, .ref b)]) hx hb dL_law_19 rfl hl (by decide) rfl (fun ls hl => ?_)
  refine lv_iconst (v := 0) hx hb dL_law_20 (by decide) ?_
  refine lv_istore (lv' := [(4, .int 0), (3, .ref q17), (2, .ref q8), (1, .ref q0), (0, .ref b)]) hx hb dL_law_21 hl (by decide) rfl (fun ls hl => ?_)
  have hP := hP.sub (ws' := (wdL cI cA q0 u4.1 u4.2.1 u4.2.2.1 u4.2.2.2.1 u4.2.2.2.2.1 u4.2.2.2.2.2.1 u4.2.2.2.2.2.2.1 u4.2.2.2.2.2.2.2.1 u4.2.2.2.2.2.2.2.2.1 u4.2.2.2.2.2.2.2.2.2.1 u4.2.2.2.2.2.2.2.2.2.2.1 u4.2.2.2.2.2.2.2.2.2.2.2.1 u4.2.2.2.2.2.2.2.2.2.2.2.2.1 u4.2.2.2.2.2.2.2.2.2.2.2.2.2.1 u4.2.2.2.2.2.2.2.2.2.2.2.2.2.2.1 u4.2.2.2.2.2.2.2.2.2.2.2.2.2.2.2.1 u4.2.2.2.2.2.2.2.2.2.2.2.2.2.2.2.2.1 u4.2.2.2.2.2.2.2.2.2.2.2.2.2.2.2.2.2 q17 X0 (fun _ => 0) q8 u12.1 u12.2.1 u12.2.2.1 u12.2.2.2.1 u12.2.2.2.2.1 u12.2.2.2.2.2.1 u12.2.2.2.2.2.2.1 u12.2.2.2.2.2.2.2.1 u12.2.2.2.2.2.2.2.2 M0)) [0, 1, 2, 3, 4, 5, 6, 7, 8, 9, 10, 11, 12, 13, 14, 15, 16, 17, 18, 29, 19, 20, 21, 22, 23, 24, 25, 26, 27, 28] rfl
  have hD := hD.sub (ws' := (wdL cI cA q0 u4.1 u4.2.1 u4.2.2.1 u4.2.2.2.1 u4.2.2.2.2.1 u4.2.2.2.2.2.1 u4.2.2.2.2.2.2.1 u4.2.2.2.2.2.2.2.1 u4.2.2.2.2.2.2.2.2.1 u4.2.2.2.2.2.2.2.2.2.1 u4.2.2.2.2.2.2.2.2.2.2.1 u4.2.2.2.2.2.2.2.2.2.2.2.1 u4.2.2.2.2.2.2.2.2.2.2.2.2.1 u4.2.2.2.2.2.2.2.2.2.2.2.2.2.1 u4.2.2.2.2.2.2.2.2.2.2.2.2.2.2.1 u4.2.2.2.2.2.2.2.2.2.2.2.2.2.2.2.1 u4.2.2.2.2.2.2.2.2.2.2.2.2.2.2.2.2.1 u4.2.2.2.2.2.2.2.2.2.2.2.2.2.2.2.2.2 q17 X0 (fun _ => 0) q8 u12.1 u12.2.1 u12.2.2.1 u12.2.2.2.1 u12.2.2.2.2.1 u12.2.2.2.2.2.1 u12.2.2.2.2.2.2.1 u12.2.2.2.2.2.2.2.1 u12.2.2.2.2.2.2.2.2 M0)) [0, 1, 2, 3, 4, 5, 6, 7, 8, 9, 10, 11, 12, 13, 14, 15, 16, 17, 18, 29, 19, 20, 21, 22, 23, 24, 25, 26, 27, 28] rfl rfl
  exact law_loop hl0 hL ⟨hx, hb, hml, hown, hts', hX, hbl, hK, hG⟩ hr hlocks Rel hst q0 u4.1 u4.2.1 u4.2.2.1 u4.2.2.2.1 u4.2.2.2.2.1 u4.2.2.2.2.2.1 u4.2.2.2.2.2.2.1 u4.2.2.2.2.2.2.2.1 u4.2.2.2.2.2.2.2.2.1 u4.2.2.2.2.2.2.2.2.2.1 u4.2.2.2.2.2.2.2.2.2.2.1 u4.2.2.2.2.2.2.2.2.2.2.2.1 u4.2.2.2.2.2.2.2.2.2.2.2.2.1 u4.2.2.2.2.2.2.2.2.2.2.2.2.2.1 u4.2.2.2.2.2.2.2.2.2.2.2.2.2.2.1 u4.2.2.2.2.2.2.2.2.2.2.2.2.2.2.2.1 u4.2.2.2.2.2.2.2.2.2.2.2.2.2.2.2.2.1 u4.2.2.2.2.2.2.2.2.2.2.2.2.2.2.2.2.2 q17 q8 u12.1 u12.2.1 u12.2.2.1 u12.2.2.2.1 u12.2.2.2.2.1 u12.2.2.2.2.2.1 u12.2.2.2.2.2.2.1 u12.2.2.2.2.2.2.2.1 u12.2.2.2.2.2.2.2.2 (L + 1) 0 30 8035 X0 M0 (fun _ => 0) H locs ls (by omega) (by omega) rfl rfl hini hP hD hS (lv_sub hl [4, 3, 2, 1, 0] rfl)
