abbrev wdL (cI cJ : ClassId) (a_t a_row a_row_signs a_work a_work_signs a_rest a_rest_signs a_bag a_bag_often a_smooth a_smooth_madeFor a_smooth_weight a_smooth_inCell a_smooth_all a_smooth_starting a_text a_text_codes a_saves a_saves_slots a_out : Nat) (X : XS) (O : Nat → Int64) (b_t b_z b_history b_text b_left b_other b_smooth b_weights b_signs b_worked : Nat) (M : MS) : va_W := wdXO cI cJ a_t a_row a_row_signs a_work a_work_signs a_rest a_rest_signs a_bag a_bag_often a_smooth a_smooth_madeFor a_smooth_weight a_smooth_inCell a_smooth_all a_smooth_starting a_text a_text_codes a_saves a_saves_slots a_out X O ++ wdM cI b_t b_z b_history b_text b_left b_other b_smooth b_weights b_signs b_worked M
theorem lg_cmp_self (x : Int64) : lg_cmp x x = 0 := by unfold lg_cmp; simp
section LAWL
variable {p : Program} {l : Launch} {e : Env} {R : Room} {s : State} {m : MethodId} {args : Array Value} {below : List Frame} {meth : Method} {c : Code} {H : Heap} {locs : List Loc} {Q : State → Prop}
variable {cc bytes : ByteArray} {nL maxL n index : Nat} {ret : Option FieldType} {own C : String} {y : MethodName} {rm : Room} {b : Addr} {As rest : List Value} {pc : Nat} {ls : Array Slot} {st0 : List Value}
variable {D : va_G} {tys : List (ClassId × FieldType)} {A : Nat → Prop} {ws wc w1 ws' : va_W} {k0 n0 mc ms : Nat} {hh : List (Nat × Nat × Nat × Nat)}
/-- what holds all through the law's body -/
def LC (p : Program) (s : State) (m : MethodId) (c : Code) (b L : Nat) (xs : Nat → Int32) (D : va_G) (cI cJ : ClassId) : Prop :=
  p.tables.exec = Jvm.exec ∧ c.code = code ∧ c.maxLocals = 9 ∧ s.vm.findClass RL = some m.cls ∧ (∀ w ∈ WL, w.before #[Value.ref b] s = true) ∧ va_X b L xs s s.heap ∧ b < s.heap.size ∧ va_K D vwCl [(cI, .int), (cJ, .long)] s ∧ GI (fun q : Nat => s.heap.size ≤ q) s s.heap
theorem lsld {L i j : Nat} {xs : Nat → Int32} {J : Int32} (hexec : p.tables.exec = Jvm.exec) (hb : c.code = cc) (hX : va_X b L xs s s.heap) (hbl : b < s.heap.size) (hbA : ¬ A b) (hS : va_S A s.heap H locs) (hL : L ≤ 2560) (hi : i + 5 ≤ L) (hj : j < 5) (hJ : J = nI j) (hdg : decode cc pc = .ok (.iaload, 1))
    (k : W p l e R s m args below meth c H locs k0 n0 Q (F0 m (pc + 1) ls (.int (xs (i + j)) :: rest))) : W p l e R s m args below meth c H locs k0 n0 Q (F0 m pc ls (.int (nI i + J) :: .ref b :: rest)) := by
  subst hJ
  rw [nI_add]
  refine va_sld hexec hb hX hbl hbA hS (vp_in_nI (by omega) (by omega)) hdg ?_
  rw [nI_clamp (by omega)]
  exact k
/-- as P_after, the places of the rest said too -/
theorem P_after2 {H1 : Heap} (hP : va_P D vwCl ws H) (hD : va_D A ws) (isC isR : List Nat) (hC : isC.map (fun i => ws[i]?) = wc.map some) (h1 : isC.map (fun i => ws'[i]?) = w1.map some) (rs : va_W) (h2 : isR.map (fun i => ws'[i]?) = rs.map some) (h2b : isR.map (fun i => ws[i]?) = rs.map some) {NN : Nat} (hNN : ws'.length = NN) (h3 : (List.range NN).all (fun k => isC.contains k || isR.contains k) = true)
    (hP1 : va_P D vwCl w1 H1) (hk : ∀ q : Nat, q < H.size → ¬ va_A wc H.size q → H1[q]? = H[q]?) : va_P D vwCl ws' H1 := by
  intro k q hq
  by_cases hkC : k ∈ isC
  · obtain ⟨j, hj⟩ := List.getElem?_of_mem hkC
    have h4 : (isC.map (fun i => ws'[i]?))[j]? = some (some q) := by rw [List.getElem?_map, hj]; exact congrArg some hq
    rw [h1, List.getElem?_map] at h4
    cases h5 : w1[j]? with
    | none => rw [h5] at h4; cases h4
    | some q2 => rw [h5] at h4; cases h4; exact hP1 j q h5
  · have hkl : k < NN := by rw [← hNN]; exact (List.getElem?_eq_some_iff.mp hq).1
    have h4 := List.all_eq_true.mp h3 k (List.mem_range.mpr hkl)
    have hkR : k ∈ isR := by
      rcases Bool.or_eq_true_iff.mp h4 with h | h
      · exact absurd (List.contains_iff_mem.mp h) hkC
      · exact List.contains_iff_mem.mp h
    obtain ⟨j, hj⟩ := List.getElem?_of_mem hkR
    have h5 : (isR.map (fun i => ws'[i]?))[j]? = some (some q) := by rw [List.getElem?_map, hj]; exact congrArg some hq
    rw [h2, ← h2b, List.getElem?_map, hj] at h5
    have h6 : ws[k]? = some q := Option.some.inj h5
    have hlt := (hP k q h6).lt
    refine (hP k q h6).kept (hk q.1 hlt (fun h => ?_))
    rcases h with ⟨j2, e, he⟩ | h
    · have h7 : (isC.map (fun i => ws[i]?))[j2]? = some (some (q.1, e)) := by rw [hC, List.getElem?_map, he]; rfl
      rw [List.getElem?_map] at h7
      cases h8 : isC[j2]? with
      | none => rw [h8] at h7; cases h7
      | some i =>
        rw [h8] at h7
        have h9 : ws[i]? = some (q.1, e) := Option.some.inj h7
        have h10 := hD.1 k i q (q.1, e) h6 h9 rfl
        subst h10
        exact hkC (List.mem_of_getElem? h8)
    · omega
theorem kVI2 {r : Int32} (S : CallFix p m c cc nL s args WL own) (hM : Met l y (Cond.code y bytes maxL ret :: WL) rm (preM D tys wc H.size (.ref b :: As)) (postI D r w1 wc H.size) 0 0 (va_A wc H.size)) (cw : CallW R s args own C index y bytes maxL ret (Cond.code y bytes maxL ret :: WL) rm 0 0 n)
    (hS : va_S A s.heap H locs) (hA : ∀ q, s.heap.size ≤ q → A q) (hG : GI A s s.heap) (hK : va_K D vwCl tys s) (hP : va_P D vwCl ws H) (hD : va_D A ws) (isC isR : List Nat) (hC : isC.map (fun i => ws[i]?) = wc.map some) (hn : va_nd isC = true) (h1 : isC.map (fun i => ws'[i]?) = w1.map some) (rs : va_W) (h2 : isR.map (fun i => ws'[i]?) = rs.map some) (h2b : isR.map (fun i => ws[i]?) = rs.map some) {NN : Nat} (hNN : ws'.length = NN) (h3 : (List.range NN).all (fun k => isC.contains k || isR.contains k) = true) (hf2 : ws'.map (fun q => q.1) = ws.map (fun q => q.1)) (hfr : k0 ≤ R.cells ∧ n0 ≤ R.slots) (ci q0 : Nat) {q : vw_C} {fs : List Value} (hci : vwCl[ci]? = some q) (hrc : ws[q0]? = some (b, .inr (ci, fs))) (hqC : q.1 = C) (hAs : As.length = n) (hsize : ls.size = nL) (hstack : st0 = As.reverse ++ .ref b :: rest) (hroom : (rest.map fun v => v.category).sum ≤ 8) (hdg : decode cc pc = .ok (.invokevirtual index, 3))
    (kk : ∀ (H1 : Heap) (locs1 : List Loc), va_P D vwCl ws' H1 → va_D A ws' → va_S A s.heap H1 locs1 → W p l e R s m args below meth c H1 locs1 k0 n0 Q (F0 m (pc + 3) ls (.int r :: rest))) : W p l e R s m args below meth c H locs k0 n0 Q (F0 m pc ls st0) := by
  subst hqC
  have hp := preV_of (As := .ref b :: As) (ci := 0) (q0 := 0) (q := q) (fs := fs) hK hP hD hS hA hG isC hC hn
  have hF := va_free hD hS hA isC hC
  refine va_calli (va_runV S hM cw ⟨hp.1, va_recv hK hP hci hrc, hp.2⟩ rfl hAs hsize hstack (lv_room hroom) hdg hfr) hS (fun q _ h => hF q h) hF (fun r' u t H1 locs1 ht hvm hw2 hB hz hk hS1 => ?_)
  subst hw2
  rw [ht] at hB
  exact kk H1 locs1 (P_after2 hP hD isC isR hC h1 rs h2 h2b hNN h3 hB hk) (D_fst hD hf2) hS1
theorem kVL2 {r : Int64} (S : CallFix p m c cc nL s args WL own) (hM : Met l y (Cond.code y bytes maxL ret :: WL) rm (preM D tys wc H.size (.ref b :: As)) (postL D r w1 wc H.size) 0 0 (va_A wc H.size)) (cw : CallW R s args own C index y bytes maxL ret (Cond.code y bytes maxL ret :: WL) rm 0 0 n)
    (hS : va_S A s.heap H locs) (hA : ∀ q, s.heap.size ≤ q → A q) (hG : GI A s s.heap) (hK : va_K D vwCl tys s) (hP : va_P D vwCl ws H) (hD : va_D A ws) (isC isR : List Nat) (hC : isC.map (fun i => ws[i]?) = wc.map some) (hn : va_nd isC = true) (h1 : isC.map (fun i => ws'[i]?) = w1.map some) (rs : va_W) (h2 : isR.map (fun i => ws'[i]?) = rs.map some) (h2b : isR.map (fun i => ws[i]?) = rs.map some) {NN : Nat} (hNN : ws'.length = NN) (h3 : (List.range NN).all (fun k => isC.contains k || isR.contains k) = true) (hf2 : ws'.map (fun q => q.1) = ws.map (fun q => q.1)) (hfr : k0 ≤ R.cells ∧ n0 ≤ R.slots) (ci q0 : Nat) {q : vw_C} {fs : List Value} (hci : vwCl[ci]? = some q) (hrc : ws[q0]? = some (b, .inr (ci, fs))) (hqC : q.1 = C) (hAs : As.length = n) (hsize : ls.size = nL) (hstack : st0 = As.reverse ++ .ref b :: rest) (hroom : (rest.map fun v => v.category).sum ≤ 8) (hdg : decode cc pc = .ok (.invokevirtual index, 3))
    (kk : ∀ (H1 : Heap) (locs1 : List Loc), va_P D vwCl ws' H1 → va_D A ws' → va_S A s.heap H1 locs1 → W p l e R s m args below meth c H1 locs1 k0 n0 Q (F0 m (pc + 3) ls (.long r :: rest))) : W p l e R s m args below meth c H locs k0 n0 Q (F0 m pc ls st0) := by
  subst hqC
  have hp := preV_of (As := .ref b :: As) (ci := 0) (q0 := 0) (q := q) (fs := fs) hK hP hD hS hA hG isC hC hn
  have hF := va_free hD hS hA isC hC
  refine va_calll (va_runV S hM cw ⟨hp.1, va_recv hK hP hci hrc, hp.2⟩ rfl hAs hsize hstack (lv_room hroom) hdg hfr) hS (fun q _ h => hF q h) hF (fun r' u t H1 locs1 ht hvm hw2 hB hz hk hS1 => ?_)
  subst hw2
  rw [ht] at hB
  exact kk H1 locs1 (P_after2 hP hD isC isR hC h1 rs h2 h2b hNN h3 hB hk) (D_fst hD hf2) hS1
theorem kVD2 {r : UInt64} (S : CallFix p m c cc nL s args WL own) (hM : Met l y (Cond.code y bytes maxL ret :: WL) rm (preM D tys wc H.size (.ref b :: As)) (postD D r w1 wc H.size) 0 0 (va_A wc H.size)) (cw : CallW R s args own C index y bytes maxL ret (Cond.code y bytes maxL ret :: WL) rm 0 0 n)
    (hS : va_S A s.heap H locs) (hA : ∀ q, s.heap.size ≤ q → A q) (hG : GI A s s.heap) (hK : va_K D vwCl tys s) (hP : va_P D vwCl ws H) (hD : va_D A ws) (isC isR : List Nat) (hC : isC.map (fun i => ws[i]?) = wc.map some) (hn : va_nd isC = true) (h1 : isC.map (fun i => ws'[i]?) = w1.map some) (rs : va_W) (h2 : isR.map (fun i => ws'[i]?) = rs.map some) (h2b : isR.map (fun i => ws[i]?) = rs.map some) {NN : Nat} (hNN : ws'.length = NN) (h3 : (List.range NN).all (fun k => isC.contains k || isR.contains k) = true) (hf2 : ws'.map (fun q => q.1) = ws.map (fun q => q.1)) (hfr : k0 ≤ R.cells ∧ n0 ≤ R.slots) (ci q0 : Nat) {q : vw_C} {fs : List Value} (hci : vwCl[ci]? = some q) (hrc : ws[q0]? = some (b, .inr (ci, fs))) (hqC : q.1 = C) (hAs : As.length = n) (hsize : ls.size = nL) (hstack : st0 = As.reverse ++ .ref b :: rest) (hroom : (rest.map fun v => v.category).sum ≤ 8) (hdg : decode cc pc = .ok (.invokevirtual index, 3))
    (kk : ∀ (H1 : Heap) (locs1 : List Loc), va_P D vwCl ws' H1 → va_D A ws' → va_S A s.heap H1 locs1 → W p l e R s m args below meth c H1 locs1 k0 n0 Q (F0 m (pc + 3) ls (.double r :: rest))) : W p l e R s m args below meth c H locs k0 n0 Q (F0 m pc ls st0) := by
  subst hqC
  have hp := preV_of (As := .ref b :: As) (ci := 0) (q0 := 0) (q := q) (fs := fs) hK hP hD hS hA hG isC hC hn
  have hF := va_free hD hS hA isC hC
  refine va_calld (va_runV S hM cw ⟨hp.1, va_recv hK hP hci hrc, hp.2⟩ rfl hAs hsize hstack (lv_room hroom) hdg hfr) hS (fun q _ h => hF q h) hF (fun r' u t H1 locs1 ht hvm hw2 hB hz hk hS1 => ?_)
  subst hw2
  rw [ht] at hB
  exact kk H1 locs1 (P_after2 hP hD isC isR hC h1 rs h2 h2b hNN h3 hB hk) (D_fst hD hf2) hS1
theorem kSWI {r : Int32} (Sf : CallFix p m c cc nL s args WL own) (hM : Met l y (Cond.codeWith y bytes maxL ret hh :: WL) rm (preM D tys wc H.size As) (postI D r w1 wc H.size) mc ms (va_A wc H.size)) (cw : vx_CSW R s args own index y bytes maxL ret hh (Cond.codeWith y bytes maxL ret hh :: WL) rm mc ms n)
    (hS : va_S A s.heap H locs) (hA : ∀ q, s.heap.size ≤ q → A q) (hG : GI A s s.heap) (hK : va_K D vwCl tys s) (hP : va_P D vwCl ws H) (hD : va_D A ws) (isC isR : List Nat) (hC : isC.map (fun i => ws[i]?) = wc.map some) (hn : va_nd isC = true) (h1 : isC.map (fun i => ws'[i]?) = w1.map some) (rs : va_W) (h2 : isR.map (fun i => ws'[i]?) = rs.map some) (h2b : isR.map (fun i => ws[i]?) = rs.map some) {NN : Nat} (hNN : ws'.length = NN) (h3 : (List.range NN).all (fun k => isC.contains k || isR.contains k) = true) (hf2 : ws'.map (fun q => q.1) = ws.map (fun q => q.1)) (hfr : k0 + mc ≤ R.cells ∧ n0 + ms ≤ R.slots) (hAs : As.length = n) (hsize : ls.size = nL) (hstack : st0 = As.reverse ++ rest) (hroom : (rest.map fun v => v.category).sum ≤ 8) (hdg : decode cc pc = .ok (.invokestatic index, 3))
    (kk : ∀ (H1 : Heap) (locs1 : List Loc), va_P D vwCl ws' H1 → va_D A ws' → va_S A s.heap H1 locs1 → W p l e R s m args below meth c H1 locs1 (k0 + mc) (n0 + ms) Q (F0 m (pc + 3) ls (.int r :: rest))) : W p l e R s m args below meth c H locs k0 n0 Q (F0 m pc ls st0) := by
  have hp := preV_of (As := As) (ci := 0) (q0 := 0) (q := (RX0, TX0, 0)) (fs := []) hK hP hD hS hA hG isC hC hn
  have hF := va_free hD hS hA isC hC
  refine va_calli (vx_runSW Sf hM cw ⟨hp.1, hp.2⟩ rfl hAs hsize hstack (lv_room hroom) hdg hfr) hS (fun q _ h => hF q h) hF (fun r' u t H1 locs1 ht hvm hw2 hB hz hk hS1 => ?_)
  subst hw2
  rw [ht] at hB
  exact kk H1 locs1 (P_after2 hP hD isC isR hC h1 rs h2 h2b hNN h3 hB hk) (D_fst hD hf2) hS1
end LAWL
theorem mw_law_89 : GoodIn WL (va_wsS RL 89 yL_goTo (Cond.codeWith yL_goTo cL_goTo 4 (some .int) [(0, 9, 12, 13)] :: WL)) := gSW_of k3_92 k3_93 k1_0 k3_94
theorem hd_L_goTo : yL_goTo.cls ≠ "java/lang/invoke/MethodHandle" ∧ yL_goTo.cls ≠ "java/lang/invoke/VarHandle" ∧ (parseMethodDescriptor yL_goTo.desc).map (fun d => d.parameters.length) = some 3 := by decide +kernel
theorem mw_L_94 : GoodIn WL (wsV RL 94 RX6 yX6_goTo (Cond.code yX6_goTo cX6_goTo 4 (some .int) :: WL)) := gV_of k4_99 k4_100 k4_101 k1_7 k4_102
theorem mw_L_95 : GoodIn WL (wsV RL 95 RX6 yX6_thrown (Cond.code yX6_thrown cX6_thrown 1 (some .int) :: WL)) := gV_of k4_95 k4_96 k4_97 k1_7 k4_98
theorem mw_law_98 : GoodIn WL (va_wsS RL 98 yL_jump (Cond.codeWith yL_jump cL_jump 4 (some .int) [(0, 9, 12, 18)] :: WL)) := gSW_of k3_100 k3_101 k1_0 k3_102
theorem hd_L_jump : yL_jump.cls ≠ "java/lang/invoke/MethodHandle" ∧ yL_jump.cls ≠ "java/lang/invoke/VarHandle" ∧ (parseMethodDescriptor yL_jump.desc).map (fun d => d.parameters.length) = some 3 := by decide +kernel
theorem mw_L_100 : GoodIn WL (wsV RL 100 RX6 yX6_jump (Cond.code yX6_jump cX6_jump 5 (some .int) :: WL)) := gV_of k4_158 k4_159 k4_160 k1_7 k4_161
theorem mw_L_101 : GoodIn WL (wsV RL 101 RX5 yX5_next (Cond.code yX5_next cX5_next 2 (some .int) :: WL)) := gV_of k1_131 k1_132 k1_133 k1_1 k1_134
theorem mw_L_104 : GoodIn WL (wsV RL 104 RX6 yX6_next (Cond.code yX6_next cX6_next 1 (some .int) :: WL)) := gV_of k4_162 k4_163 k4_164 k1_7 k4_165
theorem mw_L_105 : GoodIn WL (wsV RL 105 RX5 yX5_previous (Cond.code yX5_previous cX5_previous 2 (some .int) :: WL)) := gV_of k2_6 k2_7 k2_8 k1_1 k2_9
theorem mw_L_108 : GoodIn WL (wsV RL 108 RX6 yX6_previous (Cond.code yX6_previous cX6_previous 1 (some .int) :: WL)) := gV_of k4_170 k4_171 k4_172 k1_7 k4_173
theorem mw_law_109 : GoodIn WL (va_wsS RL 109 yL_nextSmooth (Cond.codeWith yL_nextSmooth cL_nextSmooth 3 (some .int) [(0, 8, 11, 18)] :: WL)) := gSW_of k3_124 k3_125 k1_0 k3_126
theorem hd_L_nextSmooth : yL_nextSmooth.cls ≠ "java/lang/invoke/MethodHandle" ∧ yL_nextSmooth.cls ≠ "java/lang/invoke/VarHandle" ∧ (parseMethodDescriptor yL_nextSmooth.desc).map (fun d => d.parameters.length) = some 2 := by decide +kernel
theorem mw_L_112 : GoodIn WL (wsV RL 112 RX6 yX6_nextSmooth (Cond.code yX6_nextSmooth cX6_nextSmooth 3 (some .int) :: WL)) := gV_of k4_174 k4_175 k4_176 k1_7 k4_177
theorem mw_law_113 : GoodIn WL (va_wsS RL 113 yL_goToSmooth (Cond.codeWith yL_goToSmooth cL_goToSmooth 4 (some .int) [(0, 9, 12, 13)] :: WL)) := gSW_of k3_136 k3_137 k1_0 k3_138
theorem hd_L_goToSmooth : yL_goToSmooth.cls ≠ "java/lang/invoke/MethodHandle" ∧ yL_goToSmooth.cls ≠ "java/lang/invoke/VarHandle" ∧ (parseMethodDescriptor yL_goToSmooth.desc).map (fun d => d.parameters.length) = some 3 := by decide +kernel
theorem mw_L_115 : GoodIn WL (wsV RL 115 RX6 yX6_goToSmooth (Cond.code yX6_goToSmooth cX6_goToSmooth 3 (some .int) :: WL)) := gV_of k4_210 k4_211 k4_212 k1_7 k4_213
theorem mw_law_116 : GoodIn WL (va_wsS RL 116 yL_swap (Cond.codeWith yL_swap cL_swap 5 (some .int) [(0, 10, 13, 31)] :: WL)) := gSW_of k3_144 k3_145 k1_0 k3_146
theorem hd_L_swap : yL_swap.cls ≠ "java/lang/invoke/MethodHandle" ∧ yL_swap.cls ≠ "java/lang/invoke/VarHandle" ∧ (parseMethodDescriptor yL_swap.desc).map (fun d => d.parameters.length) = some 4 := by decide +kernel
theorem mw_L_119 : GoodIn WL (wsV RL 119 RX6 yX6_swap (Cond.code yX6_swap cX6_swap 3 (some .int) :: WL)) := gV_of k4_214 k4_215 k4_216 k1_7 k4_217
theorem mw_law_120 : GoodIn WL (va_wsS RL 120 yL_turn (Cond.codeWith yL_turn cL_turn 5 (some .int) [(0, 10, 13, 31), (0, 10, 17, 13)] :: WL)) := gSW_of k3_152 k3_153 k1_0 k3_154
theorem hd_L_turn : yL_turn.cls ≠ "java/lang/invoke/MethodHandle" ∧ yL_turn.cls ≠ "java/lang/invoke/VarHandle" ∧ (parseMethodDescriptor yL_turn.desc).map (fun d => d.parameters.length) = some 4 := by decide +kernel
theorem mw_L_122 : GoodIn WL (wsV RL 122 RX6 yX6_turn (Cond.code yX6_turn cX6_turn 3 (some .int) :: WL)) := gV_of k4_229 k4_230 k4_231 k1_7 k4_232
theorem mw_law_123 : GoodIn WL (va_wsS RL 123 yL_carry (Cond.codeWith yL_carry cL_carry 5 (some .int) [(0, 10, 13, 31), (0, 10, 17, 13)] :: WL)) := gSW_of k3_159 k3_160 k1_0 k3_161
theorem hd_L_carry : yL_carry.cls ≠ "java/lang/invoke/MethodHandle" ∧ yL_carry.cls ≠ "java/lang/invoke/VarHandle" ∧ (parseMethodDescriptor yL_carry.desc).map (fun d => d.parameters.length) = some 4 := by decide +kernel
theorem mw_L_125 : GoodIn WL (wsV RL 125 RX6 yX6_carry (Cond.code yX6_carry cX6_carry 5 (some .int) :: WL)) := gV_of k4_237 k4_238 k4_239 k1_7 k5_0
theorem mw_law_126 : GoodIn WL (va_wsS RL 126 yL_put (Cond.codeWith yL_put cL_put 5 (some .int) [(0, 10, 13, 31), (0, 10, 17, 13), (0, 10, 21, 18)] :: WL)) := gSW_of k3_175 k3_176 k1_0 k3_177
theorem hd_L_put : yL_put.cls ≠ "java/lang/invoke/MethodHandle" ∧ yL_put.cls ≠ "java/lang/invoke/VarHandle" ∧ (parseMethodDescriptor yL_put.desc).map (fun d => d.parameters.length) = some 4 := by decide +kernel
theorem mw_L_128 : GoodIn WL (wsV RL 128 RX6 yX6_put (Cond.code yX6_put cX6_put 4 (some .int) :: WL)) := gV_of k5_5 k5_6 k5_7 k1_7 k5_8
theorem mw_law_129 : GoodIn WL (va_wsS RL 129 yL_take (Cond.codeWith yL_take cL_take 4 (some .int) [(0, 9, 12, 31), (0, 9, 15, 18)] :: WL)) := gSW_of k3_187 k3_188 k1_0 k3_189
theorem hd_L_take : yL_take.cls ≠ "java/lang/invoke/MethodHandle" ∧ yL_take.cls ≠ "java/lang/invoke/VarHandle" ∧ (parseMethodDescriptor yL_take.desc).map (fun d => d.parameters.length) = some 3 := by decide +kernel
theorem mw_L_131 : GoodIn WL (wsV RL 131 RX6 yX6_take (Cond.code yX6_take cX6_take 4 (some .int) :: WL)) := gV_of k5_12 k5_13 k5_14 k1_7 k5_15
theorem mw_law_132 : GoodIn WL (va_wsS RL 132 yL_append (Cond.codeWith yL_append cL_append 4 (some .int) [(0, 9, 12, 13), (0, 9, 15, 18)] :: WL)) := gSW_of k3_200 k3_201 k1_0 k3_202
theorem hd_L_append : yL_append.cls ≠ "java/lang/invoke/MethodHandle" ∧ yL_append.cls ≠ "java/lang/invoke/VarHandle" ∧ (parseMethodDescriptor yL_append.desc).map (fun d => d.parameters.length) = some 3 := by decide +kernel
theorem mw_L_134 : GoodIn WL (wsV RL 134 RX6 yX6_append (Cond.code yX6_append cX6_append 2 (some .int) :: WL)) := gV_of k5_16 k5_17 k5_18 k1_7 k5_19
theorem mw_L_135 : GoodIn WL (wsV RL 135 RX5 yX5_clearBuffer (Cond.code yX5_clearBuffer cX5_clearBuffer 2 (some .int) :: WL)) := gV_of k2_10 k2_11 k2_12 k1_1 k2_13
theorem mw_L_138 : GoodIn WL (wsV RL 138 RX6 yX6_clearBuffer (Cond.code yX6_clearBuffer cX6_clearBuffer 2 (some .int) :: WL)) := gV_of k5_20 k5_21 k5_22 k1_7 k5_23
theorem mw_L_139 : GoodIn WL (wsV RL 139 RX5 yX5_firstError (Cond.code yX5_firstError cX5_firstError 1 (some .int) :: WL)) := gV_of k2_22 k2_23 k2_24 k1_1 k2_25
theorem mw_L_142 : GoodIn WL (wsV RL 142 RX6 yX6_firstError (Cond.code yX6_firstError cX6_firstError 1 (some .int) :: WL)) := gV_of k5_24 k5_25 k5_26 k1_7 k5_27
theorem mw_law_143 : GoodIn WL (va_wsS RL 143 yL_read (Cond.codeWith yL_read cL_read 3 (some .int) [(0, 8, 11, 13)] :: WL)) := gSW_of k3_212 k3_213 k1_0 k3_214
theorem hd_L_read : yL_read.cls ≠ "java/lang/invoke/MethodHandle" ∧ yL_read.cls ≠ "java/lang/invoke/VarHandle" ∧ (parseMethodDescriptor yL_read.desc).map (fun d => d.parameters.length) = some 2 := by decide +kernel
theorem mw_L_145 : GoodIn WL (wsV RL 145 RX6 yX6_read (Cond.code yX6_read cX6_read 2 (some .int) :: WL)) := gV_of k5_36 k5_37 k5_38 k1_7 k5_39
theorem mw_law_146 : GoodIn WL (va_wsS RL 146 yL_undo (Cond.codeWith yL_undo cL_undo 3 (some .int) [(0, 8, 11, 18)] :: WL)) := gSW_of k3_226 k3_227 k1_0 k3_228
theorem hd_L_undo : yL_undo.cls ≠ "java/lang/invoke/MethodHandle" ∧ yL_undo.cls ≠ "java/lang/invoke/VarHandle" ∧ (parseMethodDescriptor yL_undo.desc).map (fun d => d.parameters.length) = some 2 := by decide +kernel
theorem mw_L_148 : GoodIn WL (wsV RL 148 RX6 yX6_undo (Cond.code yX6_undo cX6_undo 2 (some .int) :: WL)) := gV_of k5_40 k5_41 k5_42 k1_7 k5_43
theorem mw_law_149 : GoodIn WL (va_wsS RL 149 yL_sign (Cond.codeWith yL_sign cL_sign 4 (some .int) [(0, 9, 12, 31)] :: WL)) := gSW_of k4_0 k4_1 k1_0 k4_2
theorem hd_L_sign : yL_sign.cls ≠ "java/lang/invoke/MethodHandle" ∧ yL_sign.cls ≠ "java/lang/invoke/VarHandle" ∧ (parseMethodDescriptor yL_sign.desc).map (fun d => d.parameters.length) = some 3 := by decide +kernel
theorem mw_L_151 : GoodIn WL (wsV RL 151 RX6 yX6_sign (Cond.code yX6_sign cX6_sign 2 (some .int) :: WL)) := gV_of k5_44 k5_45 k5_46 k1_7 k5_47
theorem mw_law_152 : GoodIn WL (va_wsS RL 152 yL_digit (Cond.codeWith yL_digit cL_digit 4 (some .int) [(0, 9, 12, 31)] :: WL)) := gSW_of k4_4 k4_5 k1_0 k4_6
theorem hd_L_digit : yL_digit.cls ≠ "java/lang/invoke/MethodHandle" ∧ yL_digit.cls ≠ "java/lang/invoke/VarHandle" ∧ (parseMethodDescriptor yL_digit.desc).map (fun d => d.parameters.length) = some 3 := by decide +kernel
theorem mw_L_154 : GoodIn WL (wsV RL 154 RX6 yX6_digit (Cond.code yX6_digit cX6_digit 2 (some .int) :: WL)) := gV_of k5_48 k5_49 k5_50 k1_7 k5_51
theorem mw_law_155 : GoodIn WL (va_wsS RL 155 yL_many (Cond.codeWith yL_many cL_many 4 (some .int) [(0, 9, 12, 13)] :: WL)) := gSW_of k4_8 k4_9 k1_0 k4_10
theorem hd_L_many : yL_many.cls ≠ "java/lang/invoke/MethodHandle" ∧ yL_many.cls ≠ "java/lang/invoke/VarHandle" ∧ (parseMethodDescriptor yL_many.desc).map (fun d => d.parameters.length) = some 3 := by decide +kernel
theorem mw_L_157 : GoodIn WL (wsV RL 157 RX6 yX6_many (Cond.code yX6_many cX6_many 2 (some .int) :: WL)) := gV_of k5_56 k5_57 k5_58 k1_7 k5_59
theorem mw_law_158 : GoodIn WL (va_wsS RL 158 yL_block (Cond.codeWith yL_block cL_block 5 (some .int) [(0, 10, 13, 13)] :: WL)) := gSW_of k4_12 k4_13 k1_0 k4_14
theorem hd_L_block : yL_block.cls ≠ "java/lang/invoke/MethodHandle" ∧ yL_block.cls ≠ "java/lang/invoke/VarHandle" ∧ (parseMethodDescriptor yL_block.desc).map (fun d => d.parameters.length) = some 4 := by decide +kernel
theorem mw_L_160 : GoodIn WL (wsV RL 160 RX6 yX6_block (Cond.code yX6_block cX6_block 3 (some .int) :: WL)) := gV_of k5_64 k5_65 k5_66 k1_7 k5_67
theorem mw_law_161 : GoodIn WL (va_wsS RL 161 yL_count (Cond.codeWith yL_count cL_count 4 (some .int) [(0, 9, 12, 13)] :: WL)) := gSW_of k4_16 k4_17 k1_0 k4_18
theorem hd_L_count : yL_count.cls ≠ "java/lang/invoke/MethodHandle" ∧ yL_count.cls ≠ "java/lang/invoke/VarHandle" ∧ (parseMethodDescriptor yL_count.desc).map (fun d => d.parameters.length) = some 3 := by decide +kernel
theorem mw_L_163 : GoodIn WL (wsV RL 163 RX6 yX6_count (Cond.code yX6_count cX6_count 2 (some .int) :: WL)) := gV_of k5_72 k5_73 k5_74 k1_7 k5_75
theorem mw_law_164 : GoodIn WL (va_wsS RL 164 yL_ifSwapped (Cond.codeWith yL_ifSwapped cL_ifSwapped 5 (some .int) [(0, 10, 13, 31)] :: WL)) := gSW_of k4_20 k4_21 k1_0 k4_22
theorem hd_L_ifSwapped : yL_ifSwapped.cls ≠ "java/lang/invoke/MethodHandle" ∧ yL_ifSwapped.cls ≠ "java/lang/invoke/VarHandle" ∧ (parseMethodDescriptor yL_ifSwapped.desc).map (fun d => d.parameters.length) = some 4 := by decide +kernel
theorem mw_L_166 : GoodIn WL (wsV RL 166 RX6 yX6_ifSwapped (Cond.code yX6_ifSwapped cX6_ifSwapped 3 (some .int) :: WL)) := gV_of k5_96 k5_97 k5_98 k1_7 k5_99
theorem mw_law_167 : GoodIn WL (va_wsS RL 167 yL_signOf (Cond.codeWith yL_signOf cL_signOf 5 (some .int) [(0, 10, 13, 31), (0, 10, 17, 13)] :: WL)) := gSW_of k4_24 k4_25 k1_0 k4_26
theorem hd_L_signOf : yL_signOf.cls ≠ "java/lang/invoke/MethodHandle" ∧ yL_signOf.cls ≠ "java/lang/invoke/VarHandle" ∧ (parseMethodDescriptor yL_signOf.desc).map (fun d => d.parameters.length) = some 4 := by decide +kernel
theorem mw_L_169 : GoodIn WL (wsV RL 169 RX6 yX6_signOf (Cond.code yX6_signOf cX6_signOf 3 (some .int) :: WL)) := gV_of k5_104 k5_105 k5_106 k1_7 k5_107
theorem mw_law_170 : GoodIn WL (va_wsS RL 170 yL_having (Cond.codeWith yL_having cL_having 7 (some .int) [(0, 14, 17, 31), (0, 14, 21, 13)] :: WL)) := gSW_of k4_28 k4_29 k1_0 k4_30
theorem hd_L_having : yL_having.cls ≠ "java/lang/invoke/MethodHandle" ∧ yL_having.cls ≠ "java/lang/invoke/VarHandle" ∧ (parseMethodDescriptor yL_having.desc).map (fun d => d.parameters.length) = some 6 := by decide +kernel
theorem mw_L_173 : GoodIn WL (wsV RL 173 RX6 yX6_having (Cond.code yX6_having cX6_having 6 (some .int) :: WL)) := gV_of k5_112 k5_113 k5_114 k1_7 k5_115
theorem mw_law_174 : GoodIn WL (va_wsS RL 174 yL_stepsTo (Cond.codeWith yL_stepsTo cL_stepsTo 4 (some .int) [(0, 9, 12, 13)] :: WL)) := gSW_of k4_32 k4_33 k1_0 k4_34
theorem hd_L_stepsTo : yL_stepsTo.cls ≠ "java/lang/invoke/MethodHandle" ∧ yL_stepsTo.cls ≠ "java/lang/invoke/VarHandle" ∧ (parseMethodDescriptor yL_stepsTo.desc).map (fun d => d.parameters.length) = some 3 := by decide +kernel
theorem mw_L_176 : GoodIn WL (wsV RL 176 RX6 yX6_stepsTo (Cond.code yX6_stepsTo cX6_stepsTo 2 (some .int) :: WL)) := gV_of k5_128 k5_129 k5_130 k1_7 k5_131
theorem mw_law_177 : GoodIn WL (va_wsS RL 177 yL_bestSwap (Cond.codeWith yL_bestSwap cL_bestSwap 4 (some .int) [(0, 9, 12, 13)] :: WL)) := gSW_of k4_36 k4_37 k1_0 k4_38
theorem hd_L_bestSwap : yL_bestSwap.cls ≠ "java/lang/invoke/MethodHandle" ∧ yL_bestSwap.cls ≠ "java/lang/invoke/VarHandle" ∧ (parseMethodDescriptor yL_bestSwap.desc).map (fun d => d.parameters.length) = some 3 := by decide +kernel
theorem mw_L_179 : GoodIn WL (wsV RL 179 RX6 yX6_bestSwap (Cond.code yX6_bestSwap cX6_bestSwap 2 (some .int) :: WL)) := gV_of k5_136 k5_137 k5_138 k1_7 k5_139
theorem mw_L_180 : GoodIn WL (wsV RL 180 RX5 yX5_share (Cond.code yX5_share cX5_share 2 (some .double) :: WL)) := gV_of k2_42 k2_43 k2_44 k1_1 k2_45
theorem mw_L_184 : GoodIn WL (wsV RL 184 RX6 yX6_share (Cond.code yX6_share cX6_share 1 (some .double) :: WL)) := gV_of k5_144 k5_145 k5_146 k1_7 k5_147
theorem mw_L_185 : GoodIn WL (wsV RL 185 RX5 yX5_digest (Cond.code yX5_digest cX5_digest 6 (some .long) :: WL)) := gV_of k2_46 k2_47 k2_48 k1_1 k2_49
theorem mw_L_189 : GoodIn WL (wsV RL 189 RX6 yX6_digest (Cond.code yX6_digest cX6_digest 2 (some .long) :: WL)) := gV_of k5_152 k5_153 k5_154 k1_7 k5_155
def Ok_goTo (Rel : XS → MS → Prop) (X : XS) (M : MS) (x1 : Int32) : Prop := ∃ (r : Int32) (M' : MS), G_X6_goTo M x1 = some (r, M') ∧ ((∃ X' : XS, G_X5_goTo X x1 = some (r, X') ∧ M'.2.2.1 = 0 ∧ Rel X' M') ∨ (∃ X' : XS, G_X5_goTo_T X x1 = some (1, X') ∧ M'.2.2.1 = 1 ∧ Rel X' M'))
def Ok_jump (Rel : XS → MS → Prop) (X : XS) (M : MS) (x1 : Int32) : Prop := ∃ (r : Int32) (M' : MS), G_X6_jump M x1 = some (r, M') ∧ ((∃ X' : XS, G_X5_jump X x1 = some (r, X') ∧ M'.2.2.1 = 0 ∧ Rel X' M') ∨ (∃ X' : XS, G_X5_jump_T X x1 = some (2, X') ∧ M'.2.2.1 = 1 ∧ Rel X' M'))
def Ok_next (Rel : XS → MS → Prop) (X : XS) (M : MS) : Prop := ∃ (r : Int32) (M' : MS) (X' : XS), G_X6_next M = some (r, M') ∧ G_X5_next X = some (r, X') ∧ Rel X' M'
def Ok_previous (Rel : XS → MS → Prop) (X : XS) (M : MS) : Prop := ∃ (r : Int32) (M' : MS) (X' : XS), G_X6_previous M = some (r, M') ∧ G_X5_previous X = some (r, X') ∧ Rel X' M'
def Ok_nextSmooth (Rel : XS → MS → Prop) (X : XS) (M : MS) : Prop := ∃ (r : Int32) (M' : MS), G_X6_nextSmooth M  = some (r, M') ∧ ((∃ X' : XS, G_X5_nextSmooth X  = some (r, X') ∧ M'.2.2.1 = 0 ∧ Rel X' M') ∨ (∃ X' : XS, G_X5_nextSmooth_T X  = some (2, X') ∧ M'.2.2.1 = 1 ∧ Rel X' M'))
def Ok_goToSmooth (Rel : XS → MS → Prop) (X : XS) (M : MS) (x1 : Int32) : Prop := ∃ (r : Int32) (M' : MS), G_X6_goToSmooth M x1 = some (r, M') ∧ ((∃ X' : XS, G_X5_goToSmooth X x1 = some (r, X') ∧ M'.2.2.1 = 0 ∧ Rel X' M') ∨ (∃ X' : XS, G_X5_goToSmooth_T X x1 = some (1, X') ∧ M'.2.2.1 = 1 ∧ Rel X' M'))
def Ok_swap (Rel : XS → MS → Prop) (X : XS) (M : MS) (x1 : Int32) (x2 : Int32) : Prop := ∃ (r : Int32) (M' : MS), G_X6_swap M x1 x2 = some (r, M') ∧ ((∃ X' : XS, G_X5_swap X x1 x2 = some (r, X') ∧ M'.2.2.1 = 0 ∧ Rel X' M') ∨ (∃ X' : XS, G_X5_swap_T X x1 x2 = some (3, X') ∧ M'.2.2.1 = 1 ∧ Rel X' M'))
def Ok_turn (Rel : XS → MS → Prop) (X : XS) (M : MS) (x1 : Int32) (x2 : Int32) : Prop := ∃ (r : Int32) (M' : MS), G_X6_turn M x1 x2 = some (r, M') ∧ ((∃ X' : XS, G_X5_turn X x1 x2 = some (r, X') ∧ M'.2.2.1 = 0 ∧ Rel X' M') ∨ (∃ X' : XS, G_X5_turn_T X x1 x2 = some (3, X') ∧ M'.2.2.1 = 1 ∧ Rel X' M') ∨ (∃ X' : XS, G_X5_turn_T X x1 x2 = some (1, X') ∧ M'.2.2.1 = 2 ∧ Rel X' M'))
def Ok_carry (Rel : XS → MS → Prop) (X : XS) (M : MS) (x1 : Int32) (x2 : Int32) : Prop := ∃ (r : Int32) (M' : MS), G_X6_carry M x1 x2 = some (r, M') ∧ ((∃ X' : XS, G_X5_carry X x1 x2 = some (r, X') ∧ M'.2.2.1 = 0 ∧ Rel X' M') ∨ (∃ X' : XS, G_X5_carry_T X x1 x2 = some (3, X') ∧ M'.2.2.1 = 1 ∧ Rel X' M') ∨ (∃ X' : XS, G_X5_carry_T X x1 x2 = some (1, X') ∧ M'.2.2.1 = 2 ∧ Rel X' M'))
def Ok_put (Rel : XS → MS → Prop) (X : XS) (M : MS) (x1 : Int32) (x2 : Int32) : Prop := ∃ (r : Int32) (M' : MS), G_X6_put M x1 x2 = some (r, M') ∧ ((∃ X' : XS, G_X5_put X x1 x2 = some (r, X') ∧ M'.2.2.1 = 0 ∧ Rel X' M') ∨ (∃ X' : XS, G_X5_put_T X x1 x2 = some (3, X') ∧ M'.2.2.1 = 1 ∧ Rel X' M') ∨ (∃ X' : XS, G_X5_put_T X x1 x2 = some (1, X') ∧ M'.2.2.1 = 2 ∧ Rel X' M') ∨ (∃ X' : XS, G_X5_put_T X x1 x2 = some (2, X') ∧ M'.2.2.1 = 3 ∧ Rel X' M'))
def Ok_take (Rel : XS → MS → Prop) (X : XS) (M : MS) (x1 : Int32) : Prop := ∃ (r : Int32) (M' : MS), G_X6_take M x1 = some (r, M') ∧ ((∃ X' : XS, G_X5_take X x1 = some (r, X') ∧ M'.2.2.1 = 0 ∧ Rel X' M') ∨ (∃ X' : XS, G_X5_take_T X x1 = some (3, X') ∧ M'.2.2.1 = 1 ∧ Rel X' M') ∨ (∃ X' : XS, G_X5_take_T X x1 = some (2, X') ∧ M'.2.2.1 = 2 ∧ Rel X' M'))
def Ok_append (Rel : XS → MS → Prop) (X : XS) (M : MS) (x1 : Int32) : Prop := ∃ (r : Int32) (M' : MS), G_X6_append M x1 = some (r, M') ∧ ((∃ X' : XS, G_X5_append X x1 = some (r, X') ∧ M'.2.2.1 = 0 ∧ Rel X' M') ∨ (∃ X' : XS, G_X5_append_T X x1 = some (1, X') ∧ M'.2.2.1 = 1 ∧ Rel X' M') ∨ (∃ X' : XS, G_X5_append_T X x1 = some (2, X') ∧ M'.2.2.1 = 2 ∧ Rel X' M'))
def Ok_clearBuffer (Rel : XS → MS → Prop) (X : XS) (M : MS) : Prop := ∃ (r : Int32) (M' : MS) (X' : XS), G_X6_clearBuffer M = some (r, M') ∧ G_X5_clearBuffer X = some (r, X') ∧ Rel X' M'
def Ok_firstError (Rel : XS → MS → Prop) (X : XS) (M : MS) : Prop := ∃ (r : Int32) (M' : MS) (X' : XS), G_X6_firstError M = some (r, M') ∧ G_X5_firstError X = some (r, X') ∧ Rel X' M'
def Ok_read (Rel : XS → MS → Prop) (X : XS) (M : MS) : Prop := ∃ (r : Int32) (M' : MS), G_X6_read M  = some (r, M') ∧ ((∃ X' : XS, G_X5_read X  = some (r, X') ∧ M'.2.2.1 = 0 ∧ Rel X' M') ∨ (∃ X' : XS, G_X5_read_T X  = some (1, X') ∧ M'.2.2.1 = 1 ∧ Rel X' M'))
def Ok_undo (Rel : XS → MS → Prop) (X : XS) (M : MS) : Prop := ∃ (r : Int32) (M' : MS), G_X6_undo M  = some (r, M') ∧ ((∃ X' : XS, G_X5_undo X  = some (r, X') ∧ M'.2.2.1 = 0 ∧ Rel X' M') ∨ (∃ X' : XS, G_X5_undo_T X  = some (2, X') ∧ M'.2.2.1 = 1 ∧ Rel X' M'))
def Ok_sign (Rel : XS → MS → Prop) (X : XS) (M : MS) (x1 : Int32) : Prop := ∃ (r : Int32) (M' : MS), G_X6_sign M x1 = some (r, M') ∧ ((∃ X' : XS, G_X5_sign X x1 = some (r, X') ∧ M'.2.2.1 = 0 ∧ Rel X' M') ∨ (∃ X' : XS, G_X5_sign_T X x1 = some (3, X') ∧ M'.2.2.1 = 1 ∧ Rel X' M'))
def Ok_digit (Rel : XS → MS → Prop) (X : XS) (M : MS) (x1 : Int32) : Prop := ∃ (r : Int32) (M' : MS), G_X6_digit M x1 = some (r, M') ∧ ((∃ X' : XS, G_X5_digit X x1 = some (r, X') ∧ M'.2.2.1 = 0 ∧ Rel X' M') ∨ (∃ X' : XS, G_X5_digit_T X x1 = some (3, X') ∧ M'.2.2.1 = 1 ∧ Rel X' M'))
def Ok_many (Rel : XS → MS → Prop) (X : XS) (M : MS) (x1 : Int32) : Prop := ∃ (r : Int32) (M' : MS), G_X6_many M x1 = some (r, M') ∧ ((∃ X' : XS, G_X5_many X x1 = some (r, X') ∧ M'.2.2.1 = 0 ∧ Rel X' M') ∨ (∃ X' : XS, G_X5_many_T X x1 = some (1, X') ∧ M'.2.2.1 = 1 ∧ Rel X' M'))
def Ok_block (Rel : XS → MS → Prop) (X : XS) (M : MS) (x1 : Int32) (x2 : Int32) : Prop := ∃ (r : Int32) (M' : MS), G_X6_block M x1 x2 = some (r, M') ∧ ((∃ X' : XS, G_X5_block X x1 x2 = some (r, X') ∧ M'.2.2.1 = 0 ∧ Rel X' M') ∨ (∃ X' : XS, G_X5_block_T X x1 x2 = some (1, X') ∧ M'.2.2.1 = 1 ∧ Rel X' M'))
def Ok_count (Rel : XS → MS → Prop) (X : XS) (M : MS) (x1 : Int32) : Prop := ∃ (r : Int32) (M' : MS), G_X6_count M x1 = some (r, M') ∧ ((∃ X' : XS, G_X5_count X x1 = some (r, X') ∧ M'.2.2.1 = 0 ∧ Rel X' M') ∨ (∃ X' : XS, G_X5_count_T X x1 = some (1, X') ∧ M'.2.2.1 = 1 ∧ Rel X' M'))
def Ok_ifSwapped (Rel : XS → MS → Prop) (X : XS) (M : MS) (x1 : Int32) (x2 : Int32) : Prop := ∃ (r : Int32) (M' : MS), G_X6_ifSwapped M x1 x2 = some (r, M') ∧ ((∃ X' : XS, G_X5_ifSwapped X x1 x2 = some (r, X') ∧ M'.2.2.1 = 0 ∧ Rel X' M') ∨ (∃ X' : XS, G_X5_ifSwapped_T X x1 x2 = some (3, X') ∧ M'.2.2.1 = 1 ∧ Rel X' M'))
def Ok_signOf (Rel : XS → MS → Prop) (X : XS) (M : MS) (x1 : Int32) (x2 : Int32) : Prop := ∃ (r : Int32) (M' : MS), G_X6_signOf M x1 x2 = some (r, M') ∧ ((∃ X' : XS, G_X5_signOf X x1 x2 = some (r, X') ∧ M'.2.2.1 = 0 ∧ Rel X' M') ∨ (∃ X' : XS, G_X5_signOf_T X x1 x2 = some (3, X') ∧ M'.2.2.1 = 1 ∧ Rel X' M') ∨ (∃ X' : XS, G_X5_signOf_T X x1 x2 = some (1, X') ∧ M'.2.2.1 = 2 ∧ Rel X' M'))
def Ok_having (Rel : XS → MS → Prop) (X : XS) (M : MS) (x1 : Int32) (x2 : Int32) (x3 : Int32) (x4 : Int32) : Prop := ∃ (r : Int32) (M' : MS), G_X6_having M x1 x2 x3 x4 = some (r, M') ∧ ((∃ X' : XS, G_X5_having X x1 x2 x3 x4 = some (r, X') ∧ M'.2.2.1 = 0 ∧ Rel X' M') ∨ (∃ X' : XS, G_X5_having_T X x1 x2 x3 x4 = some (3, X') ∧ M'.2.2.1 = 1 ∧ Rel X' M') ∨ (∃ X' : XS, G_X5_having_T X x1 x2 x3 x4 = some (1, X') ∧ M'.2.2.1 = 2 ∧ Rel X' M'))
def Ok_stepsTo (Rel : XS → MS → Prop) (X : XS) (M : MS) (x1 : Int32) : Prop := ∃ (r : Int32) (M' : MS), G_X6_stepsTo M x1 = some (r, M') ∧ ((∃ X' : XS, G_X5_stepsTo X x1 = some (r, X') ∧ M'.2.2.1 = 0 ∧ Rel X' M') ∨ (∃ X' : XS, G_X5_stepsTo_T X x1 = some (1, X') ∧ M'.2.2.1 = 1 ∧ Rel X' M'))
def Ok_bestSwap (Rel : XS → MS → Prop) (X : XS) (M : MS) (x1 : Int32) : Prop := ∃ (r : Int32) (M' : MS), G_X6_bestSwap M x1 = some (r, M') ∧ ((∃ X' : XS, G_X5_bestSwap X x1 = some (r, X') ∧ M'.2.2.1 = 0 ∧ Rel X' M') ∨ (∃ X' : XS, G_X5_bestSwap_T X x1 = some (1, X') ∧ M'.2.2.1 = 1 ∧ Rel X' M'))
def Ok_share (Rel : XS → MS → Prop) (X : XS) (M : MS) : Prop := ∃ (r : UInt64) (M' : MS) (X' : XS), G_X6_share M = some (r, M') ∧ G_X5_share X = some (r, X') ∧ Rel X' M'
def Ok_digest (Rel : XS → MS → Prop) (X : XS) (M : MS) : Prop := ∃ (r : Int64) (M' : MS) (X' : XS), G_X6_digest M = some (r, M') ∧ G_X5_digest X = some (r, X') ∧ Rel X' M'
