/-! throws: where a method of the class throws, what it throws, and what stands behind it -/
def kNm : List String := ["java/lang/RuntimeException", "java/lang/Exception"]
def kX (k : Nat) : String := match k with
  | 1 => "java/lang/IllegalArgumentException"
  | 2 => "java/lang/IllegalStateException"
  | _ => "java/lang/IndexOutOfBoundsException"
def postX (D : va_G) (k : Nat) (w1 wc : va_W) (sz : Nat) : String → State → State → Prop := vx_X (S := Unit) (fun _ => True) (fun E _ t => E = kX k ∧ va_P D vwCl w1 t.heap) (va_A wc sz)
def noQ : Array Value → State → Outcome → State → Prop := fun _ _ _ _ => False
/-- the words of a throw of the class X at the ctor's link ic -/
def TX (ik ic : Nat) (X : String) : Prop := Cond.classLink RX5 ik X ∈ WL ∧ Cond.initialized X ∈ WL ∧ (∀ w ∈ (vx_atS RX5 ic X kNm).filter goodWord, w ∈ WL) ∧ (∀ w ∈ (vx_atS RX5 ic X kNm).filter (fun w => !goodWord w), w ∈ Cond.castable X X :: kS_decl.map Cond.declares) ∧ (∀ w ∈ Cond.classLink RX5 ik X :: Cond.initialized X :: vx_atS RX5 ic X kNm, vx_ot w = true) ∧ X ∈ kS_exs ∧ Bundle.fit X = true
theorem TX_in {L : List Cond} (h : ∀ w ∈ L.filter goodWord, w ∈ lw_tbl) : ∀ w ∈ L.filter goodWord, w ∈ WL := fun w hw => List.mem_filter.mpr ⟨h w hw, (List.mem_filter.mp hw).2⟩
theorem TX_1 : TX 97 101 (kX 1) := ⟨k2_58, k1_11, TX_in (by decide +kernel), by decide +kernel, by decide +kernel, by decide +kernel, by decide +kernel⟩
theorem TX_2 : TX 69 73 (kX 2) := ⟨k3_108, k1_12, TX_in (by decide +kernel), by decide +kernel, by decide +kernel, by decide +kernel, by decide +kernel⟩
theorem TX_3 : TX 122 126 (kX 3) := ⟨k3_9, k1_13, TX_in (by decide +kernel), by decide +kernel, by decide +kernel, by decide +kernel, by decide +kernel⟩
/-- the rows of a throw: new; dup; ldc; invokespecial; athrow -/
def TR (cc : ByteArray) (pc ik ic is : Nat) : Prop := decode cc pc = .ok (.new ik, 3) ∧ decode cc (pc + 3) = .ok (.dup, 1) ∧ ((decode cc (pc + 4) = .ok (.ldc is, 2) ∧ decode cc (pc + 6) = .ok (.invokespecial ic, 3) ∧ decode cc (pc + 9) = .ok (.athrow, 1)) ∨ (decode cc (pc + 4) = .ok (.ldc_w is, 3) ∧ decode cc (pc + 7) = .ok (.invokespecial ic, 3) ∧ decode cc (pc + 10) = .ok (.athrow, 1)))
section KT
variable {p : Program} {l : Launch} {e : Env} {R : Room} {s : State} {m : MethodId} {args : Array Value} {below : List Frame} {meth : Method} {c : Code} {H : Heap} {locs : List Loc} {Q : State → Prop}
variable {cc bytes : ByteArray} {nL maxL n index : Nat} {ret : Option FieldType} {own C : String} {y : MethodName} {rm : Room} {b : Addr} {As rest : List Value} {pc : Nat} {ls : Array Slot} {st0 : List Value}
variable {D : va_G} {tys : List (ClassId × FieldType)} {A : Nat → Prop} {ws wc w1 ws' : va_W} {k0 n0 : Nat}
theorem P_kept {H1 : Heap} (hP : va_P D vwCl ws H) (hk : ∀ q : Nat, q < H.size → H1[q]? = H[q]?) : va_P D vwCl ws H1 := fun k q hq => (hP k q hq).kept (hk q.1 ((hP k q hq).lt))
theorem kThrow {k ik ic is : Nat} {tx : String} (hl0 : l.stackTraces = false) (hT : TX ik ic (kX k)) (hx : p.tables.exec = Jvm.exec) (hb : c.code = cc) (hown : s.vm.findClass RX5 = some m.cls) (hts : ∀ w ∈ WL, w.before args s = true) (hG : GI A s s.heap) (hA : A = va_A wc s.heap.size) (hP : va_P D vwCl w1 H) (hS : va_S A s.heap H locs) (hsize : ls.size = c.maxLocals) (hstr : (is, tx) ∈ kS_strs) (hno : ∀ x ∈ c.exceptionTable.toList, False) (hlocks : meth.locks = false)
    (hR1 : 6 ≤ R.frames) (hR2 : (rest.map fun v => v.category).sum + 82 ≤ R.locals) (hR3 : 1 ≤ R.cells) (hR4 : 6 ≤ R.slots) (hd : TR cc pc ik ic is) :
    W p l e R s m args below meth c H locs 0 0 (vx_MQ below noQ (postX D k w1 wc s.heap.size) args s 1 6 (va_A wc s.heap.size)) (F0 m pc ls rest) := by
  subst hA
  obtain ⟨h1, h2, h3, h4, h5, h6, h7⟩ := hT
  obtain ⟨-, hU, hN, hstrs, hcst, -, hdc, -⟩ := hG
  obtain ⟨sa, hsa⟩ := hstrs _ hstr
  have hat : ∀ w ∈ vx_atS RX5 ic (kX k) kNm, w.before args s = true := vx_hat (B := Cond.castable (kX k) (kX k) :: kS_decl.map Cond.declares) (fun w hw => hts w (h3 w hw)) h4 (vx_c (va_Nw.use rfl (hcst _ h6)) (fun w hw => by
    obtain ⟨x, hx, rfl⟩ := List.mem_map.mp hw
    exact va_Nw.use rfl (hdc x hx)))
  have hn : ∀ n ∈ kNm, Bundle.fit n = true := by decide +kernel
  have hxx : ∀ t : State, s.vm.Alike t.vm → H.size ≤ t.heap.size → (∀ q : Nat, q < H.size → t.heap[q]? = H[q]?) → postX D k w1 wc s.heap.size (kX k) s t := fun t _ hz hk => ⟨(), trivial, ⟨rfl, P_kept hP hk⟩, Nat.le_trans hS.1 hz, fun q hq hA => (hk q (Nat.lt_of_lt_of_le hq hS.1)).trans (hS.2.1 q hq hA)⟩
  obtain ⟨d0, d3, ⟨d4, d6, d9⟩ | ⟨d4, d6, d9⟩⟩ := hd
  · exact vx_throwS (names := kNm) hx hb hl0 hown h7 hn (hts _ h1) (hts _ h2) hsa hat h5 hU hN hS hsize d0 d3 d4 d6 d9 (fun x hx => (hno x hx).elim) (Nat.lt_of_lt_of_le (by decide) hR1) hR2 (by omega) (by omega) hlocks hxx hS.2.2 (by omega) (by omega)
  · exact vx_throwSW (names := kNm) hx hb hl0 hown h7 hn (hts _ h1) (hts _ h2) hsa hat h5 hU hN hS hsize d0 d3 d4 d6 d9 (fun x hx => (hno x hx).elim) (Nat.lt_of_lt_of_le (by decide) hR1) hR2 (by omega) (by omega) hlocks hxx hS.2.2 (by omega) (by omega)
theorem kThr {k : Nat} (hS : va_S A s.heap H locs) (hA : ∀ q, s.heap.size ≤ q → A q) (hP : va_P D vwCl ws H) (hD : va_D A ws) (isC : List Nat) (hC : isC.map (fun i => ws[i]?) = wc.map some) (hf : w1.map (fun q => q.1) = wc.map (fun q => q.1)) (hw : putAll ws isC w1 = ws') (hf2 : ws'.map (fun q => q.1) = ws.map (fun q => q.1)) {a : Array Value}
    (hr : vx_Run p l e R s m args below meth c H locs k0 n0 1 6 (F0 m pc ls st0) rest (noQ a) (postX D k w1 wc H.size) (va_A wc H.size))
    (kx : ∀ (H1 : Heap) (locs1 : List Loc) (q : Addr) (ce : Cell), va_P D vwCl ws' H1 → va_D A ws' → va_S A s.heap H1 locs1 → H1[q]? = some ce → ce.vm = .none → s.vm.findClass (kX k) = some ce.cls → vx_W p l e R s m args below meth c H1 locs1 (k0 + 1) (n0 + 6) Q (F0 m pc ls rest) q) : W p l e R s m args below meth c H locs k0 n0 Q (F0 m pc ls st0) := by
  have hF := va_free hD hS hA isC hC
  intro T hT X
  rcases hr T hT X with ⟨v, st₀, t, T', L, h0, X', hL, e1, e2, hno, st⟩ | ⟨q, st₀, t, T', L, E, ce, h0, X', hL, e1, e2, ⟨u, hp, ⟨hE, hb⟩, hFr⟩, hce, hcv, hcl, st⟩
  · exact hno.elim
  · subst hE
    obtain ⟨k1, k2, k3⟩ := vx_keep h0 e1 hS (fun q _ h => hF q h) hF hL hFr
    obtain ⟨t2, a1, b1⟩ := kx T'.heap (locs ++ L) q ce (P_after hP hD isC hC hf hw (by rw [e1]; exact hb) k2) (D_fst hD hf2) k3 (by rw [e1]; exact hce) hcv hcl T' rfl X'
    exact ⟨t2, st.trans a1, b1⟩
theorem kVT {k : Nat} (S : CallFix p m c cc nL s args WL own) (hM : vx_Met l y (Cond.code y bytes maxL ret :: WL) rm (preM D tys wc H.size (.ref b :: As)) noQ (postX D k w1 wc H.size) 1 6 (va_A wc H.size)) (cw : CallW R s args own C index y bytes maxL ret (Cond.code y bytes maxL ret :: WL) rm 1 6 n)
    (hS : va_S A s.heap H locs) (hA : ∀ q, s.heap.size ≤ q → A q) (hG : GI A s s.heap) (hK : va_K D vwCl tys s) (hP : va_P D vwCl ws H) (hD : va_D A ws) (isC : List Nat) (hC : isC.map (fun i => ws[i]?) = wc.map some) (hn : va_nd isC = true) (hf : w1.map (fun q => q.1) = wc.map (fun q => q.1)) (hw : putAll ws isC w1 = ws') (hf2 : ws'.map (fun q => q.1) = ws.map (fun q => q.1)) (hfr : k0 + 1 ≤ R.cells ∧ n0 + 6 ≤ R.slots) (ci q0 : Nat) {q : vw_C} {fs : List Value} (hci : vwCl[ci]? = some q) (hrc : ws[q0]? = some (b, .inr (ci, fs))) (hqC : q.1 = C) (hAs : As.length = n) (hsize : ls.size = nL) (hstack : st0 = As.reverse ++ .ref b :: rest) (hroom : (rest.map fun v => v.category).sum ≤ 8) (hdg : decode cc pc = .ok (.invokevirtual index, 3))
    (kx : ∀ (H1 : Heap) (locs1 : List Loc) (q : Addr) (ce : Cell), va_P D vwCl ws' H1 → va_D A ws' → va_S A s.heap H1 locs1 → H1[q]? = some ce → ce.vm = .none → s.vm.findClass (kX k) = some ce.cls → vx_W p l e R s m args below meth c H1 locs1 (k0 + 1) (n0 + 6) Q (F0 m pc ls rest) q) : W p l e R s m args below meth c H locs k0 n0 Q (F0 m pc ls st0) := by
  subst hqC
  have hp := preV_of (As := .ref b :: As) (ci := 0) (q0 := 0) (q := q) (fs := fs) hK hP hD hS hA hG isC hC hn
  exact kThr hS hA hP hD isC hC hf hw hf2 (vx_runV S hM cw ⟨hp.1, va_recv hK hP hci hrc, hp.2⟩ rfl hAs hsize hstack (lv_room hroom) hdg hfr) kx
theorem kST {k : Nat} (S : CallFix p m c cc nL s args WL own) (hM : vx_Met l y (Cond.code y bytes maxL ret :: WL) rm (preM D tys wc H.size As) noQ (postX D k w1 wc H.size) 1 6 (va_A wc H.size)) (cw : CallB R s args own index y bytes maxL ret (Cond.code y bytes maxL ret :: WL) rm 1 6 n ∧ (Cond.static y).before args s = true)
    (hS : va_S A s.heap H locs) (hA : ∀ q, s.heap.size ≤ q → A q) (hG : GI A s s.heap) (hK : va_K D vwCl tys s) (hP : va_P D vwCl ws H) (hD : va_D A ws) (isC : List Nat) (hC : isC.map (fun i => ws[i]?) = wc.map some) (hn : va_nd isC = true) (hf : w1.map (fun q => q.1) = wc.map (fun q => q.1)) (hw : putAll ws isC w1 = ws') (hf2 : ws'.map (fun q => q.1) = ws.map (fun q => q.1)) (hfr : k0 + 1 ≤ R.cells ∧ n0 + 6 ≤ R.slots) (hAs : As.length = n) (hsize : ls.size = nL) (hstack : st0 = As.reverse ++ rest) (hroom : (rest.map fun v => v.category).sum ≤ 8) (hdg : decode cc pc = .ok (.invokestatic index, 3))
    (kx : ∀ (H1 : Heap) (locs1 : List Loc) (q : Addr) (ce : Cell), va_P D vwCl ws' H1 → va_D A ws' → va_S A s.heap H1 locs1 → H1[q]? = some ce → ce.vm = .none → s.vm.findClass (kX k) = some ce.cls → vx_W p l e R s m args below meth c H1 locs1 (k0 + 1) (n0 + 6) Q (F0 m pc ls rest) q) : W p l e R s m args below meth c H locs k0 n0 Q (F0 m pc ls st0) := by
  have hp := preV_of (As := As) (ci := 0) (q0 := 0) (q := (RX0, TX0, 0)) (fs := []) hK hP hD hS hA hG isC hC hn
  exact kThr hS hA hP hD isC hC hf hw hf2 (vx_runS S hM cw ⟨hp.1, hp.2⟩ rfl hAs hsize hstack (lv_room hroom) hdg hfr) kx
end KT
section KTM
variable {l : Launch} {y : MethodName} {cc : ByteArray} {maxL : Nat} {rm : Room} {D : va_G} {tys : List (ClassId × FieldType)} {wc w1 : va_W} {sz : Nat} {av : List Value} {k : Nat} {ret : Option FieldType}
theorem mofT (hl0 : l.stackTraces = false) (hyc : y.cls = RX5) (hR1 : 6 ≤ rm.frames) (hR2 : 90 ≤ rm.locals) (hR3 : 1 ≤ rm.cells) (hR4 : 6 ≤ rm.slots) (hy : plainName y.cls = true) (hlen : (lg_sl av).length ≤ maxL)
    (body : ∀ (p : Program) (e : Env) (s : State) (m : MethodId) (args : Array Value) (below : List Frame) (meth : Method) (c : Code) (Q : State → Prop) (A : Nat → Prop) (ls : Array Slot), p.tables.exec = Jvm.exec → c.code = cc → c.maxLocals = maxL → s.vm.findClass y.cls = some m.cls → (∀ w ∈ WL, w.before args s = true) → va_K D vwCl tys s → va_P D vwCl wc s.heap → va_D A wc → va_S A s.heap s.heap [] → (∀ q, s.heap.size ≤ q → A q) → GI A s s.heap → lv_has ls maxL (lv_args 0 av) →
      (∀ (H : Heap) (locs : List Loc) (ls : Array Slot) (pc : Nat) (rest : List Value) (q : Addr) (ce : Cell) (k1 : Nat) (ws : va_W), va_P D vwCl ws H → va_S A s.heap H locs → ws = w1 → k1 = k → H[q]? = some ce → ce.vm = .none → s.vm.findClass (kX k1) = some ce.cls → vx_W p l e rm s m args below meth c H locs 1 6 Q (F0 m pc ls rest) q) →
      (∀ (H : Heap) (locs : List Loc) (ls : Array Slot) (pc : Nat) (ik ic is : Nat) (tx : String) (k1 : Nat) (ws : va_W), va_P D vwCl ws H → va_S A s.heap H locs → ws = w1 → k1 = k → TX ik ic (kX k1) → ls.size = maxL → (is, tx) ∈ kS_strs → TR cc pc ik ic is → W p l e rm s m args below meth c H locs 0 0 Q (F0 m pc ls [])) →
      s.heap.size = sz → W p l e rm s m args below meth c s.heap [] 0 0 Q (F0 m 0 ls [])) :
    vx_Met l y (Cond.code y cc maxL ret :: WL) rm (preM D tys wc sz av) noQ (postX D k w1 wc sz) 1 6 (va_A wc sz) := by
  refine vx_ofW (cc := cc) (maxL := maxL) (ret := ret) hy rfl ?_
  intro p e s m args below meth c s₁ B hml hno hv
  obtain ⟨rfl, hsz, hP, hK, hD0, hG⟩ := hv
  have hx := B.exec
  have hb := B.bytes
  have hts0 := atoms_spec (ws := Cond.code y cc maxL ret :: WL) B.pre
  have hts : ∀ w ∈ WL, w.before av.toArray s = true := fun w h => hts0 w (List.mem_cons_of_mem _ h)
  have hown : s.vm.findClass y.cls = some m.cls := findClass_of_methodNamed B.named
  have hlocks := B.notSynchronized
  subst hsz
  have hD := hD0.self (sz := s.heap.size)
  have hl := lv_entry av (n := maxL) hlen
  rw [lg_entry_eq]
  refine body p e s m av.toArray below meth c _ (va_A wc s.heap.size) _ hx hb hml hown hts hK hP hD va_S.rf (fun q h => Or.inr h) hG hl (fun H locs ls pc rest q ce k1 ws hP2 hS2 hws hk hce hcv hcl => ?_) (fun H locs ls pc ik ic is tx k1 ws hP2 hS2 hws hk hT hz hstr hd => ?_) rfl
  · subst hws; subst hk
    exact vx_out (E := kX k1) (fun x hx => (hno x hx).elim) hlocks hce hcv hcl (fun t ht hW => ⟨(), trivial, ⟨rfl, by rw [ht]; exact hP2⟩, hS2.F ht⟩) hS2.2.2 (Nat.le_refl 1) (Nat.le_refl 6)
  · subst hws; subst hk
    exact kThrow hl0 hT hx hb (hyc ▸ hown) hts hG rfl hP2 hS2 (hz.trans hml.symm) hstr hno hlocks hR1 (Nat.le_trans (by decide) hR2) hR3 hR4 hd
end KTM
