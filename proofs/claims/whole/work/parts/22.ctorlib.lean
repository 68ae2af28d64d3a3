def postCt {S : Type} (D : va_G) (W1 : S → va_W) (wc : va_W) (sz : Nat) : Array Value → State → Outcome → State → Prop := va_Qv (S := S) (fun _ => True) (fun u t => va_P D vwCl (W1 u) t.heap ∧ va_D (va_A wc sz) (W1 u)) (va_A wc sz)
section KN
variable {p : Program} {l : Launch} {e : Env} {R : Room} {s : State} {m : MethodId} {args : Array Value} {below : List Frame} {meth : Method} {c : Code} {H : Heap} {locs : List Loc} {Q : State → Prop}
variable {cc bytes : ByteArray} {nL maxL n index : Nat} {ret : Option FieldType} {own host C : String} {y : MethodName} {rm : Room} {b : Addr} {As rest : List Value} {pc : Nat} {ls : Array Slot} {st0 : List Value}
variable {D : va_G} {tys : List (ClassId × FieldType)} {A : Nat → Prop} {ws wc wr : va_W} {k0 n0 mc ms : Nat} {cI : ClassId}
theorem kNewa (hx : p.tables.exec = Jvm.exec) (hb : c.code = cc) (hts : ∀ w ∈ WL, w.before args s = true) (hK : va_K D vwCl tys s) (t0 : Nat) (ht : tys[t0]? = some (cI, .int)) (hP : va_P D vwCl ws H) (hD : va_D A ws) (hS : va_S A s.heap H locs) (hA : ∀ q, s.heap.size ≤ q → A q) {z : Int32} {N : Nat} (hn : ¬ z < 0) (hN : z.toNatClampNeg = N) (hbytes : N * componentBytes .int ≤ 536870912) (hcells : k0 + 1 ≤ R.cells) (hslots : n0 + N ≤ R.slots) (hdg : decode cc pc = .ok (.newarray .int, 2))
    (kk : ∀ (q : Nat) (H1 : Heap), va_P D vwCl (ws ++ [(q, .inl (cI, N, .inl (fun _ => 0)))]) H1 → va_D A (ws ++ [(q, .inl (cI, N, .inl (fun _ => 0)))]) → va_S A s.heap H1 locs → W p l e R s m args below meth c H1 locs (k0 + 1) (n0 + N) Q (F0 m (pc + 2) ls (.ref q :: rest))) : W p l e R s m args below meth c H locs k0 n0 Q (F0 m pc ls (.int z :: rest)) := by
  refine va_newa (atype := .int) hx hb (hts (.arrayClass .int) k1_36) (ty := .int) rfl hK hP hD hS hA (a0 := (N, .inl (fun _ => 0))) (fun _ => rfl) hn hN hbytes hcells hslots hdg (fun q cA H1 hK1 hP1 hD1 hS1 => ?_)
  have h1 : s.vm.findClass ("[" ++ FieldType.int.toString) = some cA := (hK1.2 tys.length (cA, .int) (by simp)).2
  have h2 : s.vm.findClass ("[" ++ FieldType.int.toString) = some cI := (hK.2 t0 _ ht).2
  have h3 : cA = cI := Option.some.inj (h1.symm.trans h2)
  subst h3
  exact kk q H1 hP1 hD1 hS1
theorem kCtor {S : Type} {W1 : S → va_W} {a : Array Value} (hS : va_S A s.heap H locs) (hA : ∀ q, s.heap.size ≤ q → A q) (hP : va_P D vwCl ws H) (hD : va_D A ws) (isC isR : List Nat) (hC : isC.map (fun i => ws[i]?) = wc.map some) (hR : isR.map (fun i => ws[i]?) = wr.map some) (hn : va_nd isR = true) (hdis : ∀ i ∈ isR, i ∉ isC)
    (hr : va_Run p l e R s m args below meth c H locs k0 n0 mc ms (F0 m pc ls st0) rest (postCt D W1 wc H.size a) (va_A wc H.size))
    (kk : ∀ (u : S) (H1 : Heap) (locs1 : List Loc), va_P D vwCl (wr ++ W1 u) H1 → va_D A (wr ++ W1 u) → va_S A s.heap H1 locs1 → W p l e R s m args below meth c H1 locs1 (k0 + mc) (n0 + ms) Q (F0 m (pc + 3) ls rest)) : W p l e R s m args below meth c H locs k0 n0 Q (F0 m pc ls st0) := by
  have hF := va_free hD hS hA isC hC
  refine va_callv hr hS (fun q _ h => hF q h) hF (fun u t H1 locs1 ht hvm hw2 hB hz hk hS1 => ?_)
  obtain ⟨hP1, hD1⟩ := hB
  rw [ht] at hP1
  obtain ⟨hP2, hD2⟩ := va_join hP hD isC isR hC hR hn hdis hk hF hP1 hD1
  exact kk u H1 locs1 hP2 hD2 hS1
theorem kIN {S : Type} {W1 : S → va_W} (Sf : CallFix p m c cc nL s args WL own) (hM : Met l y (Cond.code y bytes maxL none :: WL) rm (preM D tys wc H.size [.ref b]) (postCt D W1 wc H.size) mc ms (va_A wc H.size)) (cw : va_CN R s args own index y host bytes maxL none (Cond.code y bytes maxL none :: WL) rm mc ms 0 ∧ y.name = "<init>" ∧ (Cond.instanceMethod y).before args s = true)
    (hS : va_S A s.heap H locs) (hA : ∀ q, s.heap.size ≤ q → A q) (hG : GI A s s.heap) (hK : va_K D vwCl tys s) (hP : va_P D vwCl ws H) (hD : va_D A ws) (isC isR : List Nat) (hC : isC.map (fun i => ws[i]?) = wc.map some) (hnC : va_nd isC = true) (hR : isR.map (fun i => ws[i]?) = wr.map some) (hn : va_nd isR = true) (hdis : ∀ i ∈ isR, i ∉ isC) (hfr : k0 + mc ≤ R.cells ∧ n0 + ms ≤ R.slots) (hsize : ls.size = nL) (hstack : st0 = .ref b :: rest) (hroom : (rest.map fun v => v.category).sum ≤ 8) (hdg : decode cc pc = .ok (.invokespecial index, 3))
    (kk : ∀ (u : S) (H1 : Heap) (locs1 : List Loc), va_P D vwCl (wr ++ W1 u) H1 → va_D A (wr ++ W1 u) → va_S A s.heap H1 locs1 → W p l e R s m args below meth c H1 locs1 (k0 + mc) (n0 + ms) Q (F0 m (pc + 3) ls rest)) : W p l e R s m args below meth c H locs k0 n0 Q (F0 m pc ls st0) := by
  have hp := preV_of (As := [.ref b]) (ci := 0) (q0 := 0) (q := (RX0, TX0, 0)) (fs := []) hK hP hD hS hA hG isC hC hnC
  exact kCtor hS hA hP hD isC isR hC hR hn hdis (va_runIN (As := []) Sf hM cw ⟨hp.1, hp.2⟩ rfl rfl hsize hstack (lv_room hroom) hdg hfr) kk
theorem kII {S : Type} {W1 : S → va_W} (Sf : CallFix p m c cc nL s args WL own) (hM : Met l y (Cond.code y bytes maxL none :: WL) rm (preM D tys wc H.size [.ref b]) (postCt D W1 wc H.size) mc ms (va_A wc H.size)) (cw : CallB R s args own index y bytes maxL none (Cond.code y bytes maxL none :: WL) rm mc ms 0 ∧ y.name = "<init>" ∧ (Cond.instanceMethod y).before args s = true)
    (hS : va_S A s.heap H locs) (hA : ∀ q, s.heap.size ≤ q → A q) (hG : GI A s s.heap) (hK : va_K D vwCl tys s) (hP : va_P D vwCl ws H) (hD : va_D A ws) (isC isR : List Nat) (hC : isC.map (fun i => ws[i]?) = wc.map some) (hnC : va_nd isC = true) (hR : isR.map (fun i => ws[i]?) = wr.map some) (hn : va_nd isR = true) (hdis : ∀ i ∈ isR, i ∉ isC) (hfr : k0 + mc ≤ R.cells ∧ n0 + ms ≤ R.slots) (hsize : ls.size = nL) (hstack : st0 = .ref b :: rest) (hroom : (rest.map fun v => v.category).sum ≤ 8) (hdg : decode cc pc = .ok (.invokespecial index, 3))
    (kk : ∀ (u : S) (H1 : Heap) (locs1 : List Loc), va_P D vwCl (wr ++ W1 u) H1 → va_D A (wr ++ W1 u) → va_S A s.heap H1 locs1 → W p l e R s m args below meth c H1 locs1 (k0 + mc) (n0 + ms) Q (F0 m (pc + 3) ls rest)) : W p l e R s m args below meth c H locs k0 n0 Q (F0 m pc ls st0) := by
  have hp := preV_of (As := [.ref b]) (ci := 0) (q0 := 0) (q := (RX0, TX0, 0)) (fs := []) hK hP hD hS hA hG isC hC hnC
  exact kCtor hS hA hP hD isC isR hC hR hn hdis (va_runI (As := []) Sf hM cw ⟨hp.1, hp.2⟩ rfl rfl hsize hstack (lv_room hroom) hdg hfr) kk
end KN
section KNM
variable {l : Launch} {y : MethodName} {cc : ByteArray} {maxL : Nat} {rm : Room} {D : va_G} {tys : List (ClassId × FieldType)} {wc : va_W} {sz : Nat} {av : List Value} {mc ms : Nat}
theorem mofC {S : Type} {W1 : S → va_W} (hy : plainName y.cls = true) (hyn : y.name = "<init>") (hlen : (lg_sl av).length ≤ maxL)
    (body : ∀ (p : Program) (e : Env) (s : State) (m : MethodId) (args : Array Value) (below : List Frame) (meth : Method) (c : Code) (Q : State → Prop) (A : Nat → Prop) (ls : Array Slot), p.tables.exec = Jvm.exec → c.code = cc → c.maxLocals = maxL → s.vm.findClass y.cls = some m.cls → (∀ w ∈ WL, w.before args s = true) → va_K D vwCl tys s → va_P D vwCl wc s.heap → va_D A wc → va_S A s.heap s.heap [] → (∀ q, s.heap.size ≤ q → A q) → GI A s s.heap → lv_has ls maxL (lv_args 0 av) → meth.name = "<init>" →
      (∀ (H : Heap) (locs : List Loc) (ls : Array Slot) (pc : Nat) (u : S), va_P D vwCl (W1 u) H → va_D A (W1 u) → va_S A s.heap H locs → decode cc pc = .ok (.return_, 1) → W p l e rm s m args below meth c H locs mc ms Q (F0 m pc ls [])) → s.heap.size = sz → W p l e rm s m args below meth c s.heap [] 0 0 Q (F0 m 0 ls [])) :
    Met l y (Cond.code y cc maxL none :: WL) rm (preM D tys wc sz av) (postCt D W1 wc sz) mc ms (va_A wc sz) := by
  refine Met.ofW (cc := cc) (maxL := maxL) (ret := none) hy rfl ?_
  intro p e s m args below meth c s₁ B hml hv
  obtain ⟨rfl, hsz, hP, hK, hD0, hG⟩ := hv
  have hx := B.exec
  have hb := B.bytes
  have hr := B.returns
  have hts := atoms_spec (ws := Cond.code y cc maxL none :: WL) B.pre
  have hown : s.vm.findClass y.cls = some m.cls := findClass_of_methodNamed B.named
  have hlocks := B.notSynchronized
  have hin : meth.name = "<init>" := (name_of_methodNamed B.named B.method).1.trans hyn
  subst hsz
  have hD := hD0.self (sz := s.heap.size)
  have hl := lv_entry av (n := maxL) hlen
  rw [lg_entry_eq]
  refine body p e s m av.toArray below meth c _ (va_A wc s.heap.size) _ hx hb hml hown (fun w h => hts w (List.mem_cons_of_mem _ h)) hK hP hD va_S.rf (fun q h => Or.inr h) hG hl hin (fun H locs ls pc u hP2 hD2 hS2 hd => ?_) rfl
  exact W.vret hx hb hr (fun t ht hW => ⟨⟨u, rfl, trivial, by show va_P D vwCl (W1 u) t.heap ∧ _; rw [ht]; exact ⟨hP2, hD2⟩⟩, hS2.F ht⟩) hS2.2.2 hd
end KNM
