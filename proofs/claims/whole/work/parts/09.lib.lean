/-! the kit of this claim: one invariant of the statics, one form of contract, calls that keep the list of cells in its order -/
def kS_strs : List (Nat × String) := [(275, "an argument is out of range"), (124, "there is no such place"), (71, "there is no such rank"), (89, "there is no smooth one behind this one"), (99, "there is no such smooth rank"), (130, "there are as many signs as there may be"), (135, "it is the only sign"), (144, "the buffer is full"), (153, "the buffer is not a complete arrangement"), (162, "there is no saved state")]
def kS_exs : List String := ["java/lang/IllegalArgumentException", "java/lang/IllegalStateException", "java/lang/IndexOutOfBoundsException"]
def kS_nc : List (String × String) := [("java/lang/IllegalArgumentException", "java/lang/IndexOutOfBoundsException"), ("java/lang/IllegalStateException", "java/lang/IndexOutOfBoundsException"), ("java/lang/IllegalStateException", "java/lang/IllegalArgumentException")]
def kS_decl : List MethodName := [⟨"java/lang/RuntimeException", "<init>", "(Ljava/lang/String;)V"⟩, ⟨"java/lang/Exception", "<init>", "(Ljava/lang/String;)V"⟩, ⟨"java/lang/Throwable", "<init>", "(Ljava/lang/String;)V"⟩]
def kS_nest : List (Nat × MethodName) := [(9, yX1_init), (24, yX0_init), (31, yX3_init), (38, yX4_init), (45, yX2_init)]
def kF (n : Nat) : Int32 := match n with
  | 0 => 1 | 1 => 1 | 2 => 2 | 3 => 6 | 4 => 24 | 5 => 120 | 6 => 720 | 7 => 5040 | 8 => 40320 | 9 => 362880 | 10 => 3628800 | 11 => 39916800 | _ => 0
/-- what stands outside of all that a call may write: the static table, the sentinels of Throwable, the texts -/
def GI (A : Nat → Prop) (U : State) (H : Heap) : Prop :=
  (∃ ft : Nat, va_Z "SignRanks$Bag" "FACTORIALS" "[I" (.ref ft) A U H ∧ va_T .int ft 12 (fun j => .int (kF j)) A U H) ∧
  vx_Zq Bundle.tN "UNASSIGNED_STACK" Bundle.steD A U H ∧ vx_Zq Bundle.tN "SUPPRESSED_SENTINEL" Bundle.listD A U H ∧
  (∀ q ∈ kS_strs, ∃ sa : Nat, vk_R RX5 q.1 q.2 sa U) ∧ (∀ X ∈ kS_exs, va_Nw (.castable X X) U) ∧ (∀ q ∈ kS_nc, va_Nc q.1 q.2 U) ∧ (∀ x ∈ kS_decl, va_Nw (.declares x) U) ∧ ∀ q ∈ kS_nest, va_Nw (.methodLinkNest RX5 q.1 q.2 "SignRanks") U
theorem GI.warm {A B : Nat → Prop} {s U : State} {H H1 : Heap} (h : GI A s H) (hW : s.WarmedH U.vm) (hq : ∀ a : Nat, a < H.size → ¬ A a → H1[a]? = H[a]?) (hB : ∀ q, B q → A q) : GI B U H1 := by
  obtain ⟨⟨ft, h1, h2⟩, h3, h4, h5, h6, h7, h8, h9⟩ := h
  refine ⟨⟨ft, ((h1.kept hq).moved hW.alike).narrow hB, ((h2.kept hq).moved hW.alike).narrow hB⟩, ((h3.kept hq).moved hW.alike).narrow hB, ((h4.kept hq).moved hW.alike).narrow hB, fun q hq => ?_, fun X hX => va_Nw.warmC hW (h6 X hX), fun q hq => va_Nc.moved hW.alike (h7 q hq), fun x hx => va_Nw.warmD hW (h8 x hx), fun q hq => va_Nw.warmM hW (h9 q hq)⟩
  obtain ⟨sa, h⟩ := h5 q hq
  exact ⟨sa, vk_R.warm hW h⟩
theorem GI.calling {A : Nat → Prop} {U : State} {g : JFrame} {mk : MethodId} {a : Array Value} (h : GI A U U.heap) : GI A (U.calling g mk a) (U.calling g mk a).heap := by
  obtain ⟨⟨ft, h1, h2⟩, h3, h4, h5, h6, h7, h8, h9⟩ := h
  have hvm : U.vm.Alike (U.calling g mk a).vm := Vm.Alike.refl U.vm
  refine ⟨⟨ft, h1.moved hvm, h2.moved hvm⟩, h3.moved hvm, h4.moved hvm, fun q hq => ?_, fun X hX => va_Nw.same rfl rfl (h6 X hX), fun q hq => va_Nc.moved hvm (h7 q hq), fun x hx => va_Nw.same rfl rfl (h8 x hx), fun q hq => va_Nw.same rfl rfl (h9 q hq)⟩
  obtain ⟨sa, h⟩ := h5 q hq
  exact ⟨sa, vk_R.same rfl h⟩
/-- what a method begins with -/
def preM (D : va_G) (tys : List (ClassId × FieldType)) (wc : va_W) (sz : Nat) (av : List Value) : Array Value → State → Prop :=
  va_Pc av (fun U => U.heap.size = sz ∧ va_P D vwCl wc U.heap ∧ va_K D vwCl tys U ∧ va_D (fun _ => True) wc ∧ GI (va_A wc sz) U U.heap)
theorem preM_blind {D : va_G} {tys : List (ClassId × FieldType)} {wc : va_W} {sz : Nat} {av : List Value} : FrameBlind (preM D tys wc sz av) := by
  intro a U g mk h
  obtain ⟨q0, q1, qP, qK, qD, qG⟩ := h
  exact ⟨q0, q1, qP, va_K.moved (u := U) (U := U.calling g mk a) (Vm.Alike.refl U.vm) qK, qD, qG.calling⟩
def postI (D : va_G) (r : Int32) (w1 wc : va_W) (sz : Nat) : Array Value → State → Outcome → State → Prop := va_Qi (S := Unit) (fun r' _ => r' = r) (fun _ t => va_P D vwCl w1 t.heap) (va_A wc sz)
def postL (D : va_G) (r : Int64) (w1 wc : va_W) (sz : Nat) : Array Value → State → Outcome → State → Prop := va_Ql (S := Unit) (fun r' _ => r' = r) (fun _ t => va_P D vwCl w1 t.heap) (va_A wc sz)
def postD (D : va_G) (r : UInt64) (w1 wc : va_W) (sz : Nat) : Array Value → State → Outcome → State → Prop := va_Qd (S := Unit) (fun r' _ => r' = r) (fun _ t => va_P D vwCl w1 t.heap) (va_A wc sz)
def postV (D : va_G) (w1 wc : va_W) (sz : Nat) : Array Value → State → Outcome → State → Prop := va_Qv (S := Unit) (fun _ => True) (fun _ t => va_P D vwCl w1 t.heap) (va_A wc sz)
/-- the list of cells with some of them put in anew -/
def putAll : va_W → List Nat → va_W → va_W
  | ws, i :: is, c :: cs => putAll (ws.set i c) is cs
  | ws, _, _ => ws
theorem putAll_get : ∀ (is : List Nat) (ws cs : va_W), is.length = cs.length → ∀ (k : Nat) (q : Nat × va_E), (putAll ws is cs)[k]? = some q → q ∈ cs ∨ (k ∉ is ∧ ws[k]? = some q) := by
  intro is
  induction is with
  | nil =>
    intro ws cs hl k q h
    cases cs with
    | nil => exact Or.inr ⟨List.not_mem_nil, h⟩
    | cons c cs => cases hl
  | cons i is ih =>
    intro ws cs hl k q h
    cases cs with
    | nil => cases hl
    | cons c cs =>
      rcases ih (ws.set i c) cs (Nat.succ.inj hl) k q h with h | ⟨h1, h2⟩
      · exact Or.inl (List.mem_cons_of_mem _ h)
      · by_cases hk : k = i
        · subst hk
          rw [List.getElem?_set] at h2
          simp only [if_true] at h2
          split at h2
          · cases h2
            exact Or.inl List.mem_cons_self
          · cases h2
        · rw [List.getElem?_set_ne (fun e => hk e.symm)] at h2
          exact Or.inr ⟨fun hm => (List.mem_cons.mp hm).elim hk h1, h2⟩
theorem fst_get {w1 w2 : va_W} (h : w1.map (fun q => q.1) = w2.map (fun q => q.1)) {k : Nat} {q : Nat × va_E} (hq : w1[k]? = some q) : ∃ q2 : Nat × va_E, w2[k]? = some q2 ∧ q2.1 = q.1 := by
  have h1 : (w1.map (fun q => q.1))[k]? = some q.1 := by rw [List.getElem?_map, hq]; rfl
  rw [h, List.getElem?_map] at h1
  cases h2 : w2[k]? with
  | none => rw [h2] at h1; cases h1
  | some q2 => rw [h2] at h1; exact ⟨q2, rfl, Option.some.inj h1⟩
theorem D_fst {A : Nat → Prop} {w1 w2 : va_W} (h : va_D A w2) (hf : w1.map (fun q => q.1) = w2.map (fun q => q.1)) : va_D A w1 := by
  refine ⟨fun i j x y hx hy hxy => ?_, fun k x hx => ?_⟩
  · obtain ⟨x2, a1, a2⟩ := fst_get hf hx
    obtain ⟨y2, b1, b2⟩ := fst_get hf hy
    exact h.1 i j x2 y2 a1 b1 (by rw [a2, b2]; exact hxy)
  · obtain ⟨x2, a1, a2⟩ := fst_get hf hx
    rw [← a2]
    exact h.2 k x2 a1
/-- the world behind a call: the callee's cells as it left them, at their places; the others as they were -/
theorem P_after {A : Nat → Prop} {D : va_G} {ws wc w1 ws' : va_W} {H H1 : Heap} (hP : va_P D vwCl ws H) (hD : va_D A ws) (isC : List Nat) (hC : isC.map (fun i => ws[i]?) = wc.map some) (hf : w1.map (fun q => q.1) = wc.map (fun q => q.1)) (hw : putAll ws isC w1 = ws')
    (hP1 : va_P D vwCl w1 H1) (hk : ∀ q : Nat, q < H.size → ¬ va_A wc H.size q → H1[q]? = H[q]?) : va_P D vwCl ws' H1 := by
  subst hw
  intro k q hq
  have hl : isC.length = w1.length := by
    have h1 := congrArg List.length hC
    have h2 := congrArg List.length hf
    simp only [List.length_map] at h1 h2
    omega
  rcases putAll_get isC ws w1 hl k q hq with h | ⟨h1, h2⟩
  · obtain ⟨j, hj⟩ := List.getElem?_of_mem h
    exact hP1 j q hj
  · have hlt := (hP k q h2).lt
    refine (hP k q h2).kept (hk q.1 hlt (fun h => ?_))
    rcases h with ⟨j, e, he⟩ | h
    · have h3 : (isC.map (fun i => ws[i]?))[j]? = some (some (q.1, e)) := by rw [hC, List.getElem?_map, he]; rfl
      rw [List.getElem?_map] at h3
      cases h4 : isC[j]? with
      | none => rw [h4] at h3; cases h3
      | some i =>
        rw [h4] at h3
        have h5 : ws[i]? = some (q.1, e) := Option.some.inj h3
        have h6 := hD.1 k i q (q.1, e) h2 h5 rfl
        subst h6
        exact h1 (List.mem_of_getElem? h4)
    · omega
theorem gV_of {own C : String} {idx : Nat} {y : MethodName} {bytes : ByteArray} {maxL : Nat} {ret : Option FieldType} (h1 : Cond.methodLink own idx y ∈ WL) (h2 : Cond.instanceMethod y ∈ WL) (h3 : Cond.selects C y y ∈ WL) (h4 : Cond.initialized C ∈ WL) (h5 : Cond.code y bytes maxL ret ∈ WL) : GoodIn WL (wsV own idx C y (Cond.code y bytes maxL ret :: WL)) :=
  WL_in (List.forall_mem_cons.mpr ⟨h1, List.forall_mem_cons.mpr ⟨h2, List.forall_mem_cons.mpr ⟨h3, List.forall_mem_cons.mpr ⟨h4, List.forall_mem_cons.mpr ⟨h5, fun _ h => h⟩⟩⟩⟩⟩)
theorem gS_of {own : String} {idx : Nat} {y : MethodName} {bytes : ByteArray} {maxL : Nat} {ret : Option FieldType} (h1 : Cond.methodLink own idx y ∈ WL) (h2 : Cond.static y ∈ WL) (h4 : Cond.initialized y.cls ∈ WL) (h5 : Cond.code y bytes maxL ret ∈ WL) : GoodIn WL (va_wsS own idx y (Cond.code y bytes maxL ret :: WL)) :=
  WL_in (List.forall_mem_cons.mpr ⟨h1, List.forall_mem_cons.mpr ⟨h2, List.forall_mem_cons.mpr ⟨h4, List.forall_mem_cons.mpr ⟨h5, fun _ h => h⟩⟩⟩⟩)
theorem gSW_of {own : String} {idx : Nat} {y : MethodName} {bytes : ByteArray} {maxL : Nat} {ret : Option FieldType} {hh : List (Nat × Nat × Nat × Nat)} (h1 : Cond.methodLink own idx y ∈ WL) (h2 : Cond.static y ∈ WL) (h4 : Cond.initialized y.cls ∈ WL) (h5 : Cond.codeWith y bytes maxL ret hh ∈ WL) : GoodIn WL (va_wsS own idx y (Cond.codeWith y bytes maxL ret hh :: WL)) :=
  WL_in (List.forall_mem_cons.mpr ⟨h1, List.forall_mem_cons.mpr ⟨h2, List.forall_mem_cons.mpr ⟨h4, List.forall_mem_cons.mpr ⟨h5, fun _ h => h⟩⟩⟩⟩)
-- options: the pure words
theorem opb {α β : Type} {x : Option α} {f : α → Option β} {o : β} (h : x.bind f = some o) : ∃ a, x = some a ∧ f a = some o := Option.bind_eq_some_iff.mp h
def gd {β : Type} (b : Bool) (x : Option β) : Option β := if b = true then x else none
theorem gdb {β : Type} {b : Bool} {x : Option β} {o : β} (h : gd b x = some o) : b = true ∧ x = some o := by
  unfold gd at h
  split at h
  · exact ⟨‹_›, h⟩
  · cases h
theorem nos {β : Type} {o : β} {P : Prop} (h : (none : Option β) = some o) : P := nomatch h
/-- one of two: a throw, or what follows -/
def opc {α β : Type} (x : Option α) (f : α → Option β) (y : Option β) : Option β := match x with | some a => f a | none => y
theorem opcb {α β : Type} {x : Option α} {f : α → Option β} {y : Option β} {o : β} (h : opc x f y = some o) : (∃ a, x = some a ∧ f a = some o) ∨ y = some o := by
  cases x with
  | none => exact Or.inr h
  | some a => exact Or.inl ⟨a, rfl, h⟩
def vin (i : Int32) (n : Nat) : Bool := decide (¬ (i < 0 ∨ n ≤ i.toNatClampNeg))
theorem vinb {i : Int32} {n : Nat} (h : vin i n = true) : vp_in i n := by
  have h2 : ¬ (i < 0 ∨ n ≤ i.toNatClampNeg) := of_decide_eq_true h
  exact h2
def nz (i : Int32) : Bool := decide (¬ i = 0)
theorem nzb {i : Int32} (h : nz i = true) : ¬ i = 0 := of_decide_eq_true h
def nn (r : UInt64) : Bool := decide (r &&& 0x7fffffffffffffff ≤ 0x7ff0000000000000)
theorem nnb {r : UInt64} (h : nn r = true) : vf_n64 r := by
  have h2 : r &&& 0x7fffffffffffffff ≤ 0x7ff0000000000000 := of_decide_eq_true h
  exact h2
def FU : Nat := 100000
def bz (v : Int32) : Bool := decide (v = 0 ∨ v = 1)
theorem bzb {v : Int32} (h : bz v = true) : narrow .boolean (.int v) = .int v := by
  rcases (of_decide_eq_true h : v = 0 ∨ v = 1) with h | h <;> subst h <;> rfl
-- the kit's calls in this form
section KC
variable {p : Program} {l : Launch} {e : Env} {R : Room} {s : State} {m : MethodId} {args : Array Value} {below : List Frame} {meth : Method} {c : Code} {H : Heap} {locs : List Loc} {Q : State → Prop}
variable {cc bytes : ByteArray} {nL maxL n index : Nat} {ret : Option FieldType} {own C : String} {y : MethodName} {rm : Room} {b : Addr} {As rest : List Value} {pc : Nat} {ls : Array Slot} {st0 : List Value}
variable {D : va_G} {tys : List (ClassId × FieldType)} {A : Nat → Prop} {ws wc w1 ws' : va_W} {k0 n0 : Nat}
theorem preV_of {ci q0 : Nat} {q : vw_C} {fs : List Value} (hK : va_K D vwCl tys s) (hP : va_P D vwCl ws H) (hD : va_D A ws) (hS : va_S A s.heap H locs) (hA : ∀ q, s.heap.size ≤ q → A q) (hG : GI A s s.heap) (isC : List Nat) (hC : isC.map (fun i => ws[i]?) = wc.map some) (hn : va_nd isC = true) : FrameBlind (preM D tys wc H.size As) ∧ (∀ U : State, U.heap = H → s.WarmedH U.vm → preM D tys wc H.size As As.toArray U) := by
  refine ⟨preM_blind, fun U hU hW => ⟨rfl, by rw [hU], ?_, va_K.moved hW.alike hK, ?_, ?_⟩⟩
  · rw [hU]
    intro k q hq
    have h3 : (isC.map (fun i => ws[i]?))[k]? = some (some q) := by rw [hC, List.getElem?_map, hq]; rfl
    rw [List.getElem?_map] at h3
    cases h4 : isC[k]? with
    | none => rw [h4] at h3; cases h3
    | some i => rw [h4] at h3; exact hP i q (Option.some.inj h3)
  · exact (hD.sub isC hn hC).weaken (fun _ _ _ _ => trivial)
  · rw [hU]
    exact hG.warm hW hS.2.1 (va_free hD hS hA isC hC)
theorem kAll {r : Int32} (hS : va_S A s.heap H locs) (hA : ∀ q, s.heap.size ≤ q → A q) (hP : va_P D vwCl ws H) (hD : va_D A ws) (isC : List Nat) (hC : isC.map (fun i => ws[i]?) = wc.map some) (hf : w1.map (fun q => q.1) = wc.map (fun q => q.1)) (hw : putAll ws isC w1 = ws') (hf2 : ws'.map (fun q => q.1) = ws.map (fun q => q.1)) {a : Array Value}
    (hr : va_Run p l e R s m args below meth c H locs k0 n0 0 0 (F0 m pc ls st0) rest (postI D r w1 wc H.size a) (va_A wc H.size))
    (kk : ∀ (H1 : Heap) (locs1 : List Loc), va_P D vwCl ws' H1 → va_D A ws' → va_S A s.heap H1 locs1 → W p l e R s m args below meth c H1 locs1 k0 n0 Q (F0 m (pc + 3) ls (.int r :: rest))) : W p l e R s m args below meth c H locs k0 n0 Q (F0 m pc ls st0) := by
  have hF := va_free hD hS hA isC hC
  refine va_calli hr hS (fun q _ h => hF q h) hF (fun r' u t H1 locs1 ht hvm hw2 hB hz hk hS1 => ?_)
  subst hw2
  rw [ht] at hB
  exact kk H1 locs1 (P_after hP hD isC hC hf hw hB hk) (D_fst hD hf2) hS1
theorem kAllL {r : Int64} (hS : va_S A s.heap H locs) (hA : ∀ q, s.heap.size ≤ q → A q) (hP : va_P D vwCl ws H) (hD : va_D A ws) (isC : List Nat) (hC : isC.map (fun i => ws[i]?) = wc.map some) (hf : w1.map (fun q => q.1) = wc.map (fun q => q.1)) (hw : putAll ws isC w1 = ws') (hf2 : ws'.map (fun q => q.1) = ws.map (fun q => q.1)) {a : Array Value}
    (hr : va_Run p l e R s m args below meth c H locs k0 n0 0 0 (F0 m pc ls st0) rest (postL D r w1 wc H.size a) (va_A wc H.size))
    (kk : ∀ (H1 : Heap) (locs1 : List Loc), va_P D vwCl ws' H1 → va_D A ws' → va_S A s.heap H1 locs1 → W p l e R s m args below meth c H1 locs1 k0 n0 Q (F0 m (pc + 3) ls (.long r :: rest))) : W p l e R s m args below meth c H locs k0 n0 Q (F0 m pc ls st0) := by
  have hF := va_free hD hS hA isC hC
  refine va_calll hr hS (fun q _ h => hF q h) hF (fun r' u t H1 locs1 ht hvm hw2 hB hz hk hS1 => ?_)
  subst hw2
  rw [ht] at hB
  exact kk H1 locs1 (P_after hP hD isC hC hf hw hB hk) (D_fst hD hf2) hS1
theorem kAllD {r : UInt64} (hS : va_S A s.heap H locs) (hA : ∀ q, s.heap.size ≤ q → A q) (hP : va_P D vwCl ws H) (hD : va_D A ws) (isC : List Nat) (hC : isC.map (fun i => ws[i]?) = wc.map some) (hf : w1.map (fun q => q.1) = wc.map (fun q => q.1)) (hw : putAll ws isC w1 = ws') (hf2 : ws'.map (fun q => q.1) = ws.map (fun q => q.1)) {a : Array Value}
    (hr : va_Run p l e R s m args below meth c H locs k0 n0 0 0 (F0 m pc ls st0) rest (postD D r w1 wc H.size a) (va_A wc H.size))
    (kk : ∀ (H1 : Heap) (locs1 : List Loc), va_P D vwCl ws' H1 → va_D A ws' → va_S A s.heap H1 locs1 → W p l e R s m args below meth c H1 locs1 k0 n0 Q (F0 m (pc + 3) ls (.double r :: rest))) : W p l e R s m args below meth c H locs k0 n0 Q (F0 m pc ls st0) := by
  have hF := va_free hD hS hA isC hC
  refine va_calld hr hS (fun q _ h => hF q h) hF (fun r' u t H1 locs1 ht hvm hw2 hB hz hk hS1 => ?_)
  subst hw2
  rw [ht] at hB
  exact kk H1 locs1 (P_after hP hD isC hC hf hw hB hk) (D_fst hD hf2) hS1
theorem kAllV (hS : va_S A s.heap H locs) (hA : ∀ q, s.heap.size ≤ q → A q) (hP : va_P D vwCl ws H) (hD : va_D A ws) (isC : List Nat) (hC : isC.map (fun i => ws[i]?) = wc.map some) (hf : w1.map (fun q => q.1) = wc.map (fun q => q.1)) (hw : putAll ws isC w1 = ws') (hf2 : ws'.map (fun q => q.1) = ws.map (fun q => q.1)) {a : Array Value}
    (hr : va_Run p l e R s m args below meth c H locs k0 n0 0 0 (F0 m pc ls st0) rest (postV D w1 wc H.size a) (va_A wc H.size))
    (kk : ∀ (H1 : Heap) (locs1 : List Loc), va_P D vwCl ws' H1 → va_D A ws' → va_S A s.heap H1 locs1 → W p l e R s m args below meth c H1 locs1 k0 n0 Q (F0 m (pc + 3) ls rest)) : W p l e R s m args below meth c H locs k0 n0 Q (F0 m pc ls st0) := by
  have hF := va_free hD hS hA isC hC
  refine va_callv hr hS (fun q _ h => hF q h) hF (fun u t H1 locs1 ht hvm hw2 hB hz hk hS1 => ?_)
  rw [ht] at hB
  exact kk H1 locs1 (P_after hP hD isC hC hf hw hB hk) (D_fst hD hf2) hS1
end KC
section KD
variable {p : Program} {l : Launch} {e : Env} {R : Room} {s : State} {m : MethodId} {args : Array Value} {below : List Frame} {meth : Method} {c : Code} {H : Heap} {locs : List Loc} {Q : State → Prop}
variable {cc bytes : ByteArray} {nL maxL n index : Nat} {ret : Option FieldType} {own C : String} {y : MethodName} {rm : Room} {b : Addr} {As rest : List Value} {pc : Nat} {ls : Array Slot} {st0 : List Value}
variable {D : va_G} {tys : List (ClassId × FieldType)} {A : Nat → Prop} {ws wc w1 ws' : va_W} {k0 n0 : Nat}
theorem kVI {r : Int32} (S : CallFix p m c cc nL s args WL own) (hM : Met l y (Cond.code y bytes maxL ret :: WL) rm (preM D tys wc H.size (.ref b :: As)) (postI D r w1 wc H.size) 0 0 (va_A wc H.size)) (cw : CallW R s args own C index y bytes maxL ret (Cond.code y bytes maxL ret :: WL) rm 0 0 n)
    (hS : va_S A s.heap H locs) (hA : ∀ q, s.heap.size ≤ q → A q) (hG : GI A s s.heap) (hK : va_K D vwCl tys s) (hP : va_P D vwCl ws H) (hD : va_D A ws) (isC : List Nat) (hC : isC.map (fun i => ws[i]?) = wc.map some) (hn : va_nd isC = true) (hf : w1.map (fun q => q.1) = wc.map (fun q => q.1)) (hw : putAll ws isC w1 = ws') (hf2 : ws'.map (fun q => q.1) = ws.map (fun q => q.1)) (hfr : k0 ≤ R.cells ∧ n0 ≤ R.slots) (ci q0 : Nat) {q : vw_C} {fs : List Value} (hci : vwCl[ci]? = some q) (hrc : ws[q0]? = some (b, .inr (ci, fs))) (hqC : q.1 = C) (hAs : As.length = n) (hsize : ls.size = nL) (hstack : st0 = As.reverse ++ .ref b :: rest) (hroom : (rest.map fun v => v.category).sum ≤ 8) (hdg : decode cc pc = .ok (.invokevirtual index, 3))
    (kk : ∀ (H1 : Heap) (locs1 : List Loc), va_P D vwCl ws' H1 → va_D A ws' → va_S A s.heap H1 locs1 → W p l e R s m args below meth c H1 locs1 k0 n0 Q (F0 m (pc + 3) ls (.int r :: rest))) : W p l e R s m args below meth c H locs k0 n0 Q (F0 m pc ls st0) := by
  subst hqC
  have hp := preV_of (As := .ref b :: As) (ci := 0) (q0 := 0) (q := q) (fs := fs) hK hP hD hS hA hG isC hC hn
  exact kAll hS hA hP hD isC hC hf hw hf2 (va_runV S hM cw ⟨hp.1, va_recv hK hP hci hrc, hp.2⟩ rfl hAs hsize hstack (lv_room hroom) hdg hfr) kk
theorem kSI {r : Int32} (S : CallFix p m c cc nL s args WL own) (hM : Met l y (Cond.code y bytes maxL ret :: WL) rm (preM D tys wc H.size As) (postI D r w1 wc H.size) 0 0 (va_A wc H.size)) (cw : CallB R s args own index y bytes maxL ret (Cond.code y bytes maxL ret :: WL) rm 0 0 n ∧ (Cond.static y).before args s = true)
    (hS : va_S A s.heap H locs) (hA : ∀ q, s.heap.size ≤ q → A q) (hG : GI A s s.heap) (hK : va_K D vwCl tys s) (hP : va_P D vwCl ws H) (hD : va_D A ws) (isC : List Nat) (hC : isC.map (fun i => ws[i]?) = wc.map some) (hn : va_nd isC = true) (hf : w1.map (fun q => q.1) = wc.map (fun q => q.1)) (hw : putAll ws isC w1 = ws') (hf2 : ws'.map (fun q => q.1) = ws.map (fun q => q.1)) (hfr : k0 ≤ R.cells ∧ n0 ≤ R.slots) (hAs : As.length = n) (hsize : ls.size = nL) (hstack : st0 = As.reverse ++ rest) (hroom : (rest.map fun v => v.category).sum ≤ 8) (hdg : decode cc pc = .ok (.invokestatic index, 3))
    (kk : ∀ (H1 : Heap) (locs1 : List Loc), va_P D vwCl ws' H1 → va_D A ws' → va_S A s.heap H1 locs1 → W p l e R s m args below meth c H1 locs1 k0 n0 Q (F0 m (pc + 3) ls (.int r :: rest))) : W p l e R s m args below meth c H locs k0 n0 Q (F0 m pc ls st0) := by
  have hp := preV_of (As := As) (ci := 0) (q0 := 0) (q := (RX0, TX0, 0)) (fs := []) hK hP hD hS hA hG isC hC hn
  exact kAll hS hA hP hD isC hC hf hw hf2 (va_runS S hM cw ⟨hp.1, hp.2⟩ rfl hAs hsize hstack (lv_room hroom) hdg hfr) kk
theorem kVL {r : Int64} (S : CallFix p m c cc nL s args WL own) (hM : Met l y (Cond.code y bytes maxL ret :: WL) rm (preM D tys wc H.size (.ref b :: As)) (postL D r w1 wc H.size) 0 0 (va_A wc H.size)) (cw : CallW R s args own C index y bytes maxL ret (Cond.code y bytes maxL ret :: WL) rm 0 0 n)
    (hS : va_S A s.heap H locs) (hA : ∀ q, s.heap.size ≤ q → A q) (hG : GI A s s.heap) (hK : va_K D vwCl tys s) (hP : va_P D vwCl ws H) (hD : va_D A ws) (isC : List Nat) (hC : isC.map (fun i => ws[i]?) = wc.map some) (hn : va_nd isC = true) (hf : w1.map (fun q => q.1) = wc.map (fun q => q.1)) (hw : putAll ws isC w1 = ws') (hf2 : ws'.map (fun q => q.1) = ws.map (fun q => q.1)) (hfr : k0 ≤ R.cells ∧ n0 ≤ R.slots) (ci q0 : Nat) {q : vw_C} {fs : List Value} (hci : vwCl[ci]? = some q) (hrc : ws[q0]? = some (b, .inr (ci, fs))) (hqC : q.1 = C) (hAs : As.length = n) (hsize : ls.size = nL) (hstack : st0 = As.reverse ++ .ref b :: rest) (hroom : (rest.map fun v => v.category).sum ≤ 8) (hdg : decode cc pc = .ok (.invokevirtual index, 3))
    (kk : ∀ (H1 : Heap) (locs1 : List Loc), va_P D vwCl ws' H1 → va_D A ws' → va_S A s.heap H1 locs1 → W p l e R s m args below meth c H1 locs1 k0 n0 Q (F0 m (pc + 3) ls (.long r :: rest))) : W p l e R s m args below meth c H locs k0 n0 Q (F0 m pc ls st0) := by
  subst hqC
  have hp := preV_of (As := .ref b :: As) (ci := 0) (q0 := 0) (q := q) (fs := fs) hK hP hD hS hA hG isC hC hn
  exact kAllL hS hA hP hD isC hC hf hw hf2 (va_runV S hM cw ⟨hp.1, va_recv hK hP hci hrc, hp.2⟩ rfl hAs hsize hstack (lv_room hroom) hdg hfr) kk
theorem kSL {r : Int64} (S : CallFix p m c cc nL s args WL own) (hM : Met l y (Cond.code y bytes maxL ret :: WL) rm (preM D tys wc H.size As) (postL D r w1 wc H.size) 0 0 (va_A wc H.size)) (cw : CallB R s args own index y bytes maxL ret (Cond.code y bytes maxL ret :: WL) rm 0 0 n ∧ (Cond.static y).before args s = true)
    (hS : va_S A s.heap H locs) (hA : ∀ q, s.heap.size ≤ q → A q) (hG : GI A s s.heap) (hK : va_K D vwCl tys s) (hP : va_P D vwCl ws H) (hD : va_D A ws) (isC : List Nat) (hC : isC.map (fun i => ws[i]?) = wc.map some) (hn : va_nd isC = true) (hf : w1.map (fun q => q.1) = wc.map (fun q => q.1)) (hw : putAll ws isC w1 = ws') (hf2 : ws'.map (fun q => q.1) = ws.map (fun q => q.1)) (hfr : k0 ≤ R.cells ∧ n0 ≤ R.slots) (hAs : As.length = n) (hsize : ls.size = nL) (hstack : st0 = As.reverse ++ rest) (hroom : (rest.map fun v => v.category).sum ≤ 8) (hdg : decode cc pc = .ok (.invokestatic index, 3))
    (kk : ∀ (H1 : Heap) (locs1 : List Loc), va_P D vwCl ws' H1 → va_D A ws' → va_S A s.heap H1 locs1 → W p l e R s m args below meth c H1 locs1 k0 n0 Q (F0 m (pc + 3) ls (.long r :: rest))) : W p l e R s m args below meth c H locs k0 n0 Q (F0 m pc ls st0) := by
  have hp := preV_of (As := As) (ci := 0) (q0 := 0) (q := (RX0, TX0, 0)) (fs := []) hK hP hD hS hA hG isC hC hn
  exact kAllL hS hA hP hD isC hC hf hw hf2 (va_runS S hM cw ⟨hp.1, hp.2⟩ rfl hAs hsize hstack (lv_room hroom) hdg hfr) kk
theorem kVD {r : UInt64} (S : CallFix p m c cc nL s args WL own) (hM : Met l y (Cond.code y bytes maxL ret :: WL) rm (preM D tys wc H.size (.ref b :: As)) (postD D r w1 wc H.size) 0 0 (va_A wc H.size)) (cw : CallW R s args own C index y bytes maxL ret (Cond.code y bytes maxL ret :: WL) rm 0 0 n)
    (hS : va_S A s.heap H locs) (hA : ∀ q, s.heap.size ≤ q → A q) (hG : GI A s s.heap) (hK : va_K D vwCl tys s) (hP : va_P D vwCl ws H) (hD : va_D A ws) (isC : List Nat) (hC : isC.map (fun i => ws[i]?) = wc.map some) (hn : va_nd isC = true) (hf : w1.map (fun q => q.1) = wc.map (fun q => q.1)) (hw : putAll ws isC w1 = ws') (hf2 : ws'.map (fun q => q.1) = ws.map (fun q => q.1)) (hfr : k0 ≤ R.cells ∧ n0 ≤ R.slots) (ci q0 : Nat) {q : vw_C} {fs : List Value} (hci : vwCl[ci]? = some q) (hrc : ws[q0]? = some (b, .inr (ci, fs))) (hqC : q.1 = C) (hAs : As.length = n) (hsize : ls.size = nL) (hstack : st0 = As.reverse ++ .ref b :: rest) (hroom : (rest.map fun v => v.category).sum ≤ 8) (hdg : decode cc pc = .ok (.invokevirtual index, 3))
    (kk : ∀ (H1 : Heap) (locs1 : List Loc), va_P D vwCl ws' H1 → va_D A ws' → va_S A s.heap H1 locs1 → W p l e R s m args below meth c H1 locs1 k0 n0 Q (F0 m (pc + 3) ls (.double r :: rest))) : W p l e R s m args below meth c H locs k0 n0 Q (F0 m pc ls st0) := by
  subst hqC
  have hp := preV_of (As := .ref b :: As) (ci := 0) (q0 := 0) (q := q) (fs := fs) hK hP hD hS hA hG isC hC hn
  exact kAllD hS hA hP hD isC hC hf hw hf2 (va_runV S hM cw ⟨hp.1, va_recv hK hP hci hrc, hp.2⟩ rfl hAs hsize hstack (lv_room hroom) hdg hfr) kk
theorem kSD {r : UInt64} (S : CallFix p m c cc nL s args WL own) (hM : Met l y (Cond.code y bytes maxL ret :: WL) rm (preM D tys wc H.size As) (postD D r w1 wc H.size) 0 0 (va_A wc H.size)) (cw : CallB R s args own index y bytes maxL ret (Cond.code y bytes maxL ret :: WL) rm 0 0 n ∧ (Cond.static y).before args s = true)
    (hS : va_S A s.heap H locs) (hA : ∀ q, s.heap.size ≤ q → A q) (hG : GI A s s.heap) (hK : va_K D vwCl tys s) (hP : va_P D vwCl ws H) (hD : va_D A ws) (isC : List Nat) (hC : isC.map (fun i => ws[i]?) = wc.map some) (hn : va_nd isC = true) (hf : w1.map (fun q => q.1) = wc.map (fun q => q.1)) (hw : putAll ws isC w1 = ws') (hf2 : ws'.map (fun q => q.1) = ws.map (fun q => q.1)) (hfr : k0 ≤ R.cells ∧ n0 ≤ R.slots) (hAs : As.length = n) (hsize : ls.size = nL) (hstack : st0 = As.reverse ++ rest) (hroom : (rest.map fun v => v.category).sum ≤ 8) (hdg : decode cc pc = .ok (.invokestatic index, 3))
    (kk : ∀ (H1 : Heap) (locs1 : List Loc), va_P D vwCl ws' H1 → va_D A ws' → va_S A s.heap H1 locs1 → W p l e R s m args below meth c H1 locs1 k0 n0 Q (F0 m (pc + 3) ls (.double r :: rest))) : W p l e R s m args below meth c H locs k0 n0 Q (F0 m pc ls st0) := by
  have hp := preV_of (As := As) (ci := 0) (q0 := 0) (q := (RX0, TX0, 0)) (fs := []) hK hP hD hS hA hG isC hC hn
  exact kAllD hS hA hP hD isC hC hf hw hf2 (va_runS S hM cw ⟨hp.1, hp.2⟩ rfl hAs hsize hstack (lv_room hroom) hdg hfr) kk
theorem kVV (S : CallFix p m c cc nL s args WL own) (hM : Met l y (Cond.code y bytes maxL ret :: WL) rm (preM D tys wc H.size (.ref b :: As)) (postV D w1 wc H.size) 0 0 (va_A wc H.size)) (cw : CallW R s args own C index y bytes maxL ret (Cond.code y bytes maxL ret :: WL) rm 0 0 n)
    (hS : va_S A s.heap H locs) (hA : ∀ q, s.heap.size ≤ q → A q) (hG : GI A s s.heap) (hK : va_K D vwCl tys s) (hP : va_P D vwCl ws H) (hD : va_D A ws) (isC : List Nat) (hC : isC.map (fun i => ws[i]?) = wc.map some) (hn : va_nd isC = true) (hf : w1.map (fun q => q.1) = wc.map (fun q => q.1)) (hw : putAll ws isC w1 = ws') (hf2 : ws'.map (fun q => q.1) = ws.map (fun q => q.1)) (hfr : k0 ≤ R.cells ∧ n0 ≤ R.slots) (ci q0 : Nat) {q : vw_C} {fs : List Value} (hci : vwCl[ci]? = some q) (hrc : ws[q0]? = some (b, .inr (ci, fs))) (hqC : q.1 = C) (hAs : As.length = n) (hsize : ls.size = nL) (hstack : st0 = As.reverse ++ .ref b :: rest) (hroom : (rest.map fun v => v.category).sum ≤ 8) (hdg : decode cc pc = .ok (.invokevirtual index, 3))
    (kk : ∀ (H1 : Heap) (locs1 : List Loc), va_P D vwCl ws' H1 → va_D A ws' → va_S A s.heap H1 locs1 → W p l e R s m args below meth c H1 locs1 k0 n0 Q (F0 m (pc + 3) ls rest)) : W p l e R s m args below meth c H locs k0 n0 Q (F0 m pc ls st0) := by
  subst hqC
  have hp := preV_of (As := .ref b :: As) (ci := 0) (q0 := 0) (q := q) (fs := fs) hK hP hD hS hA hG isC hC hn
  exact kAllV hS hA hP hD isC hC hf hw hf2 (va_runV S hM cw ⟨hp.1, va_recv hK hP hci hrc, hp.2⟩ rfl hAs hsize hstack (lv_room hroom) hdg hfr) kk
theorem kSV (S : CallFix p m c cc nL s args WL own) (hM : Met l y (Cond.code y bytes maxL ret :: WL) rm (preM D tys wc H.size As) (postV D w1 wc H.size) 0 0 (va_A wc H.size)) (cw : CallB R s args own index y bytes maxL ret (Cond.code y bytes maxL ret :: WL) rm 0 0 n ∧ (Cond.static y).before args s = true)
    (hS : va_S A s.heap H locs) (hA : ∀ q, s.heap.size ≤ q → A q) (hG : GI A s s.heap) (hK : va_K D vwCl tys s) (hP : va_P D vwCl ws H) (hD : va_D A ws) (isC : List Nat) (hC : isC.map (fun i => ws[i]?) = wc.map some) (hn : va_nd isC = true) (hf : w1.map (fun q => q.1) = wc.map (fun q => q.1)) (hw : putAll ws isC w1 = ws') (hf2 : ws'.map (fun q => q.1) = ws.map (fun q => q.1)) (hfr : k0 ≤ R.cells ∧ n0 ≤ R.slots) (hAs : As.length = n) (hsize : ls.size = nL) (hstack : st0 = As.reverse ++ rest) (hroom : (rest.map fun v => v.category).sum ≤ 8) (hdg : decode cc pc = .ok (.invokestatic index, 3))
    (kk : ∀ (H1 : Heap) (locs1 : List Loc), va_P D vwCl ws' H1 → va_D A ws' → va_S A s.heap H1 locs1 → W p l e R s m args below meth c H1 locs1 k0 n0 Q (F0 m (pc + 3) ls rest)) : W p l e R s m args below meth c H locs k0 n0 Q (F0 m pc ls st0) := by
  have hp := preV_of (As := As) (ci := 0) (q0 := 0) (q := (RX0, TX0, 0)) (fs := []) hK hP hD hS hA hG isC hC hn
  exact kAllV hS hA hP hD isC hC hf hw hf2 (va_runS S hM cw ⟨hp.1, hp.2⟩ rfl hAs hsize hstack (lv_room hroom) hdg hfr) kk
end KD
section KM
variable {l : Launch} {y : MethodName} {cc : ByteArray} {maxL : Nat} {rm : Room} {D : va_G} {tys : List (ClassId × FieldType)} {wc w1 : va_W} {sz : Nat} {av : List Value}
theorem mofI {r : Int32} (hy : plainName y.cls = true) (hlen : (lg_sl av).length ≤ maxL)
    (body : ∀ (p : Program) (e : Env) (s : State) (m : MethodId) (args : Array Value) (below : List Frame) (meth : Method) (c : Code) (Q : State → Prop) (A : Nat → Prop) (ls : Array Slot), p.tables.exec = Jvm.exec → c.code = cc → c.maxLocals = maxL → s.vm.findClass y.cls = some m.cls → (∀ w ∈ WL, w.before args s = true) → va_K D vwCl tys s → va_P D vwCl wc s.heap → va_D A wc → va_S A s.heap s.heap [] → (∀ q, s.heap.size ≤ q → A q) → GI A s s.heap → lv_has ls maxL (lv_args 0 av) → (∀ (H : Heap) (locs : List Loc) (ls : Array Slot) (pc : Nat) (v : Int32) (ws : va_W), va_P D vwCl ws H → va_S A s.heap H locs → ws = w1 → v = r → decode cc pc = .ok (.ireturn, 1) → W p l e rm s m args below meth c H locs 0 0 Q (F0 m pc ls [.int v])) → s.heap.size = sz → W p l e rm s m args below meth c s.heap [] 0 0 Q (F0 m 0 ls [])) :
    Met l y (Cond.code y cc maxL (some .int) :: WL) rm (preM D tys wc sz av) (postI D r w1 wc sz) 0 0 (va_A wc sz) := by
  refine Met.ofW (cc := cc) (maxL := maxL) (ret := (some .int)) hy rfl ?_
  intro p e s m args below meth c s₁ B hml hv
  obtain ⟨rfl, hsz, hP, hK, hD0, hG⟩ := hv
  have hx := B.exec
  have hb := B.bytes
  have hr := B.returns
  have hts := atoms_spec (ws := Cond.code y cc maxL (some .int) :: WL) B.pre
  have hown : s.vm.findClass y.cls = some m.cls := findClass_of_methodNamed B.named
  have hlocks := B.notSynchronized
  subst hsz
  have hD := hD0.self (sz := s.heap.size)
  have hl := lv_entry av (n := maxL) hlen
  rw [lg_entry_eq]
  refine body p e s m av.toArray below meth c _ (va_A wc s.heap.size) _ hx hb hml hown (fun w h => hts w (List.mem_cons_of_mem _ h)) hK hP hD va_S.rf (fun q h => Or.inr h) hG hl (fun H locs ls pc v ws hP2 hS2 hws hv hd => ?_) rfl
  subst hws; subst hv
  exact W.iret (v := v) hx hb hr (fun t ht hW => ⟨⟨v, (), rfl, rfl, by show va_P D vwCl ws t.heap; rw [ht]; exact hP2⟩, hS2.F ht⟩) hS2.2.2 hd
theorem mofZ {r : Int32} (hy : plainName y.cls = true) (hlen : (lg_sl av).length ≤ maxL)
    (body : ∀ (p : Program) (e : Env) (s : State) (m : MethodId) (args : Array Value) (below : List Frame) (meth : Method) (c : Code) (Q : State → Prop) (A : Nat → Prop) (ls : Array Slot), p.tables.exec = Jvm.exec → c.code = cc → c.maxLocals = maxL → s.vm.findClass y.cls = some m.cls → (∀ w ∈ WL, w.before args s = true) → va_K D vwCl tys s → va_P D vwCl wc s.heap → va_D A wc → va_S A s.heap s.heap [] → (∀ q, s.heap.size ≤ q → A q) → GI A s s.heap → lv_has ls maxL (lv_args 0 av) → (∀ (H : Heap) (locs : List Loc) (ls : Array Slot) (pc : Nat) (v : Int32) (ws : va_W), va_P D vwCl ws H → va_S A s.heap H locs → ws = w1 → v = r → narrow .boolean (.int v) = .int v → decode cc pc = .ok (.ireturn, 1) → W p l e rm s m args below meth c H locs 0 0 Q (F0 m pc ls [.int v])) → s.heap.size = sz → W p l e rm s m args below meth c s.heap [] 0 0 Q (F0 m 0 ls [])) :
    Met l y (Cond.code y cc maxL (some .boolean) :: WL) rm (preM D tys wc sz av) (postI D r w1 wc sz) 0 0 (va_A wc sz) := by
  refine Met.ofW (cc := cc) (maxL := maxL) (ret := (some .boolean)) hy rfl ?_
  intro p e s m args below meth c s₁ B hml hv
  obtain ⟨rfl, hsz, hP, hK, hD0, hG⟩ := hv
  have hx := B.exec
  have hb := B.bytes
  have hr := B.returns
  have hts := atoms_spec (ws := Cond.code y cc maxL (some .boolean) :: WL) B.pre
  have hown : s.vm.findClass y.cls = some m.cls := findClass_of_methodNamed B.named
  have hlocks := B.notSynchronized
  subst hsz
  have hD := hD0.self (sz := s.heap.size)
  have hl := lv_entry av (n := maxL) hlen
  rw [lg_entry_eq]
  refine body p e s m av.toArray below meth c _ (va_A wc s.heap.size) _ hx hb hml hown (fun w h => hts w (List.mem_cons_of_mem _ h)) hK hP hD va_S.rf (fun q h => Or.inr h) hG hl (fun H locs ls pc v ws hP2 hS2 hws hv hnar hd => ?_) rfl
  subst hws; subst hv
  exact W.zret (v := v) hx hb hr hnar (fun t ht hW => ⟨⟨v, (), rfl, rfl, by show va_P D vwCl ws t.heap; rw [ht]; exact hP2⟩, hS2.F ht⟩) hS2.2.2 hd
theorem mofL {r : Int64} (hy : plainName y.cls = true) (hlen : (lg_sl av).length ≤ maxL)
    (body : ∀ (p : Program) (e : Env) (s : State) (m : MethodId) (args : Array Value) (below : List Frame) (meth : Method) (c : Code) (Q : State → Prop) (A : Nat → Prop) (ls : Array Slot), p.tables.exec = Jvm.exec → c.code = cc → c.maxLocals = maxL → s.vm.findClass y.cls = some m.cls → (∀ w ∈ WL, w.before args s = true) → va_K D vwCl tys s → va_P D vwCl wc s.heap → va_D A wc → va_S A s.heap s.heap [] → (∀ q, s.heap.size ≤ q → A q) → GI A s s.heap → lv_has ls maxL (lv_args 0 av) → (∀ (H : Heap) (locs : List Loc) (ls : Array Slot) (pc : Nat) (v : Int64) (ws : va_W), va_P D vwCl ws H → va_S A s.heap H locs → ws = w1 → v = r → decode cc pc = .ok (.lreturn, 1) → W p l e rm s m args below meth c H locs 0 0 Q (F0 m pc ls [.long v])) → s.heap.size = sz → W p l e rm s m args below meth c s.heap [] 0 0 Q (F0 m 0 ls [])) :
    Met l y (Cond.code y cc maxL (some .long) :: WL) rm (preM D tys wc sz av) (postL D r w1 wc sz) 0 0 (va_A wc sz) := by
  refine Met.ofW (cc := cc) (maxL := maxL) (ret := (some .long)) hy rfl ?_
  intro p e s m args below meth c s₁ B hml hv
  obtain ⟨rfl, hsz, hP, hK, hD0, hG⟩ := hv
  have hx := B.exec
  have hb := B.bytes
  have hr := B.returns
  have hts := atoms_spec (ws := Cond.code y cc maxL (some .long) :: WL) B.pre
  have hown : s.vm.findClass y.cls = some m.cls := findClass_of_methodNamed B.named
  have hlocks := B.notSynchronized
  subst hsz
  have hD := hD0.self (sz := s.heap.size)
  have hl := lv_entry av (n := maxL) hlen
  rw [lg_entry_eq]
  refine body p e s m av.toArray below meth c _ (va_A wc s.heap.size) _ hx hb hml hown (fun w h => hts w (List.mem_cons_of_mem _ h)) hK hP hD va_S.rf (fun q h => Or.inr h) hG hl (fun H locs ls pc v ws hP2 hS2 hws hv hd => ?_) rfl
  subst hws; subst hv
  exact W.lret (v := v) hx hb hr (fun t ht hW => ⟨⟨v, (), rfl, rfl, by show va_P D vwCl ws t.heap; rw [ht]; exact hP2⟩, hS2.F ht⟩) hS2.2.2 hd
theorem mofD {r : UInt64} (hy : plainName y.cls = true) (hlen : (lg_sl av).length ≤ maxL)
    (body : ∀ (p : Program) (e : Env) (s : State) (m : MethodId) (args : Array Value) (below : List Frame) (meth : Method) (c : Code) (Q : State → Prop) (A : Nat → Prop) (ls : Array Slot), p.tables.exec = Jvm.exec → c.code = cc → c.maxLocals = maxL → s.vm.findClass y.cls = some m.cls → (∀ w ∈ WL, w.before args s = true) → va_K D vwCl tys s → va_P D vwCl wc s.heap → va_D A wc → va_S A s.heap s.heap [] → (∀ q, s.heap.size ≤ q → A q) → GI A s s.heap → lv_has ls maxL (lv_args 0 av) → (∀ (H : Heap) (locs : List Loc) (ls : Array Slot) (pc : Nat) (v : UInt64) (ws : va_W), va_P D vwCl ws H → va_S A s.heap H locs → ws = w1 → v = r → decode cc pc = .ok (.dreturn, 1) → W p l e rm s m args below meth c H locs 0 0 Q (F0 m pc ls [.double v])) → s.heap.size = sz → W p l e rm s m args below meth c s.heap [] 0 0 Q (F0 m 0 ls [])) :
    Met l y (Cond.code y cc maxL (some .double) :: WL) rm (preM D tys wc sz av) (postD D r w1 wc sz) 0 0 (va_A wc sz) := by
  refine Met.ofW (cc := cc) (maxL := maxL) (ret := (some .double)) hy rfl ?_
  intro p e s m args below meth c s₁ B hml hv
  obtain ⟨rfl, hsz, hP, hK, hD0, hG⟩ := hv
  have hx := B.exec
  have hb := B.bytes
  have hr := B.returns
  have hts := atoms_spec (ws := Cond.code y cc maxL (some .double) :: WL) B.pre
  have hown : s.vm.findClass y.cls = some m.cls := findClass_of_methodNamed B.named
  have hlocks := B.notSynchronized
  subst hsz
  have hD := hD0.self (sz := s.heap.size)
  have hl := lv_entry av (n := maxL) hlen
  rw [lg_entry_eq]
  refine body p e s m av.toArray below meth c _ (va_A wc s.heap.size) _ hx hb hml hown (fun w h => hts w (List.mem_cons_of_mem _ h)) hK hP hD va_S.rf (fun q h => Or.inr h) hG hl (fun H locs ls pc v ws hP2 hS2 hws hv hd => ?_) rfl
  subst hws; subst hv
  exact W.dret (v := v) hx hb hr (fun t ht hW => ⟨⟨v, (), rfl, rfl, by show va_P D vwCl ws t.heap; rw [ht]; exact hP2⟩, hS2.F ht⟩) hS2.2.2 hd
theorem mofV (hy : plainName y.cls = true) (hlen : (lg_sl av).length ≤ maxL)
    (body : ∀ (p : Program) (e : Env) (s : State) (m : MethodId) (args : Array Value) (below : List Frame) (meth : Method) (c : Code) (Q : State → Prop) (A : Nat → Prop) (ls : Array Slot), p.tables.exec = Jvm.exec → c.code = cc → c.maxLocals = maxL → s.vm.findClass y.cls = some m.cls → (∀ w ∈ WL, w.before args s = true) → va_K D vwCl tys s → va_P D vwCl wc s.heap → va_D A wc → va_S A s.heap s.heap [] → (∀ q, s.heap.size ≤ q → A q) → GI A s s.heap → lv_has ls maxL (lv_args 0 av) → (∀ (H : Heap) (locs : List Loc) (ls : Array Slot) (pc : Nat) (ws : va_W), va_P D vwCl ws H → va_S A s.heap H locs → ws = w1 → decode cc pc = .ok (.return_, 1) → W p l e rm s m args below meth c H locs 0 0 Q (F0 m pc ls [])) → s.heap.size = sz → W p l e rm s m args below meth c s.heap [] 0 0 Q (F0 m 0 ls [])) :
    Met l y (Cond.code y cc maxL (none) :: WL) rm (preM D tys wc sz av) (postV D w1 wc sz) 0 0 (va_A wc sz) := by
  refine Met.ofW (cc := cc) (maxL := maxL) (ret := (none)) hy rfl ?_
  intro p e s m args below meth c s₁ B hml hv
  obtain ⟨rfl, hsz, hP, hK, hD0, hG⟩ := hv
  have hx := B.exec
  have hb := B.bytes
  have hr := B.returns
  have hts := atoms_spec (ws := Cond.code y cc maxL (none) :: WL) B.pre
  have hown : s.vm.findClass y.cls = some m.cls := findClass_of_methodNamed B.named
  have hlocks := B.notSynchronized
  subst hsz
  have hD := hD0.self (sz := s.heap.size)
  have hl := lv_entry av (n := maxL) hlen
  rw [lg_entry_eq]
  refine body p e s m av.toArray below meth c _ (va_A wc s.heap.size) _ hx hb hml hown (fun w h => hts w (List.mem_cons_of_mem _ h)) hK hP hD va_S.rf (fun q h => Or.inr h) hG hl (fun H locs ls pc ws hP2 hS2 hws hd => ?_) rfl
  subst hws
  exact W.vret hx hb hr (fun t ht hW => ⟨⟨(), rfl, trivial, by show va_P D vwCl ws t.heap; rw [ht]; exact hP2⟩, hS2.F ht⟩) hS2.2.2 hd
end KM
