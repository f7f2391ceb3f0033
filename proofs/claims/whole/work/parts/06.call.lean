def okR (rb : Nat) (i : Jvm.ClassFile.Instr) : Bool := match i with
  | .ireturn => Nat.ble rb 1
  | .lreturn => Nat.beq rb 2
  | .return_ => Nat.beq rb 3
  | _ => true
/-! contracts: as: the receiver and the arguments, as indices; the memory before; post: the answer and the memory behind -/
def SX (q : Aq) (U : State) (H : Heap) : Prop := SL q U H ∧ va_AO Rlit U ∧ va_AO Rrul U ∧ (∀ x ∈ NLs, va_Nw (.methodLinkNest x.1 x.2.1 x.2.2.1 x.2.2.2) U) ∧ va_Nw (.fieldLinkNest Rrb nlf Rpf "LIBRARY" "[I" Rpf) U
theorem SX.same {q : Aq} {u U : State} {H : Heap} (h : u.vm = U.vm) (hS : SX q u H) : SX q U H :=
  ⟨hS.1.moved (by rw [h]; exact Vm.Alike.refl _), hS.2.1.moved (by rw [h]; exact Vm.Alike.refl _), hS.2.2.1.moved (by rw [h]; exact Vm.Alike.refl _), fun x hx => va_Nw.same rfl h (hS.2.2.2.1 x hx), va_Nw.same rfl h hS.2.2.2.2⟩
theorem SX.warm {q : Aq} {s U : State} {H H1 : Heap} (hW : s.WarmedH U.vm) (hS : SX q s H) (hq : ∀ a : Nat, a < H.size → ¬ q.1 ≤ a → H1[a]? = H[a]?) : SX q U H1 :=
  ⟨(hS.1.moved hW.alike).kept hq, hS.2.1.moved hW.alike, hS.2.2.1.moved hW.alike, fun x hx => va_Nw.warmM hW (hS.2.2.2.1 x hx), va_Nw.warmF hW hS.2.2.2.2⟩
def Pk (q : Aq) (D : va_G) (G : Nat → ClassId) (as : List Value) (μ : Mm) : Array Value → State → Prop := fun v U => v = (as.map (tv q)).toArray ∧ Wd q D G μ U.heap ∧ va_K D vwCl (tyl G) U ∧ SX q U U.heap
def Qk (q : Aq) (D : va_G) (G : Nat → ClassId) (μ : Mm) (mc ms : Nat) (post : Option Value → Mm → Prop) : Array Value → State → Outcome → State → Prop := fun _ st oc t => ∃ (r : Option Value) (μ' : Mm), oc = .returned (r.map (tv q)) ∧ post r μ' ∧ μ'.1 = μ.1 + mc ∧ cz μ'.1 = cz μ.1 + ms ∧ Wd q D G μ' t.heap ∧ ∀ a : Nat, a < q.1 → t.heap[a]? = st.heap[a]?
def Ct (l : Launch) (y : MethodName) (ws : List Cond) (rm : Room) (as : List Value) (μ : Mm) (mc ms : Nat) (post : Option Value → Mm → Prop) : Prop := ∀ (q : Aq) (D : va_G) (G : Nat → ClassId), Met l y ws rm (Pk q D G as μ) (Qk q D G μ mc ms post) mc ms (fun a => q.1 ≤ a)
theorem Pk.blind {q : Aq} {D : va_G} {G : Nat → ClassId} {as : List Value} {μ : Mm} : FrameBlind (Pk q D G as μ) := fun a U g mk h => ⟨h.1, h.2.1, va_K.moved (u := U) (U := U.calling g mk a) (Vm.Alike.refl U.vm) h.2.2.1, SX.same (u := U) (U := U.calling g mk a) rfl h.2.2.2⟩
theorem gw_in {x : List Cond} (h : ∀ w ∈ x, w ∈ WS) : GoodIn WS x := fun w hw => ⟨h w hw, gw_WS w (h w hw)⟩
def ct8 (r : List Value) : Bool := Nat.ble ((r.map fun v => v.category).sum) 8
theorem ct8_e {q : Aq} {r : List Value} (h : ct8 r = true) : ((r.map (tv q)).map fun v => v.category).sum ≤ 8 := by
  have : (r.map (tv q)).map (fun v => v.category) = r.map fun v => v.category := by
    rw [List.map_map]
    exact List.map_congr_left (fun v _ => tv_cat q v)
  rw [this]
  exact Nat.le_of_ble_eq_true h
/-- what a method knows of its own frame -/
def Cx (p : Program) (s : State) (m : MethodId) (args : Array Value) (c : Code) (cc : ByteArray) (nL : Nat) (q : Aq) (D : va_G) (G : Nat → ClassId) (own : String) : Prop := p.tables.exec = Jvm.exec ∧ c.code = cc ∧ c.maxLocals = nL ∧ s.vm.findClass own = some m.cls ∧ (∀ w ∈ WS, w.before args s = true) ∧ va_K D vwCl (tyl G) s ∧ SX q s s.heap ∧ q.1 ≤ s.heap.size
section KC
variable {p : Program} {l : Launch} {e : Env} {R : Room} {s : State} {m : MethodId} {args : Array Value} {below : List Frame} {meth : Method} {c : Code} {nL : Nat} {q : Aq} {D : va_G} {G : Nat → ClassId} {n0 : Nat} {Q : State → Prop} {cc : ByteArray}

theorem ky_run {pc : Nat} {lv : List (Option Value)} {st rest : List Value} {μ : Mm} {mc ms : Nat} {post : Option Value → Mm → Prop} {a : Array Value}
    (hr : ∀ (H : Heap) (locs : List Loc) (ls : Array Slot), lvH q ls nL lv → Wd q D G μ H → va_S (fun a => q.1 ≤ a) s.heap H locs → n0 ≤ μ.1 → va_Run p l e R s m args below meth c H locs (μ.1 - n0) (cz μ.1 - cz n0) mc ms (F0 m pc ls (st.map (tv q))) (rest.map (tv q)) (Qk q D G μ mc ms post a) (fun a => q.1 ≤ a))
    (kk : ∀ r μ', post r μ' → μ'.1 = μ.1 + mc → KW p l e R s m args below meth c nL q D G n0 Q (pc + 3) lv (r.toList ++ rest) μ') : KW p l e R s m args below meth c nL q D G n0 Q pc lv st μ := by
  intro H locs ls h1 h2 h3 h4 T hT X
  obtain ⟨v, st₀, t, T', L, h0, X', hL, e1, e2, ⟨r, μ', hv, hp, hn1, hc1, hW, hk⟩, stp⟩ := hr H locs ls h1 h2 h3 h4 T hT X
  have hv' : v = r.map (tv q) := Outcome.returned.inj hv
  subst hv'
  have hcz := cz_mono h4
  have hS1 := h3.1
  rw [h2.2.1] at hS1
  have hS : va_S (fun a => q.1 ≤ a) s.heap T'.heap (locs ++ L) := by
    refine ⟨by rw [e1, hW.2.1]; omega, fun a g1 g2 => ?_, fun x hx => ?_⟩
    · rw [e1, hk a (Nat.not_le.mp g2), h0]
      exact h3.2.1 a g1 g2
    · rcases List.mem_append.mp hx with h | h
      · exact h3.2.2 x h
      · exact hL x h
  have hX : Stand p l e R s m args below meth c T' (locs ++ L) (μ'.1 - n0) (cz μ'.1 - cz n0) := by
    have g1 : μ'.1 - n0 = μ.1 - n0 + mc := by omega
    have g2 : cz μ'.1 - cz n0 = cz μ.1 - cz n0 + ms := by omega
    rw [g1, g2]
    exact X'
  obtain ⟨t2, a1, b1⟩ := kk r μ' hp hn1 T'.heap (locs ++ L) ls h1 (by rw [e1]; exact hW) hS (by omega) T' rfl hX
  refine ⟨t2, stp t2 ?_, b1⟩
  have hst : (r.map (tv q)).toList ++ rest.map (tv q) = (r.toList ++ rest).map (tv q) := by
    cases r <;> simp
  show Steps p.tables e below (T'.setTop (F0 m (pc + 3) ls ((r.map (tv q)).toList ++ rest.map (tv q)))) t2
  rw [hst]
  exact a1

theorem ky_cS {y : MethodName} {bytes : ByteArray} {maxL : Nat} {ret : Option FieldType} {rm : Room} {mc ms ix nE pc : Nat} {own : String} {as rest : List Value} {lv : List (Option Value)} {μ : Mm} {post : Option Value → Mm → Prop} (X0 : Cx p s m args c cc nL q D G own) (hM : Ct l y (.code y bytes maxL ret :: WS) rm as μ mc ms post) (hcode : Cond.code y bytes maxL ret ∈ WS) (hl : Cond.methodLink own ix y ∈ WS) (hst : Cond.static y ∈ WS) (hini : Cond.initialized y.cls ∈ WS) (hdn : y.cls ≠ "java/lang/invoke/MethodHandle" ∧ y.cls ≠ "java/lang/invoke/VarHandle" ∧ (parseMethodDescriptor y.desc).map (fun d => d.parameters.length) = some as.length) (hrm : rm.cells = mc ∧ rm.slots = ms) (hRm : rm.frames + 1 ≤ R.frames ∧ 8 + (maxL + 11) + rm.locals ≤ R.locals) (hRc : nE - n0 ≤ R.cells) (hRs : cz nE - cz n0 ≤ R.slots) (hcl : μ.1 + mc ≤ nE) (hsl : cz μ.1 + ms ≤ cz nE) (h8 : ct8 rest = true) (hd : decode cc pc = .ok (.invokestatic ix, 3))
    (kk : ∀ r μ', post r μ' → μ'.1 = μ.1 + mc → KW p l e R s m args below meth c nL q D G n0 Q (pc + 3) lv (r.toList ++ rest) μ') : KW p l e R s m args below meth c nL q D G n0 Q pc lv (as.reverse ++ rest) μ := by
  obtain ⟨hx, hb, hml, ho, hts, hK, hSX, hq0⟩ := X0
  refine ky_run (ms := ms) (a := (as.map (tv q)).toArray) (fun H locs ls h1 h2 h3 h4 => ?_) kk
  have hcz := cz_mono h4
  have hGI : GoodIn WS (Cond.code y bytes maxL ret :: WS) := gw_in (fun w hw => by
    rcases List.mem_cons.mp hw with h | h
    · rw [h]; exact hcode
    · exact h)
  exact va_runS (As := as.map (tv q)) ⟨hx, hb, hml, ho, hts⟩ (hM q D G) ⟨callB_of (as.map (tv q)).length hts hGI rfl hrm.1 hrm.2 (hts _ hini) (hts _ hl) (by rw [List.length_map]; exact hdn) hRm, hts _ hst⟩ ⟨Pk.blind, fun U hU hW => ⟨rfl, by rw [hU]; exact h2, va_K.moved hW.alike hK, by rw [hU]; exact hSX.warm hW (fun a g1 g2 => h3.2.1 a g1 g2)⟩⟩ rfl rfl h1.2.1 (by simp) (lv_room (ct8_e h8)) hd ⟨by omega, by omega⟩
theorem ky_cSN {y : MethodName} {bytes : ByteArray} {maxL : Nat} {ret : Option FieldType} {rm : Room} {mc ms ix nE pc : Nat} {own : String} {as rest : List Value} {lv : List (Option Value)} {μ : Mm} {post : Option Value → Mm → Prop} (X0 : Cx p s m args c cc nL q D G own) {host : String} (hM : Ct l y (.code y bytes maxL ret :: WS) rm as μ mc ms post) (hcode : Cond.code y bytes maxL ret ∈ WS) (hl : (own, ix, y, host) ∈ NLs) (hst : Cond.static y ∈ WS) (hini : Cond.initialized y.cls ∈ WS) (hdn : y.cls ≠ "java/lang/invoke/MethodHandle" ∧ y.cls ≠ "java/lang/invoke/VarHandle" ∧ (parseMethodDescriptor y.desc).map (fun d => d.parameters.length) = some as.length) (hrm : rm.cells = mc ∧ rm.slots = ms) (hRm : rm.frames + 1 ≤ R.frames ∧ 8 + (maxL + 11) + rm.locals ≤ R.locals) (hRc : nE - n0 ≤ R.cells) (hRs : cz nE - cz n0 ≤ R.slots) (hcl : μ.1 + mc ≤ nE) (hsl : cz μ.1 + ms ≤ cz nE) (h8 : ct8 rest = true) (hd : decode cc pc = .ok (.invokestatic ix, 3))
    (kk : ∀ r μ', post r μ' → μ'.1 = μ.1 + mc → KW p l e R s m args below meth c nL q D G n0 Q (pc + 3) lv (r.toList ++ rest) μ') : KW p l e R s m args below meth c nL q D G n0 Q pc lv (as.reverse ++ rest) μ := by
  obtain ⟨hx, hb, hml, ho, hts, hK, hSX, hq0⟩ := X0
  refine ky_run (ms := ms) (a := (as.map (tv q)).toArray) (fun H locs ls h1 h2 h3 h4 => ?_) kk
  have hcz := cz_mono h4
  have hGI : GoodIn WS (Cond.code y bytes maxL ret :: WS) := gw_in (fun w hw => by
    rcases List.mem_cons.mp hw with h | h
    · rw [h]; exact hcode
    · exact h)
  exact va_runSN (As := as.map (tv q)) ⟨hx, hb, hml, ho, hts⟩ (hM q D G) ⟨va_cnB (as.map (tv q)).length hts hGI rfl hrm.1 hrm.2 (hSX.2.2.2.1 _ hl) (hts _ hini) (by rw [List.length_map]; exact hdn) hRm, hts _ hst, trivial⟩ ⟨Pk.blind, fun U hU hW => ⟨rfl, by rw [hU]; exact h2, va_K.moved hW.alike hK, by rw [hU]; exact hSX.warm hW (fun a g1 g2 => h3.2.1 a g1 g2)⟩⟩ rfl rfl h1.2.1 (by simp) (lv_room (ct8_e h8)) hd ⟨by omega, by omega⟩
theorem ky_cI {y : MethodName} {bytes : ByteArray} {maxL : Nat} {ret : Option FieldType} {rm : Room} {mc ms ix nE pc : Nat} {own : String} {as rest : List Value} {lv : List (Option Value)} {μ : Mm} {post : Option Value → Mm → Prop} (X0 : Cx p s m args c cc nL q D G own) {k : Nat} (hret : ret = none) (hM : Ct l y (.code y bytes maxL ret :: WS) rm (.ref k :: as) μ mc ms post) (hcode : Cond.code y bytes maxL ret ∈ WS) (hl : Cond.methodLink own ix y ∈ WS) (hin : Cond.instanceMethod y ∈ WS) (hini : Cond.initialized y.cls ∈ WS) (hy1 : y.name = "<init>") (hdn : y.cls ≠ "java/lang/invoke/MethodHandle" ∧ y.cls ≠ "java/lang/invoke/VarHandle" ∧ (parseMethodDescriptor y.desc).map (fun d => d.parameters.length) = some as.length) (hrm : rm.cells = mc ∧ rm.slots = ms) (hRm : rm.frames + 1 ≤ R.frames ∧ 8 + (maxL + 11) + rm.locals ≤ R.locals) (hRc : nE - n0 ≤ R.cells) (hRs : cz nE - cz n0 ≤ R.slots) (hcl : μ.1 + mc ≤ nE) (hsl : cz μ.1 + ms ≤ cz nE) (h8 : ct8 rest = true) (hd : decode cc pc = .ok (.invokespecial ix, 3))
    (kk : ∀ r μ', post r μ' → μ'.1 = μ.1 + mc → KW p l e R s m args below meth c nL q D G n0 Q (pc + 3) lv (r.toList ++ rest) μ') : KW p l e R s m args below meth c nL q D G n0 Q pc lv (as.reverse ++ .ref k :: rest) μ := by
  subst hret
  obtain ⟨hx, hb, hml, ho, hts, hK, hSX, hq0⟩ := X0
  refine ky_run (ms := ms) (a := (Value.ref (ra q k) :: as.map (tv q)).toArray) (fun H locs ls h1 h2 h3 h4 => ?_) kk
  have hcz := cz_mono h4
  have hGI : GoodIn WS (Cond.code y bytes maxL none :: WS) := gw_in (fun w hw => by
    rcases List.mem_cons.mp hw with h | h
    · rw [h]; exact hcode
    · exact h)
  exact va_runI (As := as.map (tv q)) (b := ra q k) ⟨hx, hb, hml, ho, hts⟩ (hM q D G) ⟨callB_of (as.map (tv q)).length hts hGI rfl hrm.1 hrm.2 (hts _ hini) (hts _ hl) (by rw [List.length_map]; exact hdn) hRm, hy1, hts _ hin⟩ ⟨Pk.blind, fun U hU hW => ⟨rfl, by rw [hU]; exact h2, va_K.moved hW.alike hK, by rw [hU]; exact hSX.warm hW (fun a g1 g2 => h3.2.1 a g1 g2)⟩⟩ rfl rfl h1.2.1 (by simp [tv]) (lv_room (ct8_e h8)) hd ⟨by omega, by omega⟩
theorem ky_cIN {y : MethodName} {bytes : ByteArray} {maxL : Nat} {ret : Option FieldType} {rm : Room} {mc ms ix nE pc : Nat} {own : String} {as rest : List Value} {lv : List (Option Value)} {μ : Mm} {post : Option Value → Mm → Prop} (X0 : Cx p s m args c cc nL q D G own) {k : Nat} {host : String} (hret : ret = none) (hM : Ct l y (.code y bytes maxL ret :: WS) rm (.ref k :: as) μ mc ms post) (hcode : Cond.code y bytes maxL ret ∈ WS) (hl : (own, ix, y, host) ∈ NLs) (hin : Cond.instanceMethod y ∈ WS) (hini : Cond.initialized y.cls ∈ WS) (hy1 : y.name = "<init>") (hdn : y.cls ≠ "java/lang/invoke/MethodHandle" ∧ y.cls ≠ "java/lang/invoke/VarHandle" ∧ (parseMethodDescriptor y.desc).map (fun d => d.parameters.length) = some as.length) (hrm : rm.cells = mc ∧ rm.slots = ms) (hRm : rm.frames + 1 ≤ R.frames ∧ 8 + (maxL + 11) + rm.locals ≤ R.locals) (hRc : nE - n0 ≤ R.cells) (hRs : cz nE - cz n0 ≤ R.slots) (hcl : μ.1 + mc ≤ nE) (hsl : cz μ.1 + ms ≤ cz nE) (h8 : ct8 rest = true) (hd : decode cc pc = .ok (.invokespecial ix, 3))
    (kk : ∀ r μ', post r μ' → μ'.1 = μ.1 + mc → KW p l e R s m args below meth c nL q D G n0 Q (pc + 3) lv (r.toList ++ rest) μ') : KW p l e R s m args below meth c nL q D G n0 Q pc lv (as.reverse ++ .ref k :: rest) μ := by
  subst hret
  obtain ⟨hx, hb, hml, ho, hts, hK, hSX, hq0⟩ := X0
  refine ky_run (ms := ms) (a := (Value.ref (ra q k) :: as.map (tv q)).toArray) (fun H locs ls h1 h2 h3 h4 => ?_) kk
  have hcz := cz_mono h4
  have hGI : GoodIn WS (Cond.code y bytes maxL none :: WS) := gw_in (fun w hw => by
    rcases List.mem_cons.mp hw with h | h
    · rw [h]; exact hcode
    · exact h)
  exact va_runIN (As := as.map (tv q)) (b := ra q k) ⟨hx, hb, hml, ho, hts⟩ (hM q D G) ⟨va_cnB (as.map (tv q)).length hts hGI rfl hrm.1 hrm.2 (hSX.2.2.2.1 _ hl) (hts _ hini) (by rw [List.length_map]; exact hdn) hRm, hy1, hts _ hin⟩ ⟨Pk.blind, fun U hU hW => ⟨rfl, by rw [hU]; exact h2, va_K.moved hW.alike hK, by rw [hU]; exact hSX.warm hW (fun a g1 g2 => h3.2.1 a g1 g2)⟩⟩ rfl rfl h1.2.1 (by simp [tv]) (lv_room (ct8_e h8)) hd ⟨by omega, by omega⟩
theorem ky_cV {y : MethodName} {bytes : ByteArray} {maxL : Nat} {ret : Option FieldType} {rm : Room} {mc ms ix nE pc : Nat} {own : String} {as rest : List Value} {lv : List (Option Value)} {μ : Mm} {post : Option Value → Mm → Prop} (X0 : Cx p s m args c cc nL q D G own) {k ci : Nat} {r0 : vw_C} (hM : Ct l y (.code y bytes maxL ret :: WS) rm (.ref k :: as) μ mc ms post) (hcode : Cond.code y bytes maxL ret ∈ WS) (hl : Cond.methodLink own ix y ∈ WS) (hin : Cond.instanceMethod y ∈ WS) (hse : Cond.selects y.cls y y ∈ WS) (hini : Cond.initialized y.cls ∈ WS) (hc : vwCl[ci]? = some r0) (hr0 : r0.1 = y.cls) (hk : isO μ k ci = true) (hdn : y.cls ≠ "java/lang/invoke/MethodHandle" ∧ y.cls ≠ "java/lang/invoke/VarHandle" ∧ (parseMethodDescriptor y.desc).map (fun d => d.parameters.length) = some as.length) (hrm : rm.cells = mc ∧ rm.slots = ms) (hRm : rm.frames + 1 ≤ R.frames ∧ 8 + (maxL + 11) + rm.locals ≤ R.locals) (hRc : nE - n0 ≤ R.cells) (hRs : cz nE - cz n0 ≤ R.slots) (hcl : μ.1 + mc ≤ nE) (hsl : cz μ.1 + ms ≤ cz nE) (h8 : ct8 rest = true) (hd : decode cc pc = .ok (.invokevirtual ix, 3))
    (kk : ∀ r μ', post r μ' → μ'.1 = μ.1 + mc → KW p l e R s m args below meth c nL q D G n0 Q (pc + 3) lv (r.toList ++ rest) μ') : KW p l e R s m args below meth c nL q D G n0 Q pc lv (as.reverse ++ .ref k :: rest) μ := by
  obtain ⟨hx, hb, hml, ho, hts, hK, hSX, hq0⟩ := X0
  refine ky_run (ms := ms) (a := (Value.ref (ra q k) :: as.map (tv q)).toArray) (fun H locs ls h1 h2 h3 h4 => ?_) kk
  have hcz := cz_mono h4
  have hGI : GoodIn WS (Cond.code y bytes maxL ret :: WS) := gw_in (fun w hw => by
    rcases List.mem_cons.mp hw with h | h
    · rw [h]; exact hcode
    · exact h)
  obtain ⟨hk1, hk2⟩ := isO_e hk
  have hat := h2.2.2 k hk2
  rw [cx_o hk1] at hat
  have h9 := h2.1
  have hrk : ra q k = q.1 + k := ra_lt (by omega)
  have hrec := va_recv (q0 := 0) hK (va_P1 hat) hc rfl
  rw [hr0, ← hrk] at hrec
  exact va_runV (As := as.map (tv q)) (b := ra q k) (C := y.cls) ⟨hx, hb, hml, ho, hts⟩ (hM q D G) ⟨callB_of (as.map (tv q)).length hts hGI rfl hrm.1 hrm.2 (hts _ hini) (hts _ hl) (by rw [List.length_map]; exact hdn) hRm, hts _ hin, hts _ hse⟩ ⟨Pk.blind, hrec, fun U hU hW => ⟨rfl, by rw [hU]; exact h2, va_K.moved hW.alike hK, by rw [hU]; exact hSX.warm hW (fun a g1 g2 => h3.2.1 a g1 g2)⟩⟩ rfl rfl h1.2.1 (by simp [tv]) (lv_room (ct8_e h8)) hd ⟨by omega, by omega⟩

theorem ky_objI {pc ix k nE : Nat} {own : String} {lv : List (Option Value)} {rest : List Value} {μ : Mm} (X0 : Cx p s m args c cc nL q D G own) (hl : Cond.methodLink own ix objectInit ∈ WS) (hin : Cond.instanceMethod objectInit ∈ WS) (hcode : Cond.code objectInit ⟨#[0xb1]⟩ 1 none ∈ WS) (hRm : 1 ≤ R.frames ∧ 20 ≤ R.locals) (h8 : ct8 rest = true) (hd : decode cc pc = .ok (.invokespecial ix, 3))
    (kk : KW p l e R s m args below meth c nL q D G n0 Q (pc + 3) lv rest μ) : KW p l e R s m args below meth c nL q D G n0 Q pc lv (.ref k :: rest) μ := by
  obtain ⟨hx, hb, hml, ho, hts, hK, hSX, hq0⟩ := X0
  intro H locs ls h1 h2 h3 h4
  have h9 := ct8_e (q := q) h8
  exact W.objInit hx hb ho (hts _ hl) (hts _ hin) (hts _ hcode) rfl (by rw [hml]; exact h1.2.1) rfl hd hRm.1 (by show 2 * 0 + _ + 12 ≤ _; omega) (kk H locs ls h1 h2 h3 h4)
theorem ky_max {pc ix : Nat} {own : String} {x y : Int32} {lv : List (Option Value)} {rest : List Value} {μ : Mm} (X0 : Cx p s m args c cc nL q D G own) (hl : Cond.methodLink own ix Lib.Math.max.name ∈ WS) (hst : Cond.static Lib.Math.max.name ∈ WS) (hini : Cond.initialized "java/lang/Math" ∈ WS) (hcode : Cond.code Lib.Math.max.name Lib.Math.max.code 2 (some .int) ∈ WS) (hRm : 1 ≤ R.frames ∧ 21 ≤ R.locals) (hRc : μ.1 - n0 ≤ R.cells) (hRs : cz μ.1 - cz n0 ≤ R.slots) (h8 : ct8 rest = true) (hd : decode cc pc = .ok (.invokestatic ix, 3))
    (kk : KW p l e R s m args below meth c nL q D G n0 Q (pc + 3) lv (.int (if x < y then y else x) :: rest) μ) : KW p l e R s m args below meth c nL q D G n0 Q pc lv (.int y :: .int x :: rest) μ := by
  obtain ⟨hx, hb, hml, ho, hts, hK, hSX, hq0⟩ := X0
  intro H locs ls h1 h2 h3 h4
  have h9 := ct8_e (q := q) h8
  exact va_mmax hx hb (by rw [hml]; exact h1.2.1.symm) ho (hts _ hl) (hts _ hst) (hts _ hini) (hts _ hcode) hRm.1 (by omega) hRc hRs hd (kk H locs ls h1 h2 h3 h4)
end KC
/-- a call of a contract: n stack cells are the arguments -/
def trF (n : Nat) (pre : List Value → Mm → Prop) (post : List Value → Mm → Option Value → Mm → Prop) : List Value → Mm → (List Value → Mm → Prop) → Prop := fun st μ P => pre (st.take n).reverse μ ∧ Nat.ble n st.length = true ∧ ct8 (st.drop n) = true ∧ ∀ r μ', post (st.take n).reverse μ r μ' → P (r.toList ++ st.drop n) μ'
def preV (ci : Nat) (f : Nat → List Value → Mm → Prop) : List Value → Mm → Prop := fun as μ => match as with
  | .ref k :: r => isO μ k ci = true ∧ f k r μ
  | _ => False
theorem preV_e {ci : Nat} {f : Nat → List Value → Mm → Prop} {as : List Value} {μ : Mm} (h : preV ci f as μ) : ∃ k r, as = .ref k :: r ∧ isO μ k ci = true ∧ f k r μ := by
  unfold preV at h; split at h
  · exact ⟨_, _, rfl, h⟩
  · exact h.elim
/-- a method's contract, for every memory -/
def Cn (y : MethodName) (bytes : ByteArray) (maxL : Nat) (ret : Option FieldType) (rm : Room) (n mc ms : Nat) (pre : List Value → Mm → Prop) (post : List Value → Mm → Option Value → Mm → Prop) : Prop := ∀ (l : Launch) (as : List Value) (μ : Mm), as.length = n → pre as μ → Ct l y (.code y bytes maxL ret :: WS) rm as μ mc ms (post as μ)
/-- a call's place is sound -/
def CS (l : Launch) (own : String) (cc : ByteArray) (nL : Nat) (R : Room) (n0 nE : Nat) (C : Cf) (x : Nat × En) : Prop := isInv x.2.1 = true → ∀ (p : Program) (e : Env) (s : State) (m : MethodId) (args : Array Value) (below : List Frame) (meth : Method) (c : Code) (q : Aq) (D : va_G) (G : Nat → ClassId) (Q : State → Prop), Cx p s m args c cc nL q D G own → nE - n0 ≤ R.cells → cz nE - cz n0 ≤ R.slots → ∀ (lv : List (Option Value)) (st : List Value) (μ : Mm) (P : List Value → Mm → Prop), (∀ st' μ', P st' μ' → KW p l e R s m args below meth c nL q D G n0 Q (x.1 + 3) lv st' μ') → C x.2.2.2.2.2.1 st μ P → KW p l e R s m args below meth c nL q D G n0 Q x.1 lv st μ
theorem CS.no {l : Launch} {own : String} {cc : ByteArray} {nL : Nat} {R : Room} {n0 nE : Nat} {C : Cf} {x : Nat × En} (h : isInv x.2.1 = false) : CS l own cc nL R n0 nE C x := fun h' => by rw [h] at h'; cases h'
theorem tk_rev {n : Nat} {st : List Value} : st = ((st.take n).reverse).reverse ++ st.drop n := by
  rw [List.reverse_reverse, List.take_append_drop]

theorem CS.S {l : Launch} {own : String} {cc : ByteArray} {nL : Nat} {R : Room} {n0 nE : Nat} {C : Cf} {pc ix : Nat} {x : En} {y : MethodName} {bytes : ByteArray} {maxL : Nat} {ret : Option FieldType} {rm : Room} {n mc ms : Nat} {post : List Value → Mm → Option Value → Mm → Prop} {pre : List Value → Mm → Prop} (hM : Cn y bytes maxL ret rm n mc ms pre post) (hcode : Cond.code y bytes maxL ret ∈ WS) (hl : Cond.methodLink own ix y ∈ WS) (hst : Cond.static y ∈ WS) (hini : Cond.initialized y.cls ∈ WS) (hdn : y.cls ≠ "java/lang/invoke/MethodHandle" ∧ y.cls ≠ "java/lang/invoke/VarHandle" ∧ (parseMethodDescriptor y.desc).map (fun d => d.parameters.length) = some n) (hrm : rm.cells = mc ∧ rm.slots = ms) (hRm : rm.frames + 1 ≤ R.frames ∧ 8 + (maxL + 11) + rm.locals ≤ R.locals) (hfit : ∀ as μ, pre as μ → μ.1 + mc ≤ nE ∧ cz μ.1 + ms ≤ cz nE) (hC : C x.2.2.2.2.1 = trF n pre post) (hd : decode cc pc = .ok (.invokestatic ix, 3)) : CS l own cc nL R n0 nE C (pc, x) := by
  intro _ p e s m args below meth c q D G Q X0 hRc hRs lv st μ P hP h
  have h : trF n pre post st μ P := by rw [← hC]; exact h
  obtain ⟨g1, g2, g3, g4⟩ := h
  have hlen : ((st.take n).reverse).length = n := by
    have := Nat.le_of_ble_eq_true g2
    simp; omega
  rw [tk_rev (n := n) (st := st)]
  obtain ⟨f1, f2⟩ := hfit _ _ g1
  exact ky_cS X0 (hM l _ μ hlen g1) hcode hl hst hini (by rw [hlen]; exact hdn) hrm hRm hRc hRs f1 f2 g3 hd (fun r μ' hr _ => hP _ _ (g4 r μ' hr))

theorem CS.SN {l : Launch} {own : String} {cc : ByteArray} {nL : Nat} {R : Room} {n0 nE : Nat} {C : Cf} {pc ix : Nat} {x : En} {y : MethodName} {bytes : ByteArray} {maxL : Nat} {ret : Option FieldType} {rm : Room} {n mc ms : Nat} {post : List Value → Mm → Option Value → Mm → Prop} {host : String} {pre : List Value → Mm → Prop} (hM : Cn y bytes maxL ret rm n mc ms pre post) (hcode : Cond.code y bytes maxL ret ∈ WS) (hl : (own, ix, y, host) ∈ NLs) (hst : Cond.static y ∈ WS) (hini : Cond.initialized y.cls ∈ WS) (hdn : y.cls ≠ "java/lang/invoke/MethodHandle" ∧ y.cls ≠ "java/lang/invoke/VarHandle" ∧ (parseMethodDescriptor y.desc).map (fun d => d.parameters.length) = some n) (hrm : rm.cells = mc ∧ rm.slots = ms) (hRm : rm.frames + 1 ≤ R.frames ∧ 8 + (maxL + 11) + rm.locals ≤ R.locals) (hfit : ∀ as μ, pre as μ → μ.1 + mc ≤ nE ∧ cz μ.1 + ms ≤ cz nE) (hC : C x.2.2.2.2.1 = trF n pre post) (hd : decode cc pc = .ok (.invokestatic ix, 3)) : CS l own cc nL R n0 nE C (pc, x) := by
  intro _ p e s m args below meth c q D G Q X0 hRc hRs lv st μ P hP h
  have h : trF n pre post st μ P := by rw [← hC]; exact h
  obtain ⟨g1, g2, g3, g4⟩ := h
  have hlen : ((st.take n).reverse).length = n := by
    have := Nat.le_of_ble_eq_true g2
    simp; omega
  rw [tk_rev (n := n) (st := st)]
  obtain ⟨f1, f2⟩ := hfit _ _ g1
  exact ky_cSN X0 (hM l _ μ hlen g1) hcode hl hst hini (by rw [hlen]; exact hdn) hrm hRm hRc hRs f1 f2 g3 hd (fun r μ' hr _ => hP _ _ (g4 r μ' hr))

theorem CS.IN {l : Launch} {own : String} {cc : ByteArray} {nL : Nat} {R : Room} {n0 nE : Nat} {C : Cf} {pc ix : Nat} {x : En} {y : MethodName} {bytes : ByteArray} {maxL : Nat} {ret : Option FieldType} {rm : Room} {n mc ms : Nat} {post : List Value → Mm → Option Value → Mm → Prop} {ci : Nat} {f : Nat → List Value → Mm → Prop} (hM : Cn y bytes maxL ret rm (n + 1) mc ms (preV ci f) post) (hcode : Cond.code y bytes maxL ret ∈ WS) {host : String} (hl : (own, ix, y, host) ∈ NLs) (hin : Cond.instanceMethod y ∈ WS) (hy1 : y.name = "<init>") (hret : ret = none) (hini : Cond.initialized y.cls ∈ WS) (hdn : y.cls ≠ "java/lang/invoke/MethodHandle" ∧ y.cls ≠ "java/lang/invoke/VarHandle" ∧ (parseMethodDescriptor y.desc).map (fun d => d.parameters.length) = some n) (hrm : rm.cells = mc ∧ rm.slots = ms) (hRm : rm.frames + 1 ≤ R.frames ∧ 8 + (maxL + 11) + rm.locals ≤ R.locals) (hfit : ∀ as μ, preV ci f as μ → μ.1 + mc ≤ nE ∧ cz μ.1 + ms ≤ cz nE) (hC : C x.2.2.2.2.1 = trF (n + 1) (preV ci f) post) (hd : decode cc pc = .ok (.invokespecial ix, 3)) : CS l own cc nL R n0 nE C (pc, x) := by
  intro _ p e s m args below meth c q D G Q X0 hRc hRs lv st μ P hP h
  have h : trF (n + 1) (preV ci f) post st μ P := by rw [← hC]; exact h
  obtain ⟨g1, g2, g3, g4⟩ := h
  have hlen : ((st.take (n + 1)).reverse).length = n + 1 := by
    have := Nat.le_of_ble_eq_true g2
    simp; omega
  rw [tk_rev (n := n + 1) (st := st)]
  obtain ⟨f1, f2⟩ := hfit _ _ g1
  have g1' := g1
  obtain ⟨k, as, has, hk, -⟩ := preV_e g1
  rw [has] at hlen g1' g4 ⊢
  have hlen' : as.length = n := by simpa using hlen
  have e9 : (Value.ref k :: as).reverse ++ st.drop (n + 1) = as.reverse ++ .ref k :: st.drop (n + 1) := by simp
  rw [e9]
  exact ky_cIN X0 hret (hM l _ μ hlen g1') hcode hl hin hini hy1 (by rw [hlen']; exact hdn) hrm hRm hRc hRs f1 f2 g3 hd (fun r μ' hr _ => hP _ _ (g4 r μ' hr))

theorem CS.I {l : Launch} {own : String} {cc : ByteArray} {nL : Nat} {R : Room} {n0 nE : Nat} {C : Cf} {pc ix : Nat} {x : En} {y : MethodName} {bytes : ByteArray} {maxL : Nat} {ret : Option FieldType} {rm : Room} {n mc ms : Nat} {post : List Value → Mm → Option Value → Mm → Prop} {ci : Nat} {f : Nat → List Value → Mm → Prop} (hM : Cn y bytes maxL ret rm (n + 1) mc ms (preV ci f) post) (hcode : Cond.code y bytes maxL ret ∈ WS) (hl : Cond.methodLink own ix y ∈ WS) (hin : Cond.instanceMethod y ∈ WS) (hy1 : y.name = "<init>") (hret : ret = none) (hini : Cond.initialized y.cls ∈ WS) (hdn : y.cls ≠ "java/lang/invoke/MethodHandle" ∧ y.cls ≠ "java/lang/invoke/VarHandle" ∧ (parseMethodDescriptor y.desc).map (fun d => d.parameters.length) = some n) (hrm : rm.cells = mc ∧ rm.slots = ms) (hRm : rm.frames + 1 ≤ R.frames ∧ 8 + (maxL + 11) + rm.locals ≤ R.locals) (hfit : ∀ as μ, preV ci f as μ → μ.1 + mc ≤ nE ∧ cz μ.1 + ms ≤ cz nE) (hC : C x.2.2.2.2.1 = trF (n + 1) (preV ci f) post) (hd : decode cc pc = .ok (.invokespecial ix, 3)) : CS l own cc nL R n0 nE C (pc, x) := by
  intro _ p e s m args below meth c q D G Q X0 hRc hRs lv st μ P hP h
  have h : trF (n + 1) (preV ci f) post st μ P := by rw [← hC]; exact h
  obtain ⟨g1, g2, g3, g4⟩ := h
  have hlen : ((st.take (n + 1)).reverse).length = n + 1 := by
    have := Nat.le_of_ble_eq_true g2
    simp; omega
  rw [tk_rev (n := n + 1) (st := st)]
  obtain ⟨f1, f2⟩ := hfit _ _ g1
  have g1' := g1
  obtain ⟨k, as, has, hk, -⟩ := preV_e g1
  rw [has] at hlen g1' g4 ⊢
  have hlen' : as.length = n := by simpa using hlen
  have e9 : (Value.ref k :: as).reverse ++ st.drop (n + 1) = as.reverse ++ .ref k :: st.drop (n + 1) := by simp
  rw [e9]
  exact ky_cI X0 hret (hM l _ μ hlen g1') hcode hl hin hini hy1 (by rw [hlen']; exact hdn) hrm hRm hRc hRs f1 f2 g3 hd (fun r μ' hr _ => hP _ _ (g4 r μ' hr))

theorem CS.V {l : Launch} {own : String} {cc : ByteArray} {nL : Nat} {R : Room} {n0 nE : Nat} {C : Cf} {pc ix : Nat} {x : En} {y : MethodName} {bytes : ByteArray} {maxL : Nat} {ret : Option FieldType} {rm : Room} {n mc ms : Nat} {post : List Value → Mm → Option Value → Mm → Prop} {ci : Nat} {f : Nat → List Value → Mm → Prop} (hM : Cn y bytes maxL ret rm (n + 1) mc ms (preV ci f) post) (hcode : Cond.code y bytes maxL ret ∈ WS) (hl : Cond.methodLink own ix y ∈ WS) (hin : Cond.instanceMethod y ∈ WS) (hse : Cond.selects y.cls y y ∈ WS) {r0 : vw_C} (hc : vwCl[ci]? = some r0) (hr0 : r0.1 = y.cls) (hini : Cond.initialized y.cls ∈ WS) (hdn : y.cls ≠ "java/lang/invoke/MethodHandle" ∧ y.cls ≠ "java/lang/invoke/VarHandle" ∧ (parseMethodDescriptor y.desc).map (fun d => d.parameters.length) = some n) (hrm : rm.cells = mc ∧ rm.slots = ms) (hRm : rm.frames + 1 ≤ R.frames ∧ 8 + (maxL + 11) + rm.locals ≤ R.locals) (hfit : ∀ as μ, preV ci f as μ → μ.1 + mc ≤ nE ∧ cz μ.1 + ms ≤ cz nE) (hC : C x.2.2.2.2.1 = trF (n + 1) (preV ci f) post) (hd : decode cc pc = .ok (.invokevirtual ix, 3)) : CS l own cc nL R n0 nE C (pc, x) := by
  intro _ p e s m args below meth c q D G Q X0 hRc hRs lv st μ P hP h
  have h : trF (n + 1) (preV ci f) post st μ P := by rw [← hC]; exact h
  obtain ⟨g1, g2, g3, g4⟩ := h
  have hlen : ((st.take (n + 1)).reverse).length = n + 1 := by
    have := Nat.le_of_ble_eq_true g2
    simp; omega
  rw [tk_rev (n := n + 1) (st := st)]
  obtain ⟨f1, f2⟩ := hfit _ _ g1
  have g1' := g1
  obtain ⟨k, as, has, hk, -⟩ := preV_e g1
  rw [has] at hlen g1' g4 ⊢
  have hlen' : as.length = n := by simpa using hlen
  have e9 : (Value.ref k :: as).reverse ++ st.drop (n + 1) = as.reverse ++ .ref k :: st.drop (n + 1) := by simp
  rw [e9]
  exact ky_cV X0 (hM l _ μ hlen g1') hcode hl hin hse hini hc hr0 hk (by rw [hlen']; exact hdn) hrm hRm hRc hRs f1 f2 g3 hd (fun r μ' hr _ => hP _ _ (g4 r μ' hr))

/-- a method's contract, from its body -/
theorem ky_met {l : Launch} {y : MethodName} {bytes : ByteArray} {maxL : Nat} {ret : Option FieldType} {rm : Room} {own : String} {ini rb nE mc ms : Nat} {cd : List (Nat × En)} {C : Cf} {as : List Value} {μ : Mm} {post : Option Value → Mm → Prop} (hy : plainName y.cls = true) (hown : y.cls = own) (hini : ini = 1 → y.name = "<init>") (hlen : (lvE as).length ≤ maxL) (hrm : rm.cells = mc ∧ rm.slots = ms) (hret : (rb = 0 ∧ ret = some .int) ∨ (rb = 1 ∧ ret = some .boolean) ∨ (rb = 2 ∧ ret = some .long) ∨ (rb = 3 ∧ ret = none)) (hnE : nE = μ.1 + mc) (hz : cz nE = cz μ.1 + ms) (hE : nE ≤ 900)
    (hok : ∀ x ∈ cd, okE own ini bytes x) (hCS : ∀ x ∈ cd, CS l own bytes maxL rm μ.1 nE C x) (hrt : ∀ x ∈ cd, okR rb x.2.1 = true)
    (body : ∀ K : Ky, Spk nE (0, fun _ => 0) rb C post K cd → K 0 (lvp maxL as) [] μ) : Ct l y (.code y bytes maxL ret :: WS) rm as μ mc ms post := by
  intro q D G
  refine Met.ofW (cc := bytes) (maxL := maxL) (ret := ret) hy rfl ?_
  intro p e s m args below meth c s₁ B hml hv
  obtain ⟨rfl, hW, hK, hSX⟩ := hv
  have hx := B.exec
  have hb := B.bytes
  have hr := B.returns
  have hts0 := atoms_spec (ws := .code y bytes maxL ret :: WS) B.pre
  have hts : ∀ w ∈ WS, w.before ((as.map (tv q)).toArray) s = true := fun w hw => hts0 w (List.mem_cons_of_mem _ hw)
  have ho : s.vm.findClass own = some m.cls := by rw [← hown]; exact findClass_of_methodNamed B.named
  have hlocks := B.notSynchronized
  have hnm : ini = 1 → meth.name = "<init>" := fun h => ((name_of_methodNamed B.named B.method).1).trans (hini h)
  have hq0 : q.1 ≤ s.heap.size := by rw [hW.2.1]; exact Nat.le_add_right _ _
  have X0 : Cx p s m ((as.map (tv q)).toArray) c bytes maxL q D G own := ⟨hx, hb, hml, ho, hts, hK, hSX, hq0⟩
  have hRc : nE - μ.1 ≤ rm.cells := by rw [hrm.1]; omega
  have hRs : cz nE - cz μ.1 ≤ rm.slots := by rw [hrm.2]; omega
  have hb4 : ¬ rb = 4 := by rcases hret with h | h | h | h <;> omega
  have S : Spk nE (0, fun _ => 0) rb C post (KW p l e rm s m ((as.map (tv q)).toArray) below meth c maxL q D G μ.1 (MQ below (Qk q D G μ mc ms post) ((as.map (tv q)).toArray) s mc ms (fun a => q.1 ≤ a))) cd := by
    refine ky_step (own := own) (ini := ini) hx hb ho hts hK hSX.1 hSX.2.1 hSX.2.2.1 hSX.2.2.2.2 hnm hRc hRs hE (fun h => absurd h hb4) hok (fun pc x lv st μ' P hm hi hP h => ?_) (fun P pc x lv st μ' hi hd hm h => ?_)
    · exact hCS (pc, x) hm hi p e s m _ below meth c q D G _ X0 hRc hRs lv st μ' P hP h
    · obtain ⟨i, nx, a, w, q1, q2, q3, ts⟩ := x
      have hrb := hrt _ hm
      intro H locs ls h1 h2 h3 h4
      cases i with
      | ireturn =>
        revert h
        match st with
        | [.int v] =>
          intro h
          obtain ⟨g1, g2, g3⟩ := h
          have e1 : μ'.1 - μ.1 = mc := by omega
          have e2 : cz μ'.1 - cz μ.1 = ms := by rw [g1]; omega
          rw [e1, e2]
          have fin : ∀ t : State, t.heap = H → s.WarmedH t.vm → Qk q D G μ mc ms post ((as.map (tv q)).toArray) s (.returned (some (.int v))) t := fun t ht hWm => ⟨some (.int v), μ', rfl, g3, by rw [g1]; exact hnE, by rw [g1]; exact hz, by rw [ht]; exact h2, fun a ha => by rw [ht]; exact h3.2.1 a (by omega) (by omega)⟩
          rcases hret with ⟨r1, r2⟩ | ⟨r1, r2⟩ | ⟨r1, r2⟩ | ⟨r1, r2⟩
          · exact W.iret hx hb (hr.trans r2) fin h3.2.2 hd
          · exact W.zret hx hb (hr.trans r2) (by rcases g2 r1 with h | h <;> rw [h] <;> rfl) fin h3.2.2 hd
          · subst r1; exact absurd (show false = true from hrb) (by decide)
          · subst r1; exact absurd (show false = true from hrb) (by decide)
        | [] => intro h; exact False.elim h
        | .long _ :: _ => intro h; exact False.elim h
        | .float _ :: _ => intro h; exact False.elim h
        | .double _ :: _ => intro h; exact False.elim h
        | .null :: _ => intro h; exact False.elim h
        | .ref _ :: _ => intro h; exact False.elim h
        | .retAddr _ :: _ => intro h; exact False.elim h
        | .int _ :: _ :: _ => intro h; exact False.elim h
      | lreturn =>
        revert h
        match st with
        | [.long v] =>
          intro h
          obtain ⟨g1, g3⟩ := h
          have e1 : μ'.1 - μ.1 = mc := by omega
          have e2 : cz μ'.1 - cz μ.1 = ms := by rw [g1]; omega
          rw [e1, e2]
          have fin : ∀ t : State, t.heap = H → s.WarmedH t.vm → Qk q D G μ mc ms post ((as.map (tv q)).toArray) s (.returned (some (.long v))) t := fun t ht hWm => ⟨some (.long v), μ', rfl, g3, by rw [g1]; exact hnE, by rw [g1]; exact hz, by rw [ht]; exact h2, fun a ha => by rw [ht]; exact h3.2.1 a (by omega) (by omega)⟩
          rcases hret with ⟨r1, r2⟩ | ⟨r1, r2⟩ | ⟨r1, r2⟩ | ⟨r1, r2⟩
          · subst r1; exact absurd (show false = true from hrb) (by decide)
          · subst r1; exact absurd (show false = true from hrb) (by decide)
          · exact W.lret hx hb (hr.trans r2) fin h3.2.2 hd
          · subst r1; exact absurd (show false = true from hrb) (by decide)
        | [] => intro h; exact False.elim h
        | .int _ :: _ => intro h; exact False.elim h
        | .float _ :: _ => intro h; exact False.elim h
        | .double _ :: _ => intro h; exact False.elim h
        | .null :: _ => intro h; exact False.elim h
        | .ref _ :: _ => intro h; exact False.elim h
        | .retAddr _ :: _ => intro h; exact False.elim h
        | .long _ :: _ :: _ => intro h; exact False.elim h
      | return_ =>
        revert h
        match st with
        | [] =>
          intro h
          obtain ⟨g1, g3⟩ := h
          have e1 : μ'.1 - μ.1 = mc := by omega
          have e2 : cz μ'.1 - cz μ.1 = ms := by rw [g1]; omega
          rw [e1, e2]
          have fin : ∀ t : State, t.heap = H → s.WarmedH t.vm → Qk q D G μ mc ms post ((as.map (tv q)).toArray) s (.returned none) t := fun t ht hWm => ⟨none, μ', rfl, g3, by rw [g1]; exact hnE, by rw [g1]; exact hz, by rw [ht]; exact h2, fun a ha => by rw [ht]; exact h3.2.1 a (by omega) (by omega)⟩
          rcases hret with ⟨r1, r2⟩ | ⟨r1, r2⟩ | ⟨r1, r2⟩ | ⟨r1, r2⟩
          · subst r1; exact absurd (show false = true from hrb) (by decide)
          · subst r1; exact absurd (show false = true from hrb) (by decide)
          · subst r1; exact absurd (show false = true from hrb) (by decide)
          · exact W.vret hx hb (hr.trans r2) fin h3.2.2 hd
        | _ :: _ => intro h; exact False.elim h
      | _ => exact absurd (show false = true from hi) (by decide)
  rw [lg_entry_eq]
  have := body _ S s.heap [] _ (lvH.entry (q := q) hlen) hW va_S.rf (Nat.le_refl _)
  rw [Nat.sub_self, Nat.sub_self] at this
  exact this
