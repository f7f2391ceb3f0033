def R_law : String := "ProgramFactsLaw"
def lw_P (b : Addr) (xs : List Int32) (args : Array Value) (s : State) : Prop := args = #[.ref b] ∧ s.IntsAt b xs ∧ xs.length ≤ 2560 ∧ (Jvm.Cond.and given_1 narrow_1).before args s = true
def lw_Q (_ : Array Value) (s : State) (o : Outcome) (t : State) : Prop := o = .returned (some (.int 1)) ∧ Framed s o t [] 600000 7302250
def lw_Z (below : List Frame) (a : Array Value) (s : State) : State → Prop := fun t => ∃ o, t.status = .running ∧ Ended t below o ∧ lw_Q a s o t
/-- the law's own end, with 1 on the stack, nothing written that was there before, its room as the claim has it -/
theorem lw_ret {p : Program} {l : Launch} {e : Env} {s : State} {m : MethodId} {below : List Frame} {meth : Method} {c : Code} {b : Nat} (hx : p.tables.exec = Jvm.exec) (hb : c.code = code) (hr : meth.sig.returnType = ret) (hlocks : meth.locks = false) {pc : Nat} {H : Heap} {ls : Array Slot} (hdg : decode code pc = .ok (.ireturn, 1)) : W p l e room_1 s m #[Value.ref b] below meth c H [] 600000 7302250 (lw_Z below #[Value.ref b] s) (F0 m pc ls [.int 1]) := by
  intro T hT X
  obtain ⟨fs, hret, hrun, hended, hW, hframe⟩ := X.leave (v := some (.int 1)) (hlocks := hlocks) (fun h => by rw [hr] at h; cases h)
  have hmeth' : T.vm.method? m = some meth := X.method'
  refine ⟨T.setFrames fs, ?_, .returned (some (.int 1)), hrun, hended, rfl, ⟨_, rfl⟩, hW, hframe⟩
  jvm_step X.here [X.here.top, hx, hb, hdg, hmeth', hr, ret, narrow_b1]
  (try refine ⟨rfl, ?_⟩); (try refine ⟨rfl, ?_⟩)
  first | (intro acts; rw [hret _ acts rfl rfl rfl]) | rw [hret _ _ rfl rfl rfl]
  exact Steps.refl _
/-- what holds at the law's entry: the machine, the code, the tables' words (any of lw_tbl by 'hts w (by decide +kernel)'), the script of L ints xs at the cell b, what the Statement gives of the start (any of its parts by flat_of_before) -/
def lw_At (p : Program) (s : State) (m : MethodId) (meth : Method) (c : Code) (b L : Nat) (xs : Nat → Int32) : Prop :=
  p.tables.exec = Jvm.exec ∧ c.code = code ∧ meth.sig.returnType = ret ∧ c.maxLocals = 4 ∧ s.vm.findClass R_law = some m.cls ∧ (∀ w ∈ lw_tbl, w.before #[Value.ref b] s = true) ∧ va_X b L xs s s.heap ∧ b < s.heap.size ∧ meth.locks = false ∧ (Jvm.Cond.and given_1 narrow_1).before #[Value.ref b] s = true
/-- the classes and the array classes, as the tables have them -/
theorem lw_K {args : Array Value} {s : State} (hts : ∀ w ∈ WS, w.before args s = true) (hA3 : va_AO Rlit s) (hA4 : va_AO Rrul s) : ∃ (D : va_G) (G : Nat → ClassId), va_K D vwCl (tyl G) s := by
  have hins : ∀ (c : Nat) (r : vw_C), vwCl[c]? = some r → ∃ n, (Cond.instantiable r.1 n).before args s = true := by
    intro c r h
    match c, h with
    | 0, h => cases h; exact ⟨_, hts _ wn_PF⟩
    | 1, h => cases h; exact ⟨_, hts _ wn_PG⟩
    | 2, h => cases h; exact ⟨_, hts _ wn_RS⟩
    | 3, h => cases h; exact ⟨_, hts _ wn_RB⟩
    | 4, h => cases h; exact ⟨_, hts _ wn_RL⟩
    | 5, h => cases h; exact ⟨_, hts _ wn_LI⟩
    | 6, h => cases h; exact ⟨_, hts _ wn_DV⟩
    | 7, h => cases h; exact ⟨_, hts _ wn_RN⟩
    | 8, h => cases h; exact ⟨_, hts _ wn_PM⟩
    | n + 9, h => simp [vwCl] at h
  have h1 : ∀ c : Nat, ∃ (x : ClassId × (Nat → Nat)), ∀ r : vw_C, vwCl[c]? = some r → u_Kn s r.1 r.2.1 r.2.2 x.1 x.2 := by
    intro c
    cases hr : vwCl[c]? with
    | none => exact ⟨(0, fun _ => 0), fun r h => by cases h⟩
    | some r =>
      obtain ⟨n, hn⟩ := hins c r hr
      obtain ⟨cC, iS, hk⟩ := u_known (ws := WS) hts (cf_ws c r hr) hn
      exact ⟨(cC, iS), fun r' h => by cases h; exact hk⟩
  have pr : ∀ ty : FieldType, (∀ C, ty ≠ .object C) → (Cond.arrayClass ty).before args s = true → (match ty with | .object C => False | _ => True) → ∃ cA, ArrOfT s cA ty ∧ s.vm.findClass ("[" ++ ty.toString) = some cA := by
    intro ty _ h _
    obtain ⟨cA, kA, comp, g1, g2, g3⟩ := Cond.arrayClass_spec h
    exact ⟨cA, fun n z => ⟨fun k h => (by cases h), kA, g2, comp, g3⟩, g1⟩
  have po : ∀ C : String, va_AO C s → ∃ cA, ArrOfT s cA (.object C) ∧ va_RA s cA (.object C) := by
    intro C h
    obtain ⟨comp, cA, kA, hcomp, hidx, hkA, hkindA, hnameA⟩ := Cond.arrayOver_spec h
    exact ⟨cA, fun N z => ⟨(fun k h => by cases h), kA, hkA, comp, hkindA⟩, kA, comp, hkA, hkindA, hcomp, hnameA⟩
  obtain ⟨a0, b0, c0⟩ := pr .int (fun _ h => by cases h) (hts _ wa_int) trivial
  obtain ⟨a1, b1, c1⟩ := pr .long (fun _ h => by cases h) (hts _ wa_long) trivial
  obtain ⟨a2, b2, c2⟩ := pr .boolean (fun _ h => by cases h) (hts _ wa_boolean) trivial
  obtain ⟨a3, b3, c3⟩ := po Rlit hA3
  obtain ⟨a4, b4, c4⟩ := po Rrul hA4
  refine ⟨(fun c => (Classical.choose (h1 c)).1, fun c => (Classical.choose (h1 c)).2), fun i => if i = 0 then a0 else if i = 1 then a1 else if i = 2 then a2 else if i = 3 then a3 else a4, fun c r h => Classical.choose_spec (h1 c) r h, ?_⟩
  intro k r h
  match k, h with
  | 0, h => cases h; exact ⟨b0, c0⟩
  | 1, h => cases h; exact ⟨b1, c1⟩
  | 2, h => cases h; exact ⟨b2, c2⟩
  | 3, h => cases h; exact ⟨b3, c3⟩
  | 4, h => cases h; exact ⟨b4, c4⟩
  | n + 5, h => simp [tyl] at h
abbrev tmL : Term := .static Rpf "LIBRARY" "[I"
set_option maxRecDepth 100000 in
theorem lw_el : ∀ j, j < 72 → Cond.eq (.elem tmL (.int (Int32.ofNat j))) (.int (lib j)) ∈ flatC (Jvm.Cond.and given_1 narrow_1) := by decide +kernel
/-- the library's rows at the start -/
theorem lw_SL {args : Array Value} {s : State} (hg : (Jvm.Cond.and given_1 narrow_1).before args s = true) (hl : (Cond.laysStatic Rpf "LIBRARY" "[I").before args s = true) (hi : (Cond.initialized Rpf).before args s = true) (b : Nat) : ∃ t : Nat, SL (s.heap.size, t, b) s s.heap := by
  have hs := flat_of_before _ hg
  have hA : ∀ a : Nat, a < s.heap.size → ¬ (fun a => s.heap.size ≤ a) a := fun a h1 h2 => Nat.not_lt.mpr h2 h1
  obtain ⟨t, ht, hT⟩ := va_Tof (tm := tmL) (ty := .int) (N := 72) (f := fun j => .int (lib j)) (A := fun a => s.heap.size ≤ a) (by decide) (hs _ (by decide +kernel)) (va_eqt (hs _ (by decide +kernel))) (fun j hj => va_eqt (hs _ (lw_el j hj))) hA
  exact ⟨t, va_Zof hl hi ht hA, hT⟩
set_option maxHeartbeats 4000000 in
/-- the law's body, over the own layer -/
theorem ky_law {p : Program} {e : Env} {s : State} {m : MethodId} {below : List Frame} {meth : Method} {c : Code} {l : Launch} {b L : Nat} {xs : Nat → Int32} (C0 : lw_At p s m meth c b L xs) {C : Cf} (hCS : ∀ x ∈ k_LW_law, CS l R_LW code 4 room_1 0 131 C x)
    (body : ∀ K : Ky, Spk 131 (L, xs) 4 C (fun r _ => r = some (.int 1)) K k_LW_law → Cv K → K 0 [some (.ref 1001), none, none, none] [] (0, fun _ _ => 0, fun _ _ => 0, fun _ _ => none)) :
    W p l e room_1 s m #[Value.ref b] below meth c s.heap [] 0 0 (lw_Z below #[Value.ref b] s) (entryFrame m ([Value.ref b] : List Value).toArray 4) := by
  obtain ⟨hx, hb, hr, hml, ho, htb, hX, hbl, hlocks, hgv⟩ := C0
  have hts : ∀ w ∈ WS, w.before #[Value.ref b] s = true := fun w hw => htb w (List.mem_filter.mp hw).1
  have tw : ∀ w ∈ tables_1, w.before #[Value.ref b] s = true := fun w hw => htb w (List.mem_append_right _ hw)
  have hA3 : va_AO Rlit s := va_AO.of (tw (.arrayOver (.object Rlit)) (by decide +kernel))
  have hA4 : va_AO Rrul s := va_AO.of (tw (.arrayOver (.object Rrul)) (by decide +kernel))
  have hls : (Cond.laysStatic Rpf "LIBRARY" "[I").before #[Value.ref b] s = true := tw _ (by decide +kernel)
  have hNL : ∀ x ∈ NLs, va_Nw (.methodLinkNest x.1 x.2.1 x.2.2.1 x.2.2.2) s := fun x hx => va_Nw.of rfl (tw _ ((show ∀ x ∈ NLs, Cond.methodLinkNest x.1 x.2.1 x.2.2.1 x.2.2.2 ∈ tables_1 by decide +kernel) x hx))
  have hnf : va_Nw (.fieldLinkNest Rrb nlf Rpf "LIBRARY" "[I" Rpf) s := va_Nw.of rfl (tw _ (by decide +kernel))
  obtain ⟨t, hSL⟩ := lw_SL hgv hls (hts _ wi_PF) b
  obtain ⟨D, G, hK⟩ := lw_K hts hA3 hA4
  have hSX : SX (s.heap.size, t, b) s s.heap := ⟨hSL, hA3, hA4, hNL, hnf⟩
  have X0 : Cx p s m #[Value.ref b] c code 4 (s.heap.size, t, b) D G R_LW := ⟨hx, hb, hml, ho, hts, hK, hSX, Nat.le_refl _⟩
  have hRc : 131 - 0 ≤ room_1.cells := by decide
  have hRs : cz 131 - cz 0 ≤ room_1.slots := by decide +kernel
  have hZ : cz 131 ≤ 7302250 := by decide +kernel
  have S : Spk 131 (L, xs) 4 C (fun r _ => r = some (.int 1)) (KW p l e room_1 s m #[Value.ref b] below meth c 4 (s.heap.size, t, b) D G 0 (lw_Z below #[Value.ref b] s)) k_LW_law := by
    refine ky_step (own := R_LW) (ini := 0) hx hb ho hts hK hSX.1 hSX.2.1 hSX.2.2.1 hSX.2.2.2.2 (fun h => by cases h) hRc hRs (by decide) (fun _ => ⟨hX, hbl, Nat.not_le.mpr hbl⟩) ok_LW_law (fun pc x lv st μ' P hm hi hP h => ?_) (fun P pc x lv st μ' hi hd hm h => ?_)
    · exact hCS (pc, x) hm hi p e s m _ below meth c _ D G _ X0 hRc hRs lv st μ' P hP h
    · obtain ⟨i, nx, a, w, q1, q2, q3, ts⟩ := x
      have hrb : i = .ireturn := rt_LW_law _ hm hi
      intro H locs ls h1 h2 h3 h4
      subst hrb
      revert h
      match st with
      | [.int v] =>
        intro h
        obtain ⟨g1, g2, g3⟩ := h
        have hv : v = 1 := by
          have g3 : some (Value.int v) = some (.int 1) := g3
          cases g3; rfl
        subst hv
        refine va_forget (fun q hq => h3.2.2 q hq) (W.widen (k := 600000) (n := 7302250) ?_ ?_ ?_)
        · rw [g1]; decide
        · rw [g1]; exact Nat.le_trans (Nat.sub_le _ _) hZ
        · exact lw_ret hx hb hr hlocks hd
      | [] => intro h; exact False.elim h
      | .long _ :: _ => intro h; exact False.elim h
      | .float _ :: _ => intro h; exact False.elim h
      | .double _ :: _ => intro h; exact False.elim h
      | .null :: _ => intro h; exact False.elim h
      | .ref _ :: _ => intro h; exact False.elim h
      | .retAddr _ :: _ => intro h; exact False.elim h
      | .int _ :: _ :: _ => intro h; exact False.elim h
  rw [lg_entry_eq]
  have hW0 : Wd (s.heap.size, t, b) D G (0, fun _ _ => 0, fun _ _ => 0, fun _ _ => none) s.heap := ⟨by decide, rfl, fun k hk => absurd hk (Nat.not_lt_zero _)⟩
  have := body _ S (fun pc lv st n M M' L L' T T' hr k H locs ls h1 h2 h3 h4 => k H locs ls h1 (h2.cv hr) h3 h4) s.heap [] _ (lvH.entry (q := (s.heap.size, t, b)) (as := [.ref 1001]) (n := 4) (by decide)) hW0 va_S.rf (Nat.le_refl _)
  exact this
