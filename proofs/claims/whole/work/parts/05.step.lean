theorem fv_i {q : Aq} {r : Nat → Int32} {w : Nat → Int64} {z : Nat → Option Nat} {j t : Nat} (h1 : ¬ t = 1) (h2 : ¬ t = 2) : fv q r w z j t = .int (r j) := by
  match t, h1, h2 with
  | 0, _, _ => rfl
  | 1, h1, _ => exact absurd rfl h1
  | 2, _, h2 => exact absurd rfl h2
  | n + 3, _, _ => rfl
theorem fv_cg {q : Aq} {r r' : Nat → Int32} {w w' : Nat → Int64} {z z' : Nat → Option Nat} {i t : Nat} (h1 : r' i = r i) (h2 : w' i = w i) (h3 : z' i = z i) : fv q r' w' z' i t = fv q r w z i t := by
  unfold fv
  rw [h1, h2, h3]
/-- an instruction's length -/
def il (i : Jvm.ClassFile.Instr) (n : Nat) : Nat := match i with
  | .iload _ => 2
  | .lload _ => 2
  | .aload _ => 2
  | .istore _ => 2
  | .lstore _ => 2
  | .astore _ => 2
  | .bipush _ => 2
  | .ldc _ => 2
  | .newarray _ => 2
  | .sipush _ => 3
  | .ldc2_w _ => 3
  | .iinc _ _ => 3
  | .goto _ => 3
  | .ifCond _ _ => 3
  | .if_icmp _ _ => 3
  | .getfield _ => 3
  | .putfield _ => 3
  | .getstatic _ => 3
  | .new _ => 3
  | .anewarray _ => 3
  | .invokevirtual _ => 3
  | .invokespecial _ => 3
  | .invokestatic _ => 3
  | .tableswitch _ _ _ _ => n
  | _ => 1
def okF (own : String) (ix ci j t : Nat) : Prop := ∃ (C : String) (T : u_T) (N : Nat), vwCl[ci]? = some (C, T, N) ∧ j < N ∧ Cond.fieldLink own ix (T j).1 (T j).2.1 (T j).2.2.1 ∈ WS ∧ (fk ci).length = N ∧ (fk ci).getD j 0 = t
def okP (own : String) (ini : Nat) (ci j t : Nat) : Prop := ∃ (C : String) (T : u_T) (N : Nat), vwCl[ci]? = some (C, T, N) ∧ ((T j).2.2.2 = false ∨ ((T j).2.2.2 = true ∧ (T j).1 = own ∧ ini = 1)) ∧ (match t with
  | 0 => parseFieldDescriptor (T j).2.2.1 = some .int
  | 1 => parseFieldDescriptor (T j).2.2.1 = some .long
  | 2 => ∃ ty, parseFieldDescriptor (T j).2.2.1 = some ty ∧ ∀ a, narrow ty (.ref a) = .ref a ∧ fits ty (.ref a) = true
  | 3 => parseFieldDescriptor (T j).2.2.1 = some .boolean
  | _ => False)
def okN (own : String) (ix ci : Nat) : Prop := ∃ (C : String) (T : u_T) (N : Nat), vwCl[ci]? = some (C, T, N) ∧ (fk ci).length = N ∧ Cond.classLink own ix C ∈ WS ∧ Cond.instantiable C N ∈ WS ∧ Cond.initialized C ∈ WS
def okS (pc : Nat) (d lo hi : Int) (offs : Array Int) (q1 : Nat) (ts : List Nat) : Prop := lo = 0 ∧ hi + 1 = (ts.length : Int) ∧ ts.length < 1000 ∧ (pc : Int) + d = (q1 : Int) ∧ ∀ (j t : Nat), ts[j]? = some t → ∃ off : Int, offs[j]? = some off ∧ (pc : Int) + off = (t : Int)
def okA (own : String) (ini pc : Nat) (x : En) : Prop := match x with
  | (i, _, a, w, q1, q2, q3, ts) => match i with
    | .iconst z => Int32.ofInt z = a
    | .bipush z => (Int8.ofInt z).toInt32 = a
    | .sipush z => (Int16.ofInt z).toInt32 = a
    | .ldc ix => Cond.constant own ix a ∈ WS
    | .lconst z => Int64.ofNat (z : Nat) = w
    | .ldc2_w ix => Cond.constantLong own ix w ∈ WS
    | .iload k => k = q1
    | .lload k => k = q1
    | .aload k => k = q1
    | .istore k => k = q1
    | .lstore k => k = q1
    | .astore k => k = q1
    | .iload_n k => (k : Nat) = q1
    | .lload_n k => (k : Nat) = q1
    | .aload_n k => (k : Nat) = q1
    | .istore_n k => (k : Nat) = q1
    | .lstore_n k => (k : Nat) = q1
    | .astore_n k => (k : Nat) = q1
    | .iinc k z => k = q1 ∧ Int32.ofInt z = a
    | .goto off => (pc : Int) + off = (q1 : Int)
    | .ifCond _ off => (pc : Int) + off = (q1 : Int)
    | .if_icmp _ off => (pc : Int) + off = (q1 : Int)
    | .tableswitch d lo hi offs => okS pc d lo hi offs q1 ts
    | .getfield ix => okF own ix q1 q2 q3
    | .putfield ix => okF own ix q1 q2 q3 ∧ okP own ini q1 q2 q3
    | .getstatic ix => own = Rrb ∧ ix = nlf
    | .aastore => ∃ r, vwCl[q2]? = some r ∧ ((q1 = 3 ∧ r.1 = Rlit) ∨ (q1 = 4 ∧ r.1 = Rrul))
    | .new ix => okN own ix q1
    | .newarray ty => (q1 = 0 ∧ ty = .int ∧ Cond.arrayClass .int ∈ WS) ∨ (q1 = 1 ∧ ty = .long ∧ Cond.arrayClass .long ∈ WS) ∨ (q1 = 2 ∧ ty = .boolean ∧ Cond.arrayClass .boolean ∈ WS)
    | .anewarray ix => (q1 = 3 ∧ Cond.classLink own ix Rlit ∈ WS) ∨ (q1 = 4 ∧ Cond.classLink own ix Rrul ∈ WS)
    | _ => True
def okE (own : String) (ini : Nat) (cc : ByteArray) (x : Nat × En) : Prop := decode cc x.1 = .ok (x.2.1, il x.2.1 x.2.2.2.2.2.2.1) ∧ x.2.2.1 = x.1 + il x.2.1 x.2.2.2.2.2.2.1 ∧ okA own ini x.1 x.2
def isInv (i : Jvm.ClassFile.Instr) : Bool := match i with
  | .invokevirtual _ => true
  | .invokespecial _ => true
  | .invokestatic _ => true
  | _ => false
def isRet (i : Jvm.ClassFile.Instr) : Bool := match i with
  | .ireturn => true
  | .lreturn => true
  | .return_ => true
  | _ => false
section KS
variable {p : Program} {l : Launch} {e : Env} {R : Room} {s : State} {m : MethodId} {args : Array Value} {below : List Frame} {meth : Method} {c : Code} {nL : Nat} {q : Aq} {D : va_G} {G : Nat → ClassId} {n0 : Nat} {Q : State → Prop} {cc : ByteArray}

theorem ky_sw (hx : p.tables.exec = Jvm.exec) (hb : c.code = cc) {pc q1 len : Nat} {d lo hi : Int} {offs : Array Int} {x : Int32} {lv : List (Option Value)} {r : List Value} {μ : Mm} {P : Ky} (hP : ∀ pc lv st μ, P pc lv st μ → KW p l e R s m args below meth c nL q D G n0 Q pc lv st μ) (hd : decode cc pc = .ok (.tableswitch d lo hi offs, len)) (hlo : lo = 0) (hdf : (pc : Int) + d = (q1 : Int)) : ∀ (ts : List Nat) (j : Nat), hi + 1 = ((j + ts.length : Nat) : Int) → j + ts.length < 1000 → (x.toInt < 0 ∨ (j : Int) ≤ x.toInt) → (∀ (i t : Nat), ts[i]? = some t → ∃ off : Int, offs[j + i]? = some off ∧ (pc : Int) + off = (t : Int)) → swT P lv r μ x q1 ts j → KW p l e R s m args below meth c nL q D G n0 Q pc lv (.int x :: r) μ
  | [], j, h1, h2, h3, h4, g => by
    subst hlo
    have h1 : hi + 1 = (j : Int) := by simpa using h1
    refine ky_tabOut hx hb hd ?_ hdf (hP _ _ _ _ g)
    rcases h3 with h3 | h3
    · exact Or.inl h3
    · right
      omega
  | t :: ts, j, h1, h2, h3, h4, g => by
    have hlen : j + (t :: ts).length = j + 1 + ts.length := by simp; omega
    by_cases hxj : x = nI j
    · subst hlo
      obtain ⟨off, g1, g2⟩ := h4 0 t rfl
      have e1 : x.toInt = (j : Int) := by rw [hxj]; exact nI_toInt (by omega)
      refine ky_tabIn hx hb hd (by omega) (by omega) (off := off) ?_ g2 (hP _ _ _ _ (g.1 hxj))
      rw [e1]
      simpa using g1
    · refine ky_sw hx hb hP hd hlo hdf ts (j + 1) (by rw [h1, hlen]) (by omega) ?_ (fun i t' h => ?_) (g.2 hxj)
      · rcases h3 with h3 | h3
        · exact Or.inl h3
        · right
          have : ¬ x.toInt = (j : Int) := fun h => hxj (Int32.toInt_inj.mp (by rw [h, nI_toInt (by omega)]))
          omega
      · have := h4 (i + 1) t' (by simpa using h)
        rw [show j + (i + 1) = j + 1 + i by omega] at this
        exact this

theorem ky_step (hx : p.tables.exec = Jvm.exec) (hb : c.code = cc) {own : String} (ho : s.vm.findClass own = some m.cls) (hts : ∀ w ∈ WS, w.before args s = true) (hK : va_K D vwCl (tyl G) s) (hL : SL q s s.heap) (hA3 : va_AO Rlit s) (hA4 : va_AO Rrul s) (hnf : va_Nw (.fieldLinkNest Rrb nlf Rpf "LIBRARY" "[I" Rpf) s) {nE rb ini : Nat} (hini : ini = 1 → meth.name = "<init>") (hRc : nE - n0 ≤ R.cells) (hRs : cz nE - cz n0 ≤ R.slots) (hE : nE ≤ 900) {Xs : Nat × (Nat → Int32)} (hXs : rb = 4 → va_X q.2.2 Xs.1 Xs.2 s s.heap ∧ q.2.2 < s.heap.size ∧ ¬ q.1 ≤ q.2.2) {cd : List (Nat × En)} {C : Cf} {Rt : Option Value → Mm → Prop} (hok : ∀ x ∈ cd, okE own ini cc x)
    (hC : ∀ (pc : Nat) (x : En) (lv : List (Option Value)) (st : List Value) (μ : Mm) (P : List Value → Mm → Prop), (pc, x) ∈ cd → isInv x.1 = true → (∀ st' μ', P st' μ' → KW p l e R s m args below meth c nL q D G n0 Q (pc + 3) lv st' μ') → C x.2.2.2.2.1 st μ P → KW p l e R s m args below meth c nL q D G n0 Q pc lv st μ)
    (hR : ∀ (P : Ky) (pc : Nat) (x : En) (lv : List (Option Value)) (st : List Value) (μ : Mm), isRet x.1 = true → decode cc pc = .ok (x.1, 1) → (pc, x) ∈ cd → gs nE Xs rb C Rt P x lv st μ → KW p l e R s m args below meth c nL q D G n0 Q pc lv st μ) : Spk nE Xs rb C Rt (KW p l e R s m args below meth c nL q D G n0 Q) cd := by
  intro P hP pc x lv st μ he h
  have hmem := lkc_in cd pc x he
  obtain ⟨hd, hnx, ha⟩ := hok _ hmem
  obtain ⟨i, nx, a, w, q1, q2, q3, ts⟩ := x
  have hnx : nx = pc + il i q2 := hnx
  have hd : decode cc pc = .ok (i, il i q2) := hd
  cases i with
  | iconst z =>
    subst hnx
    exact ky_iconst hx hb hd ha (hP _ _ _ _ h)
  | bipush z =>
    subst hnx
    exact ky_bipush hx hb hd ha (hP _ _ _ _ h)
  | sipush z =>
    subst hnx
    exact ky_sipush hx hb hd ha (hP _ _ _ _ h)
  | lconst z =>
    subst hnx
    exact ky_lconst hx hb hd ha (hP _ _ _ _ h)
  | ldc ix =>
    subst hnx
    exact ky_ldc hx hb ho (hts _ ha) hd (hP _ _ _ _ h)
  | ldc2_w ix =>
    subst hnx
    exact ky_ldc2 hx hb ho (hts _ ha) hd (hP _ _ _ _ h)
  | iload k =>
    subst hnx
    have ha : k = q1 := ha
    subst ha
    obtain ⟨x, hl, h⟩ := ldi_e h
    exact ky_iload hx hb hd hl (hP _ _ _ _ h)
  | iload_n k =>
    subst hnx
    obtain ⟨x, hl, h⟩ := ldi_e h
    exact ky_iload_n hx hb hd ha hl (hP _ _ _ _ h)
  | istore k =>
    subst hnx
    have ha : k = q1 := ha
    subst ha
    obtain ⟨x, r, rfl, h⟩ := p1i_e h
    obtain ⟨g1, g2, h⟩ := sto_e h
    exact ky_istore hx hb hd g1 g2 (hP _ _ _ _ h)
  | istore_n k =>
    subst hnx
    obtain ⟨x, r, rfl, h⟩ := p1i_e h
    obtain ⟨g1, g2, h⟩ := sto_e h
    exact ky_istore_n hx hb hd ha g1 g2 (hP _ _ _ _ h)
  | lload k =>
    subst hnx
    have ha : k = q1 := ha
    subst ha
    obtain ⟨x, hl, h⟩ := ldl_e h
    exact ky_lload hx hb hd hl (hP _ _ _ _ h)
  | lload_n k =>
    subst hnx
    obtain ⟨x, hl, h⟩ := ldl_e h
    exact ky_lload_n hx hb hd ha hl (hP _ _ _ _ h)
  | lstore k =>
    subst hnx
    have ha : k = q1 := ha
    subst ha
    obtain ⟨x, r, rfl, h⟩ := p1l_e h
    obtain ⟨g1, g2, g3, h⟩ := sto_e h
    exact ky_lstore hx hb hd g1 (Nat.le_of_ble_eq_true g3) (hP _ _ _ _ h)
  | lstore_n k =>
    subst hnx
    obtain ⟨x, r, rfl, h⟩ := p1l_e h
    obtain ⟨g1, g2, g3, h⟩ := sto_e h
    exact ky_lstore_n hx hb hd ha g1 (Nat.le_of_ble_eq_true g3) (hP _ _ _ _ h)
  | aload k =>
    subst hnx
    have ha : k = q1 := ha
    subst ha
    obtain ⟨x, hl, h⟩ := ldr_e h
    exact ky_aload hx hb hd hl (hP _ _ _ _ h)
  | aload_n k =>
    subst hnx
    obtain ⟨x, hl, h⟩ := ldr_e h
    exact ky_aload_n hx hb hd ha hl (hP _ _ _ _ h)
  | astore k =>
    subst hnx
    have ha : k = q1 := ha
    subst ha
    obtain ⟨x, r, rfl, h⟩ := p1r_e h
    obtain ⟨g1, g2, h⟩ := sto_e h
    exact ky_astore hx hb hd g1 g2 (hP _ _ _ _ h)
  | astore_n k =>
    subst hnx
    obtain ⟨x, r, rfl, h⟩ := p1r_e h
    obtain ⟨g1, g2, h⟩ := sto_e h
    exact ky_astore_n hx hb hd ha g1 g2 (hP _ _ _ _ h)
  | iinc k z =>
    subst hnx
    obtain ⟨ha, hz⟩ := ha
    subst ha
    obtain ⟨x, hl, h⟩ := ldi_e h
    obtain ⟨g1, g2, h⟩ := sto_e h
    exact ky_iinc hx hb hd hz hl g1 g2 (hP _ _ _ _ h)
  | iadd =>
    subst hnx
    obtain ⟨y, x, r, rfl, h⟩ := p2i_e h
    exact ky_iadd hx hb hd (hP _ _ _ _ h)
  | isub =>
    subst hnx
    obtain ⟨y, x, r, rfl, h⟩ := p2i_e h
    exact ky_isub hx hb hd (hP _ _ _ _ h)
  | imul =>
    subst hnx
    obtain ⟨y, x, r, rfl, h⟩ := p2i_e h
    exact ky_imul hx hb hd (hP _ _ _ _ h)
  | iand =>
    subst hnx
    obtain ⟨y, x, r, rfl, h⟩ := p2i_e h
    exact ky_iand hx hb hd (hP _ _ _ _ h)
  | ior =>
    subst hnx
    obtain ⟨y, x, r, rfl, h⟩ := p2i_e h
    exact ky_ior hx hb hd (hP _ _ _ _ h)
  | ixor =>
    subst hnx
    obtain ⟨y, x, r, rfl, h⟩ := p2i_e h
    exact ky_ixor hx hb hd (hP _ _ _ _ h)
  | ishl =>
    subst hnx
    obtain ⟨y, x, r, rfl, h⟩ := p2i_e h
    exact ky_ishl hx hb hd (hP _ _ _ _ h)
  | ishr =>
    subst hnx
    obtain ⟨y, x, r, rfl, h⟩ := p2i_e h
    exact ky_ishr hx hb hd (hP _ _ _ _ h)
  | idiv =>
    subst hnx
    obtain ⟨y, x, r, rfl, h0, h⟩ := p2i_e h
    exact ky_idiv hx hb hd h0 (hP _ _ _ _ h)
  | irem =>
    subst hnx
    obtain ⟨y, x, r, rfl, h0, h⟩ := p2i_e h
    exact ky_irem hx hb hd h0 (hP _ _ _ _ h)
  | ladd =>
    subst hnx
    obtain ⟨y, x, r, rfl, h⟩ := p2l_e h
    exact ky_ladd hx hb hd (hP _ _ _ _ h)
  | lsub =>
    subst hnx
    obtain ⟨y, x, r, rfl, h⟩ := p2l_e h
    exact ky_lsub hx hb hd (hP _ _ _ _ h)
  | land =>
    subst hnx
    obtain ⟨y, x, r, rfl, h⟩ := p2l_e h
    exact ky_land hx hb hd (hP _ _ _ _ h)
  | lor =>
    subst hnx
    obtain ⟨y, x, r, rfl, h⟩ := p2l_e h
    exact ky_lor hx hb hd (hP _ _ _ _ h)
  | lxor =>
    subst hnx
    obtain ⟨y, x, r, rfl, h⟩ := p2l_e h
    exact ky_lxor hx hb hd (hP _ _ _ _ h)
  | lcmp =>
    subst hnx
    obtain ⟨y, x, r, rfl, h⟩ := p2l_e h
    exact ky_lcmp hx hb hd (hP _ _ _ _ h)
  | lshl =>
    subst hnx
    obtain ⟨y, x, r, rfl, h⟩ := pil_e h
    exact ky_lshl hx hb hd (hP _ _ _ _ h)
  | lshr =>
    subst hnx
    obtain ⟨y, x, r, rfl, h⟩ := pil_e h
    exact ky_lshr hx hb hd (hP _ _ _ _ h)
  | lushr =>
    subst hnx
    obtain ⟨y, x, r, rfl, h⟩ := pil_e h
    exact ky_lushr hx hb hd (hP _ _ _ _ h)
  | i2l =>
    subst hnx
    obtain ⟨x, r, rfl, h⟩ := p1i_e h
    exact ky_i2l hx hb hd (hP _ _ _ _ h)
  | l2i =>
    subst hnx
    obtain ⟨x, r, rfl, h⟩ := p1l_e h
    exact ky_l2i hx hb hd (hP _ _ _ _ h)
  | dup =>
    subst hnx
    obtain ⟨v, r, rfl, hv, h⟩ := p1v_e h
    exact ky_dup hx hb hd hv (hP _ _ _ _ h)
  | pop =>
    subst hnx
    obtain ⟨v, r, rfl, hv, h⟩ := p1v_e h
    exact ky_pop hx hb hd hv (hP _ _ _ _ h)
  | dup2 =>
    subst hnx
    obtain ⟨v, u, r, rfl, hv, hw, h⟩ := p2v_e h
    exact ky_dup2 hx hb hd hv hw (hP _ _ _ _ h)
  | dup_x1 =>
    subst hnx
    obtain ⟨v, u, r, rfl, hv, hw, h⟩ := p2v_e h
    exact ky_dup_x1 hx hb hd hv hw (hP _ _ _ _ h)
  | goto off =>
    exact ky_goto hx hb hd ha (hP _ _ _ _ h)
  | ifCond cn off =>
    subst hnx
    obtain ⟨x, r, rfl, h⟩ := p1i_e h
    cases cn with
    | eq => exact ky_if_eq hx hb hd ha ⟨fun z => hP _ _ _ _ (h.1 z), fun z => hP _ _ _ _ (h.2 z)⟩
    | ne => exact ky_if_ne hx hb hd ha ⟨fun z => hP _ _ _ _ (h.1 z), fun z => hP _ _ _ _ (h.2 z)⟩
    | lt => exact ky_if_lt hx hb hd ha ⟨fun z => hP _ _ _ _ (h.1 z), fun z => hP _ _ _ _ (h.2 z)⟩
    | ge => exact ky_if_ge hx hb hd ha ⟨fun z => hP _ _ _ _ (h.1 z), fun z => hP _ _ _ _ (h.2 z)⟩
    | gt => exact ky_if_gt hx hb hd ha ⟨fun z => hP _ _ _ _ (h.1 z), fun z => hP _ _ _ _ (h.2 z)⟩
    | le => exact ky_if_le hx hb hd ha ⟨fun z => hP _ _ _ _ (h.1 z), fun z => hP _ _ _ _ (h.2 z)⟩
  | if_icmp cn off =>
    subst hnx
    obtain ⟨y, x, r, rfl, h⟩ := p2i_e h
    cases cn with
    | eq => exact ky_icmp_eq hx hb hd ha ⟨fun z => hP _ _ _ _ (h.1 z), fun z => hP _ _ _ _ (h.2 z)⟩
    | ne => exact ky_icmp_ne hx hb hd ha ⟨fun z => hP _ _ _ _ (h.1 z), fun z => hP _ _ _ _ (h.2 z)⟩
    | lt => exact ky_icmp_lt hx hb hd ha ⟨fun z => hP _ _ _ _ (h.1 z), fun z => hP _ _ _ _ (h.2 z)⟩
    | ge => exact ky_icmp_ge hx hb hd ha ⟨fun z => hP _ _ _ _ (h.1 z), fun z => hP _ _ _ _ (h.2 z)⟩
    | gt => exact ky_icmp_gt hx hb hd ha ⟨fun z => hP _ _ _ _ (h.1 z), fun z => hP _ _ _ _ (h.2 z)⟩
    | le => exact ky_icmp_le hx hb hd ha ⟨fun z => hP _ _ _ _ (h.1 z), fun z => hP _ _ _ _ (h.2 z)⟩
  | tableswitch d lo hi offs =>
    obtain ⟨x, r, rfl, h⟩ := p1i_e h
    obtain ⟨e1, e2, e3, e4, e5⟩ := ha
    exact ky_sw hx hb hP hd e1 e4 ts 0 (by simpa using e2) (by simpa using e3) (by omega) (fun i t ht => by simpa using e5 i t ht) h
  | getfield ix =>
    subst hnx
    obtain ⟨k, r, rfl, hk, h⟩ := p1r_e h
    obtain ⟨C0, T0, N0, f1, f2, f3, f4, f5⟩ := ha
    by_cases h1 : q3 = 1
    · subst h1
      exact ky_get hx hb ho hts hK f1 f2 f3 f4 hk hd (v := .long (μ.2.2.1 k q2)) (by rw [f5]; rfl) (hP _ _ _ _ h)
    · by_cases h2 : q3 = 2
      · subst h2
        obtain ⟨k', hk', h⟩ := h
        exact ky_get hx hb ho hts hK f1 f2 f3 f4 hk hd (v := .ref k') (by rw [f5]; show va_rf ((μ.2.2.2 k q2).map (ra q)) = _; rw [hk']; rfl) (hP _ _ _ _ h)
      · refine ky_get hx hb ho hts hK f1 f2 f3 f4 hk hd (v := .int (μ.2.1 k q2)) (by rw [f5]; exact fv_i h1 h2) (hP _ _ _ _ ?_)
        match q3, h1, h2, h with
        | 0, _, _, h => exact h
        | 1, h1, _, _ => exact absurd rfl h1
        | 2, _, h2, _ => exact absurd rfl h2
        | n + 3, _, _, h => exact h
  | putfield ix =>
    subst hnx
    obtain ⟨⟨C0, T0, N0, f1, f2, f3, f4, f5⟩, C1, T1, N1, g1, g2, g3⟩ := ha
    have e9 := Option.some.inj (f1.symm.trans g1)
    have e91 : C0 = C1 := congrArg (fun x => x.1) e9
    have e92 : T0 = T1 := congrArg (fun x => x.2.1) e9
    have e93 : N0 = N1 := congrArg (fun x => x.2.2) e9
    subst e91; subst e92; subst e93
    have g2 : (T0 q2).2.2.2 = false ∨ ((T0 q2).2.2.2 = true ∧ (T0 q2).1 = own ∧ meth.name = "<init>") := by
      rcases g2 with g2 | ⟨g2, g4, g5⟩
      · exact Or.inl g2
      · exact Or.inr ⟨g2, g4, hini g5⟩
    obtain ⟨n, f, g, z⟩ := μ
    match q3, f5, g3, h with
    | 0, f5, g3, h =>
      obtain ⟨x, k, r, rfl, hk, h⟩ := pir_e h
      exact ky_put hx hb ho hts hK f1 f2 f3 f4 g2 hk hd (v := .int x) g3 rfl rfl (μ' := sI (n, f, g, z) k q2 x) rfl (fun i hi => ⟨up2_k hi, rfl, rfl⟩) (fvl_set (by rw [f4]; exact f2) (by rw [f5]; show Value.int (up2 f k q2 x k q2) = _; rw [up2_s]; rfl) (fun i hi => by show fv q (up2 f k q2 x k) _ _ _ _ = _; exact fv_cg (up2_j hi) rfl rfl)) (hP _ _ _ _ h)
    | 1, f5, g3, h =>
      obtain ⟨x, k, r, rfl, hk, h⟩ := plr_e h
      exact ky_put hx hb ho hts hK f1 f2 f3 f4 g2 hk hd (v := .long x) g3 rfl rfl (μ' := sL (n, f, g, z) k q2 x) rfl (fun i hi => ⟨rfl, up2_k hi, rfl⟩) (fvl_set (by rw [f4]; exact f2) (by rw [f5]; show Value.long (up2 g k q2 x k q2) = _; rw [up2_s]; rfl) (fun i hi => by show fv q _ (up2 g k q2 x k) _ _ _ = _; exact fv_cg rfl (up2_j hi) rfl)) (hP _ _ _ _ h)
    | 2, f5, g3, h =>
      obtain ⟨ty, g3, g4⟩ := g3
      obtain ⟨x, k, r, rfl, hk, h⟩ := prr_e h
      exact ky_put hx hb ho hts hK f1 f2 f3 f4 g2 hk hd (v := .ref x) g3 (g4 _).1 (g4 _).2 (μ' := sT (n, f, g, z) k q2 (some x)) rfl (fun i hi => ⟨rfl, rfl, up2_k hi⟩) (fvl_set (by rw [f4]; exact f2) (by rw [f5]; show va_rf ((up2 z k q2 (some x) k q2).map (ra q)) = _; rw [up2_s]; rfl) (fun i hi => by show fv q _ _ (up2 z k q2 (some x) k) _ _ = _; exact fv_cg rfl rfl (up2_j hi))) (hP _ _ _ _ h)
    | 3, f5, g3, h =>
      obtain ⟨x, k, r, rfl, hk, h01, h⟩ := pir_e h
      exact ky_put hx hb ho hts hK f1 f2 f3 f4 g2 hk hd (v := .int x) g3 (by rcases h01 with h | h <;> rw [h] <;> rfl) (by rcases h01 with h | h <;> rw [h] <;> rfl) (μ' := sI (n, f, g, z) k q2 x) rfl (fun i hi => ⟨up2_k hi, rfl, rfl⟩) (fvl_set (by rw [f4]; exact f2) (by rw [f5]; show Value.int (up2 f k q2 x k q2) = _; rw [up2_s]; rfl) (fun i hi => by show fv q (up2 f k q2 x k) _ _ _ _ = _; exact fv_cg (up2_j hi) rfl rfl)) (hP _ _ _ _ h)
    | n + 4, _, g3, _ => exact absurd g3 (fun h => h)
  | getstatic ix =>
    subst hnx
    exact ky_gets hx hb ho hts hL ha.1 ha.2 hnf hd (hP _ _ _ _ h)
  | iaload =>
    subst hnx
    obtain ⟨i, k, r, rfl, hz⟩ := pir_e h
    cases hk0 : Nat.beq k 1000 with
    | true =>
      have ek := Nat.eq_of_beq_eq_true hk0
      subst ek
      have hz : vp_in i 72 ∧ _ := hz
      exact ky_lib hx hb hL hz.1 hd (hP _ _ _ _ hz.2)
    | false =>
      rw [hk0] at hz
      cases hk1 : Nat.beq k 1001 with
      | true =>
        have ek := Nat.eq_of_beq_eq_true hk1
        subst ek
        have hz : rb = 4 ∧ vp_in i Xs.1 ∧ _ := hz
        obtain ⟨hX, hX1, hX2⟩ := hXs hz.1
        exact ky_scr hx hb hX hX1 hX2 hz.2.1 hd (hP _ _ _ _ hz.2.2)
      | false =>
        rw [hk1] at hz
        obtain ⟨hk, hi, hz⟩ := hz
        exact ky_iald hx hb hK hk hi hd (hP _ _ _ _ hz)
  | laload =>
    subst hnx
    obtain ⟨i, k, r, rfl, hk, hi, h⟩ := pir_e h
    exact ky_lald hx hb hK hk hi hd (hP _ _ _ _ h)
  | baload =>
    subst hnx
    obtain ⟨i, k, r, rfl, hk, hi, h⟩ := pir_e h
    exact ky_zald hx hb hK hk hi hd (hP _ _ _ _ h)
  | aaload =>
    subst hnx
    obtain ⟨i, k, r, rfl, hk, hi, k', hk', h⟩ := pir_e h
    rw [Bool.or_eq_true] at hk
    rcases hk with hk | hk
    · exact ky_aald3 hx hb hK hk hi hd hk' (hP _ _ _ _ h)
    · exact ky_aald4 hx hb hK hk hi hd hk' (hP _ _ _ _ h)
  | iastore =>
    subst hnx
    obtain ⟨x, i, k, r, rfl, hk, hi, h⟩ := piir_e h
    exact ky_iast hx hb hK hk hi hd (hP _ _ _ _ h)
  | lastore =>
    subst hnx
    obtain ⟨x, i, k, r, rfl, hk, hi, h⟩ := plir_e h
    exact ky_last hx hb hK hk hi hd (hP _ _ _ _ h)
  | bastore =>
    subst hnx
    obtain ⟨x, i, k, r, rfl, hk, hi, h01, h⟩ := piir_e h
    exact ky_zast hx hb hK hk hi h01 hd (hP _ _ _ _ h)
  | aastore =>
    subst hnx
    obtain ⟨x, i, k, r, rfl, hk, hv, hi, hz⟩ := prir_e h
    obtain ⟨r0, f1, f2⟩ := ha
    rcases f2 with ⟨f2, f3⟩ | ⟨f2, f3⟩
    · subst f2
      exact ky_aast3 hx hb hK hk hv f1 f3 hi hd (hP _ _ _ _ hz)
    · subst f2
      exact ky_aast4 hx hb hK hk hv f1 f3 hi hd (hP _ _ _ _ hz)
  | arraylength =>
    subst hnx
    obtain ⟨k, r, rfl, hz⟩ := p1r_e h
    cases hk1 : Nat.beq k 1001 with
    | true =>
      have ek := Nat.eq_of_beq_eq_true hk1
      subst ek
      have hz : rb = 4 ∧ _ := hz
      obtain ⟨hX, hX1, hX2⟩ := hXs hz.1
      exact ky_scrl hx hb hX hX1 hX2 hd (hP _ _ _ _ hz.2)
    | false =>
      rw [hk1] at hz
      obtain ⟨hk, hz⟩ := hz
      exact ky_alen hx hb hK hk hd (hP _ _ _ _ hz)
  | new ix =>
    subst hnx
    obtain ⟨hn, hk, h⟩ := h
    obtain ⟨C0, T0, N0, f1, f2, f3, f4, f5⟩ := ha
    exact ky_new hx hb ho hts hK f1 f2 f3 f4 f5 hRc hRs hE hn (Nat.eq_of_beq_eq_true hk) hd (hP _ _ _ _ h)
  | newarray ty =>
    subst hnx
    obtain ⟨x, r, rfl, hn, hk, h0, h1, hz⟩ := p1i_e h
    rcases ha with ⟨f1, f2, f3⟩ | ⟨f1, f2, f3⟩ | ⟨f1, f2, f3⟩
    · subst f1; subst f2
      exact ky_newa0 hx hb hts hK f3 hRc hRs hE hn hk h0 h1 hd (hP _ _ _ _ hz)
    · subst f1; subst f2
      exact ky_newa1 hx hb hts hK f3 hRc hRs hE hn hk h0 h1 hd (hP _ _ _ _ hz)
    · subst f1; subst f2
      exact ky_newa2 hx hb hts hK f3 hRc hRs hE hn hk h0 h1 hd (hP _ _ _ _ hz)
  | anewarray ix =>
    subst hnx
    obtain ⟨x, r, rfl, hn, hk, h0, h1, hz⟩ := p1i_e h
    rcases ha with ⟨f1, f3⟩ | ⟨f1, f3⟩
    · subst f1
      exact ky_newq3 hx hb ho hts hK f3 hA3 hRc hRs hE hn hk h0 h1 hd (hP _ _ _ _ hz)
    · subst f1
      exact ky_newq4 hx hb ho hts hK f3 hA4 hRc hRs hE hn hk h0 h1 hd (hP _ _ _ _ hz)
  | invokevirtual ix =>
    subst hnx
    exact hC pc _ lv st μ _ hmem rfl (fun st' μ' g => hP _ _ _ _ g) h
  | invokespecial ix =>
    subst hnx
    exact hC pc _ lv st μ _ hmem rfl (fun st' μ' g => hP _ _ _ _ g) h
  | invokestatic ix =>
    subst hnx
    exact hC pc _ lv st μ _ hmem rfl (fun st' μ' g => hP _ _ _ _ g) h
  | ireturn =>
    exact hR P pc _ lv st μ rfl hd hmem h
  | lreturn =>
    exact hR P pc _ lv st μ rfl hd hmem h
  | return_ =>
    exact hR P pc _ lv st μ rfl hd hmem h
  | _ =>
    exact False.elim h
end KS
