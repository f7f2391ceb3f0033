section KY
variable {p : Program} {l : Launch} {e : Env} {R : Room} {s : State} {m : MethodId} {args : Array Value} {below : List Frame} {meth : Method} {c : Code} {nL : Nat} {q : Aq} {D : va_G} {G : Nat → ClassId} {n0 : Nat} {Q : State → Prop}
/-- the machine stands at pc: whatever the heap is that holds the memory μ, it comes to Q -/
def KW (p : Program) (l : Launch) (e : Env) (R : Room) (s : State) (m : MethodId) (args : Array Value) (below : List Frame) (meth : Method) (c : Code) (nL : Nat) (q : Aq) (D : va_G) (G : Nat → ClassId) (n0 : Nat) (Q : State → Prop) : Ky := fun pc lv st μ =>
  ∀ (H : Heap) (locs : List Loc) (ls : Array Slot), lvH q ls nL lv → Wd q D G μ H → va_S (fun a => q.1 ≤ a) s.heap H locs → n0 ≤ μ.1 → W p l e R s m args below meth c H locs (μ.1 - n0) (cz μ.1 - cz n0) Q (F0 m pc ls (st.map (tv q)))
variable {cc : ByteArray} {pc : Nat} {lv : List (Option Value)} {st : List Value} {μ : Mm}

theorem ky_iconst (hx : p.tables.exec = Jvm.exec) (hb : c.code = cc) {n : Int} {v : Int32} (hd : decode cc pc = .ok (.iconst n, 1)) (hv : Int32.ofInt n = v) (k : KW p l e R s m args below meth c nL q D G n0 Q (pc + 1) lv (.int v :: st) μ) : KW p l e R s m args below meth c nL q D G n0 Q pc lv st μ := fun H locs ls h1 h2 h3 h4 => lv_iconst hx hb hd hv (k H locs ls h1 h2 h3 h4)
theorem ky_bipush (hx : p.tables.exec = Jvm.exec) (hb : c.code = cc) {n : Int} {v : Int32} (hd : decode cc pc = .ok (.bipush n, 2)) (hv : (Int8.ofInt n).toInt32 = v) (k : KW p l e R s m args below meth c nL q D G n0 Q (pc + 2) lv (.int v :: st) μ) : KW p l e R s m args below meth c nL q D G n0 Q pc lv st μ := fun H locs ls h1 h2 h3 h4 => lv_bipush hx hb hd hv (k H locs ls h1 h2 h3 h4)
theorem ky_sipush (hx : p.tables.exec = Jvm.exec) (hb : c.code = cc) {n : Int} {v : Int32} (hd : decode cc pc = .ok (.sipush n, 3)) (hv : (Int16.ofInt n).toInt32 = v) (k : KW p l e R s m args below meth c nL q D G n0 Q (pc + 3) lv (.int v :: st) μ) : KW p l e R s m args below meth c nL q D G n0 Q pc lv st μ := fun H locs ls h1 h2 h3 h4 => lv_sipush hx hb hd hv (k H locs ls h1 h2 h3 h4)
theorem ky_lconst (hx : p.tables.exec = Jvm.exec) (hb : c.code = cc) {n : Fin 2} {v : Int64} (hd : decode cc pc = .ok (.lconst n, 1)) (hv : Int64.ofNat (n : Nat) = v) (k : KW p l e R s m args below meth c nL q D G n0 Q (pc + 1) lv (.long v :: st) μ) : KW p l e R s m args below meth c nL q D G n0 Q pc lv st μ := fun H locs ls h1 h2 h3 h4 => lv_lconst hx hb hd hv (k H locs ls h1 h2 h3 h4)
theorem ky_ldc (hx : p.tables.exec = Jvm.exec) (hb : c.code = cc) {own : String} {ix : Nat} {v : Int32} (ho : s.vm.findClass own = some m.cls) (hc : (Jvm.Cond.constant own ix v).before args s = true) (hd : decode cc pc = .ok (.ldc ix, 2)) (k : KW p l e R s m args below meth c nL q D G n0 Q (pc + 2) lv (.int v :: st) μ) : KW p l e R s m args below meth c nL q D G n0 Q pc lv st μ := fun H locs ls h1 h2 h3 h4 => lv_ldc hx hb ho hc hd (k H locs ls h1 h2 h3 h4)
theorem ky_ldc2 (hx : p.tables.exec = Jvm.exec) (hb : c.code = cc) {own : String} {ix : Nat} {v : Int64} (ho : s.vm.findClass own = some m.cls) (hc : (Jvm.Cond.constantLong own ix v).before args s = true) (hd : decode cc pc = .ok (.ldc2_w ix, 3)) (k : KW p l e R s m args below meth c nL q D G n0 Q (pc + 3) lv (.long v :: st) μ) : KW p l e R s m args below meth c nL q D G n0 Q pc lv st μ := fun H locs ls h1 h2 h3 h4 => lv_ldc2 hx hb ho hc hd (k H locs ls h1 h2 h3 h4)
theorem ky_iload_n (hx : p.tables.exec = Jvm.exec) (hb : c.code = cc) {j : Fin 4} {i : Nat} {x : Int32} (hd : decode cc pc = .ok (.iload_n j, 1)) (hi : (j : Nat) = i) (hl : lk2 lv i = some (.int x)) (k : KW p l e R s m args below meth c nL q D G n0 Q (pc + 1) lv (.int x :: st) μ) : KW p l e R s m args below meth c nL q D G n0 Q pc lv st μ := fun H locs ls h1 h2 h3 h4 => lv_iload_n hx hb hd hi (h1.at hl) (k H locs ls h1 h2 h3 h4)
theorem ky_iload (hx : p.tables.exec = Jvm.exec) (hb : c.code = cc) {i : Nat} {x : Int32} (hd : decode cc pc = .ok (.iload i, 2)) (hl : lk2 lv i = some (.int x)) (k : KW p l e R s m args below meth c nL q D G n0 Q (pc + 2) lv (.int x :: st) μ) : KW p l e R s m args below meth c nL q D G n0 Q pc lv st μ := fun H locs ls h1 h2 h3 h4 => lv_iload hx hb hd (h1.at hl) (k H locs ls h1 h2 h3 h4)
theorem ky_istore_n (hx : p.tables.exec = Jvm.exec) (hb : c.code = cc) {j : Fin 4} {i : Nat} {x : Int32} (hd : decode cc pc = .ok (.istore_n j, 1)) (hi : (j : Nat) = i) (hbl : nolb lv i = true) (hn : i < lv.length) (k : KW p l e R s m args below meth c nL q D G n0 Q (pc + 1) (ls2 lv i (some (.int x))) st μ) : KW p l e R s m args below meth c nL q D G n0 Q pc lv (.int x :: st) μ := fun H locs ls h1 h2 h3 h4 => lv_istore_n hx hb hd hi h1.2 (Nat.lt_of_lt_of_le hn h1.1) rfl (fun ls' h' => k H locs ls' (lvH.st1 (v := .int x) h1.1 hbl h') h2 h3 h4)
theorem ky_istore (hx : p.tables.exec = Jvm.exec) (hb : c.code = cc) {i : Nat} {x : Int32} (hd : decode cc pc = .ok (.istore i, 2)) (hbl : nolb lv i = true) (hn : i < lv.length) (k : KW p l e R s m args below meth c nL q D G n0 Q (pc + 2) (ls2 lv i (some (.int x))) st μ) : KW p l e R s m args below meth c nL q D G n0 Q pc lv (.int x :: st) μ := fun H locs ls h1 h2 h3 h4 => lv_istore hx hb hd h1.2 (Nat.lt_of_lt_of_le hn h1.1) rfl (fun ls' h' => k H locs ls' (lvH.st1 (v := .int x) h1.1 hbl h') h2 h3 h4)
theorem ky_lload_n (hx : p.tables.exec = Jvm.exec) (hb : c.code = cc) {j : Fin 4} {i : Nat} {x : Int64} (hd : decode cc pc = .ok (.lload_n j, 1)) (hi : (j : Nat) = i) (hl : lk2 lv i = some (.long x)) (k : KW p l e R s m args below meth c nL q D G n0 Q (pc + 1) lv (.long x :: st) μ) : KW p l e R s m args below meth c nL q D G n0 Q pc lv st μ := fun H locs ls h1 h2 h3 h4 => lv_lload_n hx hb hd hi (h1.at hl) (k H locs ls h1 h2 h3 h4)
theorem ky_lload (hx : p.tables.exec = Jvm.exec) (hb : c.code = cc) {i : Nat} {x : Int64} (hd : decode cc pc = .ok (.lload i, 2)) (hl : lk2 lv i = some (.long x)) (k : KW p l e R s m args below meth c nL q D G n0 Q (pc + 2) lv (.long x :: st) μ) : KW p l e R s m args below meth c nL q D G n0 Q pc lv st μ := fun H locs ls h1 h2 h3 h4 => lv_lload hx hb hd (h1.at hl) (k H locs ls h1 h2 h3 h4)
theorem ky_lstore_n (hx : p.tables.exec = Jvm.exec) (hb : c.code = cc) {j : Fin 4} {i : Nat} {x : Int64} (hd : decode cc pc = .ok (.lstore_n j, 1)) (hi : (j : Nat) = i) (hbl : nolb lv i = true) (hn : i + 1 < lv.length) (k : KW p l e R s m args below meth c nL q D G n0 Q (pc + 1) (ls2 (ls2 lv i (some (.long x))) (i + 1) none) st μ) : KW p l e R s m args below meth c nL q D G n0 Q pc lv (.long x :: st) μ := fun H locs ls h1 h2 h3 h4 => lv_lstore_n hx hb hd hi h1.2 (Nat.lt_of_lt_of_le hn h1.1) rfl (fun ls' h' => k H locs ls' (lvH.st2 (v := .long x) h1.1 hbl h') h2 h3 h4)
theorem ky_lstore (hx : p.tables.exec = Jvm.exec) (hb : c.code = cc) {i : Nat} {x : Int64} (hd : decode cc pc = .ok (.lstore i, 2)) (hbl : nolb lv i = true) (hn : i + 1 < lv.length) (k : KW p l e R s m args below meth c nL q D G n0 Q (pc + 2) (ls2 (ls2 lv i (some (.long x))) (i + 1) none) st μ) : KW p l e R s m args below meth c nL q D G n0 Q pc lv (.long x :: st) μ := fun H locs ls h1 h2 h3 h4 => lv_lstore hx hb hd h1.2 (Nat.lt_of_lt_of_le hn h1.1) rfl (fun ls' h' => k H locs ls' (lvH.st2 (v := .long x) h1.1 hbl h') h2 h3 h4)
theorem ky_aload_n (hx : p.tables.exec = Jvm.exec) (hb : c.code = cc) {j : Fin 4} {i : Nat} {x : Nat} (hd : decode cc pc = .ok (.aload_n j, 1)) (hi : (j : Nat) = i) (hl : lk2 lv i = some (.ref x)) (k : KW p l e R s m args below meth c nL q D G n0 Q (pc + 1) lv (.ref x :: st) μ) : KW p l e R s m args below meth c nL q D G n0 Q pc lv st μ := fun H locs ls h1 h2 h3 h4 => lv_aload_n hx hb hd hi (h1.at hl) (k H locs ls h1 h2 h3 h4)
theorem ky_aload (hx : p.tables.exec = Jvm.exec) (hb : c.code = cc) {i : Nat} {x : Nat} (hd : decode cc pc = .ok (.aload i, 2)) (hl : lk2 lv i = some (.ref x)) (k : KW p l e R s m args below meth c nL q D G n0 Q (pc + 2) lv (.ref x :: st) μ) : KW p l e R s m args below meth c nL q D G n0 Q pc lv st μ := fun H locs ls h1 h2 h3 h4 => lv_aload hx hb hd (h1.at hl) (k H locs ls h1 h2 h3 h4)
theorem ky_astore_n (hx : p.tables.exec = Jvm.exec) (hb : c.code = cc) {j : Fin 4} {i : Nat} {x : Nat} (hd : decode cc pc = .ok (.astore_n j, 1)) (hi : (j : Nat) = i) (hbl : nolb lv i = true) (hn : i < lv.length) (k : KW p l e R s m args below meth c nL q D G n0 Q (pc + 1) (ls2 lv i (some (.ref x))) st μ) : KW p l e R s m args below meth c nL q D G n0 Q pc lv (.ref x :: st) μ := fun H locs ls h1 h2 h3 h4 => lv_astore_n hx hb hd hi h1.2 (Nat.lt_of_lt_of_le hn h1.1) rfl (fun ls' h' => k H locs ls' (lvH.st1 (v := .ref x) h1.1 hbl h') h2 h3 h4)
theorem ky_astore (hx : p.tables.exec = Jvm.exec) (hb : c.code = cc) {i : Nat} {x : Nat} (hd : decode cc pc = .ok (.astore i, 2)) (hbl : nolb lv i = true) (hn : i < lv.length) (k : KW p l e R s m args below meth c nL q D G n0 Q (pc + 2) (ls2 lv i (some (.ref x))) st μ) : KW p l e R s m args below meth c nL q D G n0 Q pc lv (.ref x :: st) μ := fun H locs ls h1 h2 h3 h4 => lv_astore hx hb hd h1.2 (Nat.lt_of_lt_of_le hn h1.1) rfl (fun ls' h' => k H locs ls' (lvH.st1 (v := .ref x) h1.1 hbl h') h2 h3 h4)
theorem ky_iinc (hx : p.tables.exec = Jvm.exec) (hb : c.code = cc) {i : Nat} {n : Int} {x v : Int32} (hd : decode cc pc = .ok (.iinc i n, 3)) (hv : Int32.ofInt n = v) (hl : lk2 lv i = some (.int x)) (hbl : nolb lv i = true) (hn : i < lv.length) (k : KW p l e R s m args below meth c nL q D G n0 Q (pc + 3) (ls2 lv i (some (.int (x + v)))) st μ) : KW p l e R s m args below meth c nL q D G n0 Q pc lv st μ := by
  intro H locs ls h1 h2 h3 h4
  have hm := as0_in q (.int x) lv 0 i hl
  obtain ⟨j, hj⟩ := List.getElem?_of_mem hm
  rw [Nat.zero_add] at hj
  exact lv_iinc hx hb hd h1.2 hj (by rw [hv]) (Nat.lt_of_lt_of_le hn h1.1) rfl (fun ls' h' => k H locs ls' (lvH.st1 (v := .int (x + v)) h1.1 hbl h') h2 h3 h4)
theorem ky_iadd (hx : p.tables.exec = Jvm.exec) (hb : c.code = cc) {x y : Int32} (hd : decode cc pc = .ok (.iadd, 1)) (k : KW p l e R s m args below meth c nL q D G n0 Q (pc + 1) lv (.int (x + y) :: st) μ) : KW p l e R s m args below meth c nL q D G n0 Q pc lv (.int y :: .int x :: st) μ := fun H locs ls h1 h2 h3 h4 => lv_iadd hx hb hd (k H locs ls h1 h2 h3 h4)
theorem ky_isub (hx : p.tables.exec = Jvm.exec) (hb : c.code = cc) {x y : Int32} (hd : decode cc pc = .ok (.isub, 1)) (k : KW p l e R s m args below meth c nL q D G n0 Q (pc + 1) lv (.int (x - y) :: st) μ) : KW p l e R s m args below meth c nL q D G n0 Q pc lv (.int y :: .int x :: st) μ := fun H locs ls h1 h2 h3 h4 => lv_isub hx hb hd (k H locs ls h1 h2 h3 h4)
theorem ky_imul (hx : p.tables.exec = Jvm.exec) (hb : c.code = cc) {x y : Int32} (hd : decode cc pc = .ok (.imul, 1)) (k : KW p l e R s m args below meth c nL q D G n0 Q (pc + 1) lv (.int (x * y) :: st) μ) : KW p l e R s m args below meth c nL q D G n0 Q pc lv (.int y :: .int x :: st) μ := fun H locs ls h1 h2 h3 h4 => lv_imul hx hb hd (k H locs ls h1 h2 h3 h4)
theorem ky_iand (hx : p.tables.exec = Jvm.exec) (hb : c.code = cc) {x y : Int32} (hd : decode cc pc = .ok (.iand, 1)) (k : KW p l e R s m args below meth c nL q D G n0 Q (pc + 1) lv (.int (x &&& y) :: st) μ) : KW p l e R s m args below meth c nL q D G n0 Q pc lv (.int y :: .int x :: st) μ := fun H locs ls h1 h2 h3 h4 => lv_iand hx hb hd (k H locs ls h1 h2 h3 h4)
theorem ky_ior (hx : p.tables.exec = Jvm.exec) (hb : c.code = cc) {x y : Int32} (hd : decode cc pc = .ok (.ior, 1)) (k : KW p l e R s m args below meth c nL q D G n0 Q (pc + 1) lv (.int (x ||| y) :: st) μ) : KW p l e R s m args below meth c nL q D G n0 Q pc lv (.int y :: .int x :: st) μ := fun H locs ls h1 h2 h3 h4 => lv_ior hx hb hd (k H locs ls h1 h2 h3 h4)
theorem ky_ixor (hx : p.tables.exec = Jvm.exec) (hb : c.code = cc) {x y : Int32} (hd : decode cc pc = .ok (.ixor, 1)) (k : KW p l e R s m args below meth c nL q D G n0 Q (pc + 1) lv (.int (x ^^^ y) :: st) μ) : KW p l e R s m args below meth c nL q D G n0 Q pc lv (.int y :: .int x :: st) μ := fun H locs ls h1 h2 h3 h4 => lv_ixor hx hb hd (k H locs ls h1 h2 h3 h4)
theorem ky_ishl (hx : p.tables.exec = Jvm.exec) (hb : c.code = cc) {x y : Int32} (hd : decode cc pc = .ok (.ishl, 1)) (k : KW p l e R s m args below meth c nL q D G n0 Q (pc + 1) lv (.int (x <<< (y &&& 31)) :: st) μ) : KW p l e R s m args below meth c nL q D G n0 Q pc lv (.int y :: .int x :: st) μ := fun H locs ls h1 h2 h3 h4 => lv_ishl hx hb hd (k H locs ls h1 h2 h3 h4)
theorem ky_ishr (hx : p.tables.exec = Jvm.exec) (hb : c.code = cc) {x y : Int32} (hd : decode cc pc = .ok (.ishr, 1)) (k : KW p l e R s m args below meth c nL q D G n0 Q (pc + 1) lv (.int (x >>> (y &&& 31)) :: st) μ) : KW p l e R s m args below meth c nL q D G n0 Q pc lv (.int y :: .int x :: st) μ := fun H locs ls h1 h2 h3 h4 => lv_ishr hx hb hd (k H locs ls h1 h2 h3 h4)
theorem ky_idiv (hx : p.tables.exec = Jvm.exec) (hb : c.code = cc) {x y : Int32} (hd : decode cc pc = .ok (.idiv, 1)) (hne : ¬ y = 0) (k : KW p l e R s m args below meth c nL q D G n0 Q (pc + 1) lv (.int (x / y) :: st) μ) : KW p l e R s m args below meth c nL q D G n0 Q pc lv (.int y :: .int x :: st) μ := fun H locs ls h1 h2 h3 h4 => lv_idiv hx hb hd hne (k H locs ls h1 h2 h3 h4)
theorem ky_irem (hx : p.tables.exec = Jvm.exec) (hb : c.code = cc) {x y : Int32} (hd : decode cc pc = .ok (.irem, 1)) (hne : ¬ y = 0) (k : KW p l e R s m args below meth c nL q D G n0 Q (pc + 1) lv (.int (x - x / y * y) :: st) μ) : KW p l e R s m args below meth c nL q D G n0 Q pc lv (.int y :: .int x :: st) μ := fun H locs ls h1 h2 h3 h4 => lv_irem hx hb hd hne (k H locs ls h1 h2 h3 h4)
theorem ky_ladd (hx : p.tables.exec = Jvm.exec) (hb : c.code = cc) {x y : Int64} (hd : decode cc pc = .ok (.ladd, 1)) (k : KW p l e R s m args below meth c nL q D G n0 Q (pc + 1) lv (.long (x + y) :: st) μ) : KW p l e R s m args below meth c nL q D G n0 Q pc lv (.long y :: .long x :: st) μ := fun H locs ls h1 h2 h3 h4 => lv_ladd hx hb hd (k H locs ls h1 h2 h3 h4)
theorem ky_lsub (hx : p.tables.exec = Jvm.exec) (hb : c.code = cc) {x y : Int64} (hd : decode cc pc = .ok (.lsub, 1)) (k : KW p l e R s m args below meth c nL q D G n0 Q (pc + 1) lv (.long (x - y) :: st) μ) : KW p l e R s m args below meth c nL q D G n0 Q pc lv (.long y :: .long x :: st) μ := fun H locs ls h1 h2 h3 h4 => lv_lsub hx hb hd (k H locs ls h1 h2 h3 h4)
theorem ky_land (hx : p.tables.exec = Jvm.exec) (hb : c.code = cc) {x y : Int64} (hd : decode cc pc = .ok (.land, 1)) (k : KW p l e R s m args below meth c nL q D G n0 Q (pc + 1) lv (.long (x &&& y) :: st) μ) : KW p l e R s m args below meth c nL q D G n0 Q pc lv (.long y :: .long x :: st) μ := fun H locs ls h1 h2 h3 h4 => lv_land hx hb hd (k H locs ls h1 h2 h3 h4)
theorem ky_lor (hx : p.tables.exec = Jvm.exec) (hb : c.code = cc) {x y : Int64} (hd : decode cc pc = .ok (.lor, 1)) (k : KW p l e R s m args below meth c nL q D G n0 Q (pc + 1) lv (.long (x ||| y) :: st) μ) : KW p l e R s m args below meth c nL q D G n0 Q pc lv (.long y :: .long x :: st) μ := fun H locs ls h1 h2 h3 h4 => lv_lor hx hb hd (k H locs ls h1 h2 h3 h4)
theorem ky_lxor (hx : p.tables.exec = Jvm.exec) (hb : c.code = cc) {x y : Int64} (hd : decode cc pc = .ok (.lxor, 1)) (k : KW p l e R s m args below meth c nL q D G n0 Q (pc + 1) lv (.long (x ^^^ y) :: st) μ) : KW p l e R s m args below meth c nL q D G n0 Q pc lv (.long y :: .long x :: st) μ := fun H locs ls h1 h2 h3 h4 => lv_lxor hx hb hd (k H locs ls h1 h2 h3 h4)
theorem ky_lshl (hx : p.tables.exec = Jvm.exec) (hb : c.code = cc) {x : Int64} {y : Int32} (hd : decode cc pc = .ok (.lshl, 1)) (k : KW p l e R s m args below meth c nL q D G n0 Q (pc + 1) lv (.long (x <<< (y.toInt64 &&& 63)) :: st) μ) : KW p l e R s m args below meth c nL q D G n0 Q pc lv (.int y :: .long x :: st) μ := fun H locs ls h1 h2 h3 h4 => lv_lshl hx hb hd rfl (k H locs ls h1 h2 h3 h4)
theorem ky_lshr (hx : p.tables.exec = Jvm.exec) (hb : c.code = cc) {x : Int64} {y : Int32} (hd : decode cc pc = .ok (.lshr, 1)) (k : KW p l e R s m args below meth c nL q D G n0 Q (pc + 1) lv (.long (x >>> (y.toInt64 &&& 63)) :: st) μ) : KW p l e R s m args below meth c nL q D G n0 Q pc lv (.int y :: .long x :: st) μ := fun H locs ls h1 h2 h3 h4 => lv_lshr hx hb hd rfl (k H locs ls h1 h2 h3 h4)
theorem ky_lushr (hx : p.tables.exec = Jvm.exec) (hb : c.code = cc) {x : Int64} {y : Int32} (hd : decode cc pc = .ok (.lushr, 1)) (k : KW p l e R s m args below meth c nL q D G n0 Q (pc + 1) lv (.long ((x.toUInt64 >>> (y.toInt64.toUInt64 &&& Int64.toUInt64 63)).toInt64) :: st) μ) : KW p l e R s m args below meth c nL q D G n0 Q pc lv (.int y :: .long x :: st) μ := fun H locs ls h1 h2 h3 h4 => lv_lushr hx hb hd rfl (k H locs ls h1 h2 h3 h4)
theorem ky_i2l (hx : p.tables.exec = Jvm.exec) (hb : c.code = cc) {x : Int32} (hd : decode cc pc = .ok (.i2l, 1)) (k : KW p l e R s m args below meth c nL q D G n0 Q (pc + 1) lv (.long x.toInt64 :: st) μ) : KW p l e R s m args below meth c nL q D G n0 Q pc lv (.int x :: st) μ := fun H locs ls h1 h2 h3 h4 => lv_i2l hx hb hd rfl (k H locs ls h1 h2 h3 h4)
theorem ky_l2i (hx : p.tables.exec = Jvm.exec) (hb : c.code = cc) {x : Int64} (hd : decode cc pc = .ok (.l2i, 1)) (k : KW p l e R s m args below meth c nL q D G n0 Q (pc + 1) lv (.int x.toInt32 :: st) μ) : KW p l e R s m args below meth c nL q D G n0 Q pc lv (.long x :: st) μ := fun H locs ls h1 h2 h3 h4 => lv_l2i hx hb hd rfl (k H locs ls h1 h2 h3 h4)
theorem ky_lcmp (hx : p.tables.exec = Jvm.exec) (hb : c.code = cc) {x y : Int64} (hd : decode cc pc = .ok (.lcmp, 1)) (k : KW p l e R s m args below meth c nL q D G n0 Q (pc + 1) lv (.int (lg_cmp x y) :: st) μ) : KW p l e R s m args below meth c nL q D G n0 Q pc lv (.long y :: .long x :: st) μ := fun H locs ls h1 h2 h3 h4 => W.lcmp hx hb hd (k H locs ls h1 h2 h3 h4)
theorem ky_dup (hx : p.tables.exec = Jvm.exec) (hb : c.code = cc) {v : Value} (hd : decode cc pc = .ok (.dup, 1)) (hv : v.category = 1) (k : KW p l e R s m args below meth c nL q D G n0 Q (pc + 1) lv (v :: v :: st) μ) : KW p l e R s m args below meth c nL q D G n0 Q pc lv (v :: st) μ := fun H locs ls h1 h2 h3 h4 => lv_dup hx hb hd ((tv_cat q v).trans hv) (k H locs ls h1 h2 h3 h4)
theorem ky_pop (hx : p.tables.exec = Jvm.exec) (hb : c.code = cc) {v : Value} (hd : decode cc pc = .ok (.pop, 1)) (hv : v.category = 1) (k : KW p l e R s m args below meth c nL q D G n0 Q (pc + 1) lv st μ) : KW p l e R s m args below meth c nL q D G n0 Q pc lv (v :: st) μ := fun H locs ls h1 h2 h3 h4 => lv_pop hx hb hd ((tv_cat q v).trans hv) (k H locs ls h1 h2 h3 h4)
theorem ky_dup2 (hx : p.tables.exec = Jvm.exec) (hb : c.code = cc) {v w : Value} (hd : decode cc pc = .ok (.dup2, 1)) (hv : v.category = 1) (hw : w.category = 1) (k : KW p l e R s m args below meth c nL q D G n0 Q (pc + 1) lv (v :: w :: v :: w :: st) μ) : KW p l e R s m args below meth c nL q D G n0 Q pc lv (v :: w :: st) μ := fun H locs ls h1 h2 h3 h4 => lv_dup2_11 hx hb hd ((tv_cat q v).trans hv) ((tv_cat q w).trans hw) (k H locs ls h1 h2 h3 h4)
theorem ky_dup_x1 (hx : p.tables.exec = Jvm.exec) (hb : c.code = cc) {v w : Value} (hd : decode cc pc = .ok (.dup_x1, 1)) (hv : v.category = 1) (hw : w.category = 1) (k : KW p l e R s m args below meth c nL q D G n0 Q (pc + 1) lv (v :: w :: v :: st) μ) : KW p l e R s m args below meth c nL q D G n0 Q pc lv (v :: w :: st) μ := fun H locs ls h1 h2 h3 h4 => lv_dup_x1 hx hb hd ((tv_cat q v).trans hv) ((tv_cat q w).trans hw) (k H locs ls h1 h2 h3 h4)
theorem ky_goto (hx : p.tables.exec = Jvm.exec) (hb : c.code = cc) {off : Int} {tgt : Nat} (hd : decode cc pc = .ok (.goto off, 3)) (ht : (pc : Int) + off = (tgt : Int)) (k : KW p l e R s m args below meth c nL q D G n0 Q tgt lv st μ) : KW p l e R s m args below meth c nL q D G n0 Q pc lv st μ := fun H locs ls h1 h2 h3 h4 => lv_goto hx hb hd ht (k H locs ls h1 h2 h3 h4)
theorem ky_if_eq (hx : p.tables.exec = Jvm.exec) (hb : c.code = cc) {x : Int32} {off : Int} {tgt : Nat} (hd : decode cc pc = .ok (.ifCond .eq off, 3)) (ht : (pc : Int) + off = (tgt : Int)) (k : (x = 0 → KW p l e R s m args below meth c nL q D G n0 Q tgt lv st μ) ∧ (¬ x = 0 → KW p l e R s m args below meth c nL q D G n0 Q (pc + 3) lv st μ)) : KW p l e R s m args below meth c nL q D G n0 Q pc lv (.int x :: st) μ := fun H locs ls h1 h2 h3 h4 => lv_if_eq hx hb hd ht (fun z => k.1 z H locs ls h1 h2 h3 h4) (fun z => k.2 z H locs ls h1 h2 h3 h4)
theorem ky_icmp_eq (hx : p.tables.exec = Jvm.exec) (hb : c.code = cc) {x y : Int32} {off : Int} {tgt : Nat} (hd : decode cc pc = .ok (.if_icmp .eq off, 3)) (ht : (pc : Int) + off = (tgt : Int)) (k : (x = y → KW p l e R s m args below meth c nL q D G n0 Q tgt lv st μ) ∧ (¬ x = y → KW p l e R s m args below meth c nL q D G n0 Q (pc + 3) lv st μ)) : KW p l e R s m args below meth c nL q D G n0 Q pc lv (.int y :: .int x :: st) μ := fun H locs ls h1 h2 h3 h4 => lv_icmp_eq hx hb hd ht (fun z => k.1 z H locs ls h1 h2 h3 h4) (fun z => k.2 z H locs ls h1 h2 h3 h4)
theorem ky_if_ne (hx : p.tables.exec = Jvm.exec) (hb : c.code = cc) {x : Int32} {off : Int} {tgt : Nat} (hd : decode cc pc = .ok (.ifCond .ne off, 3)) (ht : (pc : Int) + off = (tgt : Int)) (k : (¬ x = 0 → KW p l e R s m args below meth c nL q D G n0 Q tgt lv st μ) ∧ (x = 0 → KW p l e R s m args below meth c nL q D G n0 Q (pc + 3) lv st μ)) : KW p l e R s m args below meth c nL q D G n0 Q pc lv (.int x :: st) μ := fun H locs ls h1 h2 h3 h4 => lv_if_ne hx hb hd ht (fun z => k.1 z H locs ls h1 h2 h3 h4) (fun z => k.2 z H locs ls h1 h2 h3 h4)
theorem ky_icmp_ne (hx : p.tables.exec = Jvm.exec) (hb : c.code = cc) {x y : Int32} {off : Int} {tgt : Nat} (hd : decode cc pc = .ok (.if_icmp .ne off, 3)) (ht : (pc : Int) + off = (tgt : Int)) (k : (¬ x = y → KW p l e R s m args below meth c nL q D G n0 Q tgt lv st μ) ∧ (x = y → KW p l e R s m args below meth c nL q D G n0 Q (pc + 3) lv st μ)) : KW p l e R s m args below meth c nL q D G n0 Q pc lv (.int y :: .int x :: st) μ := fun H locs ls h1 h2 h3 h4 => lv_icmp_ne hx hb hd ht (fun z => k.1 z H locs ls h1 h2 h3 h4) (fun z => k.2 z H locs ls h1 h2 h3 h4)
theorem ky_if_lt (hx : p.tables.exec = Jvm.exec) (hb : c.code = cc) {x : Int32} {off : Int} {tgt : Nat} (hd : decode cc pc = .ok (.ifCond .lt off, 3)) (ht : (pc : Int) + off = (tgt : Int)) (k : (x < 0 → KW p l e R s m args below meth c nL q D G n0 Q tgt lv st μ) ∧ (¬ x < 0 → KW p l e R s m args below meth c nL q D G n0 Q (pc + 3) lv st μ)) : KW p l e R s m args below meth c nL q D G n0 Q pc lv (.int x :: st) μ := fun H locs ls h1 h2 h3 h4 => lv_if_lt hx hb hd ht (fun z => k.1 z H locs ls h1 h2 h3 h4) (fun z => k.2 z H locs ls h1 h2 h3 h4)
theorem ky_icmp_lt (hx : p.tables.exec = Jvm.exec) (hb : c.code = cc) {x y : Int32} {off : Int} {tgt : Nat} (hd : decode cc pc = .ok (.if_icmp .lt off, 3)) (ht : (pc : Int) + off = (tgt : Int)) (k : (x < y → KW p l e R s m args below meth c nL q D G n0 Q tgt lv st μ) ∧ (¬ x < y → KW p l e R s m args below meth c nL q D G n0 Q (pc + 3) lv st μ)) : KW p l e R s m args below meth c nL q D G n0 Q pc lv (.int y :: .int x :: st) μ := fun H locs ls h1 h2 h3 h4 => lv_icmp_lt hx hb hd ht (fun z => k.1 z H locs ls h1 h2 h3 h4) (fun z => k.2 z H locs ls h1 h2 h3 h4)
theorem ky_if_ge (hx : p.tables.exec = Jvm.exec) (hb : c.code = cc) {x : Int32} {off : Int} {tgt : Nat} (hd : decode cc pc = .ok (.ifCond .ge off, 3)) (ht : (pc : Int) + off = (tgt : Int)) (k : (0 ≤ x → KW p l e R s m args below meth c nL q D G n0 Q tgt lv st μ) ∧ (¬ 0 ≤ x → KW p l e R s m args below meth c nL q D G n0 Q (pc + 3) lv st μ)) : KW p l e R s m args below meth c nL q D G n0 Q pc lv (.int x :: st) μ := fun H locs ls h1 h2 h3 h4 => lv_if_ge hx hb hd ht (fun z => k.1 z H locs ls h1 h2 h3 h4) (fun z => k.2 z H locs ls h1 h2 h3 h4)
theorem ky_icmp_ge (hx : p.tables.exec = Jvm.exec) (hb : c.code = cc) {x y : Int32} {off : Int} {tgt : Nat} (hd : decode cc pc = .ok (.if_icmp .ge off, 3)) (ht : (pc : Int) + off = (tgt : Int)) (k : (y ≤ x → KW p l e R s m args below meth c nL q D G n0 Q tgt lv st μ) ∧ (¬ y ≤ x → KW p l e R s m args below meth c nL q D G n0 Q (pc + 3) lv st μ)) : KW p l e R s m args below meth c nL q D G n0 Q pc lv (.int y :: .int x :: st) μ := fun H locs ls h1 h2 h3 h4 => lv_icmp_ge hx hb hd ht (fun z => k.1 z H locs ls h1 h2 h3 h4) (fun z => k.2 z H locs ls h1 h2 h3 h4)
theorem ky_if_gt (hx : p.tables.exec = Jvm.exec) (hb : c.code = cc) {x : Int32} {off : Int} {tgt : Nat} (hd : decode cc pc = .ok (.ifCond .gt off, 3)) (ht : (pc : Int) + off = (tgt : Int)) (k : (0 < x → KW p l e R s m args below meth c nL q D G n0 Q tgt lv st μ) ∧ (¬ 0 < x → KW p l e R s m args below meth c nL q D G n0 Q (pc + 3) lv st μ)) : KW p l e R s m args below meth c nL q D G n0 Q pc lv (.int x :: st) μ := fun H locs ls h1 h2 h3 h4 => lv_if_gt hx hb hd ht (fun z => k.1 z H locs ls h1 h2 h3 h4) (fun z => k.2 z H locs ls h1 h2 h3 h4)
theorem ky_icmp_gt (hx : p.tables.exec = Jvm.exec) (hb : c.code = cc) {x y : Int32} {off : Int} {tgt : Nat} (hd : decode cc pc = .ok (.if_icmp .gt off, 3)) (ht : (pc : Int) + off = (tgt : Int)) (k : (y < x → KW p l e R s m args below meth c nL q D G n0 Q tgt lv st μ) ∧ (¬ y < x → KW p l e R s m args below meth c nL q D G n0 Q (pc + 3) lv st μ)) : KW p l e R s m args below meth c nL q D G n0 Q pc lv (.int y :: .int x :: st) μ := fun H locs ls h1 h2 h3 h4 => lv_icmp_gt hx hb hd ht (fun z => k.1 z H locs ls h1 h2 h3 h4) (fun z => k.2 z H locs ls h1 h2 h3 h4)
theorem ky_if_le (hx : p.tables.exec = Jvm.exec) (hb : c.code = cc) {x : Int32} {off : Int} {tgt : Nat} (hd : decode cc pc = .ok (.ifCond .le off, 3)) (ht : (pc : Int) + off = (tgt : Int)) (k : (x ≤ 0 → KW p l e R s m args below meth c nL q D G n0 Q tgt lv st μ) ∧ (¬ x ≤ 0 → KW p l e R s m args below meth c nL q D G n0 Q (pc + 3) lv st μ)) : KW p l e R s m args below meth c nL q D G n0 Q pc lv (.int x :: st) μ := fun H locs ls h1 h2 h3 h4 => lv_if_le hx hb hd ht (fun z => k.1 z H locs ls h1 h2 h3 h4) (fun z => k.2 z H locs ls h1 h2 h3 h4)
theorem ky_icmp_le (hx : p.tables.exec = Jvm.exec) (hb : c.code = cc) {x y : Int32} {off : Int} {tgt : Nat} (hd : decode cc pc = .ok (.if_icmp .le off, 3)) (ht : (pc : Int) + off = (tgt : Int)) (k : (x ≤ y → KW p l e R s m args below meth c nL q D G n0 Q tgt lv st μ) ∧ (¬ x ≤ y → KW p l e R s m args below meth c nL q D G n0 Q (pc + 3) lv st μ)) : KW p l e R s m args below meth c nL q D G n0 Q pc lv (.int y :: .int x :: st) μ := fun H locs ls h1 h2 h3 h4 => lv_icmp_le hx hb hd ht (fun z => k.1 z H locs ls h1 h2 h3 h4) (fun z => k.2 z H locs ls h1 h2 h3 h4)
theorem isO_e {μ : Mm} {k ci : Nat} (h : isO μ k ci = true) : (kd k).1 = ci + 5 ∧ k < μ.1 := by
  unfold isO at h
  rw [Bool.and_eq_true] at h
  exact ⟨Nat.eq_of_beq_eq_true h.1, Nat.le_of_ble_eq_true h.2⟩
theorem isA_e {μ : Mm} {k t : Nat} (h : isA μ k t = true) : (kd k).1 = t ∧ k < μ.1 := by
  unfold isA at h
  rw [Bool.and_eq_true] at h
  exact ⟨Nat.eq_of_beq_eq_true h.1, Nat.le_of_ble_eq_true h.2⟩
theorem cx_o {t : Nat × Nat} {r : Nat → Int32} {w : Nat → Int64} {z : Nat → Option Nat} {ci : Nat} (h : t.1 = ci + 5) : cx q G t r w z = .inr (ci, fvl q r w z (fk ci)) := by
  obtain ⟨t1, t2⟩ := t
  have h : t1 = ci + 5 := h
  subst h
  rfl
theorem cx_0 {t : Nat × Nat} {r : Nat → Int32} {w : Nat → Int64} {z : Nat → Option Nat} (h : t.1 = 0) : cx q G t r w z = .inl (G 0, t.2, .inl r) := by
  obtain ⟨t1, t2⟩ := t
  have h : t1 = 0 := h
  subst h
  rfl
theorem cx_1 {t : Nat × Nat} {r : Nat → Int32} {w : Nat → Int64} {z : Nat → Option Nat} (h : t.1 = 1) : cx q G t r w z = .inl (G 1, t.2, .inr (.inl w)) := by
  obtain ⟨t1, t2⟩ := t
  have h : t1 = 1 := h
  subst h
  rfl
theorem cx_2 {t : Nat × Nat} {r : Nat → Int32} {w : Nat → Int64} {z : Nat → Option Nat} (h : t.1 = 2) : cx q G t r w z = .inl (G 2, t.2, .inl r) := by
  obtain ⟨t1, t2⟩ := t
  have h : t1 = 2 := h
  subst h
  rfl
theorem cx_3 {t : Nat × Nat} {r : Nat → Int32} {w : Nat → Int64} {z : Nat → Option Nat} (h : t.1 = 3) : cx q G t r w z = .inl (G 3, t.2, .inr (.inr (.inr (.inr (fun j => (z j).map (ra q)))))) := by
  obtain ⟨t1, t2⟩ := t
  have h : t1 = 3 := h
  subst h
  rfl
theorem cx_4 {t : Nat × Nat} {r : Nat → Int32} {w : Nat → Int64} {z : Nat → Option Nat} (h : t.1 = 4) : cx q G t r w z = .inl (G 4, t.2, .inr (.inr (.inr (.inr (fun j => (z j).map (ra q)))))) := by
  obtain ⟨t1, t2⟩ := t
  have h : t1 = 4 := h
  subst h
  rfl
theorem va_P1 {D : va_G} {x : Nat × va_E} {H : Heap} (h : va_at D vwCl x H) : va_P D vwCl [x] H := by
  intro i y hy
  cases i with
  | zero =>
    have : x = y := Option.some.inj hy
    subst this
    exact h
  | succ i => simp at hy
theorem fvl_set {r r' : Nat → Int32} {w w' : Nat → Int64} {z z' : Nat → Option Nat} {l : List Nat} {j : Nat} {v : Value} (hj : j < l.length) (h : fv q r' w' z' j (l.getD j 0) = v) (ho : ∀ i, i ≠ j → fv q r' w' z' i (l.getD i 0) = fv q r w z i (l.getD i 0)) : fvl q r' w' z' l = (fvl q r w z l).set j v := by
  apply List.ext_getElem?
  intro i
  by_cases hi : i < l.length
  · rw [fvl_at hi]
    by_cases hij : i = j
    · subst hij
      rw [List.getElem?_set_self (by rw [fvl_len]; exact hi), h]
    · rw [List.getElem?_set_ne (Ne.symm hij), fvl_at hi, ho i hij]
  · rw [List.getElem?_eq_none (by rw [fvl_len]; omega), List.getElem?_eq_none (by rw [List.length_set, fvl_len]; omega)]

theorem ky_get (hx : p.tables.exec = Jvm.exec) (hb : c.code = cc) {own : String} (ho : s.vm.findClass own = some m.cls) (hts : ∀ w ∈ WS, w.before args s = true) (hK : va_K D vwCl (tyl G) s) {ci j ix N : Nat} {C : String} {T : u_T} (hc : vwCl[ci]? = some (C, T, N)) (hj : j < N) (hl : Cond.fieldLink own ix (T j).1 (T j).2.1 (T j).2.2.1 ∈ WS) (hN : (fk ci).length = N) {k : Nat} (hk : isO μ k ci = true) (hd : decode cc pc = .ok (.getfield ix, 3)) {v : Value} (hv : fv q (μ.2.1 k) (μ.2.2.1 k) (μ.2.2.2 k) j ((fk ci).getD j 0) = tv q v)
    (kk : KW p l e R s m args below meth c nL q D G n0 Q (pc + 3) lv (v :: st) μ) : KW p l e R s m args below meth c nL q D G n0 Q pc lv (.ref k :: st) μ := by
  intro H locs ls h1 h2 h3 h4
  obtain ⟨hk1, hk2⟩ := isO_e hk
  have hat := h2.2.2 k hk2
  rw [cx_o hk1] at hat
  show W p l e R s m args below meth c H locs (μ.1 - n0) (cz μ.1 - cz n0) Q (F0 m pc ls (.ref (ra q k) :: st.map (tv q)))
  have h9 := h2.1
  rw [ra_lt (by omega)]
  exact va_get hx hb hts (cf_ws ci _ hc) ho hK (va_P1 hat) 0 rfl hc j hj (hts _ hl) (fun _ h9 => h9) (v := tv q v) (by rw [fvl_at (by rw [hN]; exact hj), hv]) hd (kk H locs ls h1 h2 h3 h4)
theorem ky_put (hx : p.tables.exec = Jvm.exec) (hb : c.code = cc) {own : String} (ho : s.vm.findClass own = some m.cls) (hts : ∀ w ∈ WS, w.before args s = true) (hK : va_K D vwCl (tyl G) s) {ci j ix N : Nat} {C : String} {T : u_T} (hc : vwCl[ci]? = some (C, T, N)) (hj : j < N) (hl : Cond.fieldLink own ix (T j).1 (T j).2.1 (T j).2.2.1 ∈ WS) (hN : (fk ci).length = N) (hfin : (T j).2.2.2 = false ∨ ((T j).2.2.2 = true ∧ (T j).1 = own ∧ meth.name = "<init>")) {k : Nat} (hk : isO μ k ci = true) (hd : decode cc pc = .ok (.putfield ix, 3)) {v : Value} {ty : FieldType} (hty0 : parseFieldDescriptor (T j).2.2.1 = some ty) (hn : narrow ty (tv q v) = tv q v) (hfit : fits ty (tv q v) = true)
    {μ' : Mm} (hμ : μ'.1 = μ.1) (hro : ∀ i, i ≠ k → μ'.2.1 i = μ.2.1 i ∧ μ'.2.2.1 i = μ.2.2.1 i ∧ μ'.2.2.2 i = μ.2.2.2 i) (hfs : fvl q (μ'.2.1 k) (μ'.2.2.1 k) (μ'.2.2.2 k) (fk ci) = (fvl q (μ.2.1 k) (μ.2.2.1 k) (μ.2.2.2 k) (fk ci)).set j (tv q v))
    (kk : KW p l e R s m args below meth c nL q D G n0 Q (pc + 3) lv st μ') : KW p l e R s m args below meth c nL q D G n0 Q pc lv (v :: .ref k :: st) μ := by
  intro H locs ls h1 h2 h3 h4
  obtain ⟨hk1, hk2⟩ := isO_e hk
  have hat := h2.2.2 k hk2
  rw [cx_o hk1] at hat
  show W p l e R s m args below meth c H locs (μ.1 - n0) (cz μ.1 - cz n0) Q (F0 m pc ls (tv q v :: .ref (ra q k) :: st.map (tv q)))
  have h9 := h2.1
  rw [ra_lt (by omega)]
  have hin := cf_ws ci _ hc
  obtain ⟨ty0, hty, hnm, -⟩ := cf_ty ci _ hc
  have hap := va_apart (own := own) hts hin ty0 hty hnm hK hc
  obtain ⟨r, hr1, cell, q1, q2, q3, q4⟩ := hat
  have hr : r = (C, T, N) := Option.some.inj (hr1.symm.trans hc)
  subst hr
  obtain ⟨hS, hfc, kC, hkC, hkind⟩ := hK.1 ci _ hc
  obtain ⟨cf, kf, fi, f, hi, hsl⟩ := hS j hj
  have hst := (u_facts hfc hkC (u_lays hts hin hj) hi).1
  have fin : ∀ H' : Heap, H'[q.1 + k]? = some (cell.setSlot f.slot (tv q v)) → H'.size = H.size → (∀ a, a ≠ q.1 + k → H'[a]? = H[a]?) → W p l e R s m args below meth c H' (locs ++ [⟨q.1 + k, f.slot⟩]) (μ.1 - n0) (cz μ.1 - cz n0) Q (F0 m (pc + 3) ls (st.map (tv q))) := by
    intro H' e1 e2 e3
    rw [hsl] at e1
    have hW : Wd q D G μ' H' := h2.chg k hμ e2 e3 (by
      rw [cx_o hk1, hfs]
      exact ⟨_, hc, t_OB.to (V := updV (vp_V (fvl q (μ.2.1 k) (μ.2.2.1 k) (μ.2.2.2 k) (fk ci))) j (tv q v)) ⟨_, e1, q2, q3, t_set q4 hap hj (tv q v)⟩ (fun i _ => vp_updV_set (by rw [fvl_len, hN]; exact hj) (tv q v) i)⟩) hro
    have := kk H' (locs ++ [⟨q.1 + k, f.slot⟩]) ls h1 hW (h3.put e2 e3 (Nat.le_add_right _ _)) (by rw [hμ]; exact h4)
    rw [hμ] at this
    exact this
  rcases hfin with hfin | ⟨hfin, hdecl, hin2⟩
  · have hlay := hts _ (hin _ (u_in_lay hj))
    unfold u_lay at hlay
    rw [if_neg (by rw [hfin]; decide)] at hlay
    have h6 := u_store hfc hkC hkind hlay hi hty0 hn hfit
    exact W.putK hx hb (f := f) ⟨ho, hts _ hl, ⟨_, _, _, hi⟩, hst⟩ (by rw [q2]; exact h6) q1 q3 (by rw [hsl]; exact k2_hasslot (q4 j hj)) rfl rfl hd fin
  · have hlay := hts _ (hin _ (u_in_lay hj))
    unfold u_lay at hlay
    rw [if_pos hfin] at hlay
    have hcf : m.cls = cf := by
      obtain ⟨_, _, c', _, _, _, -, -, hf', -, -, -, hown2, -⟩ := Cond.laysFinal_spec hlay
      have e1 : c' = cf := by have := hi.symm.trans hf'; simp at this; exact this.1.symm
      rw [hdecl] at hown2
      rw [← e1]; exact Option.some.inj (ho.symm.trans hown2)
    have h6 := u_fits hfc hkC hkind (Or.inr hlay) hi hty0 hn hfit
    exact W.putFinK hx hb ho (hts _ hl) hi hst hcf hin2 (by rw [q2]; exact h6) q1 q3 (by rw [hsl]; exact k2_hasslot (q4 j hj)) rfl rfl hd fin

theorem ky_iald (hx : p.tables.exec = Jvm.exec) (hb : c.code = cc) (hK : va_K D vwCl (tyl G) s) {k : Nat} {i : Int32} (hk : isA μ k 0 = true) (hi : vp_in i (kd k).2) (hd : decode cc pc = .ok (.iaload, 1))
    (kk : KW p l e R s m args below meth c nL q D G n0 Q (pc + 1) lv (.int (μ.2.1 k i.toNatClampNeg) :: st) μ) : KW p l e R s m args below meth c nL q D G n0 Q pc lv (.int i :: .ref k :: st) μ := by
  intro H locs ls h1 h2 h3 h4
  obtain ⟨hk1, hk2⟩ := isA_e hk
  have hat := h2.2.2 k hk2
  rw [cx_0 hk1] at hat
  show W p l e R s m args below meth c H locs (μ.1 - n0) (cz μ.1 - cz n0) Q (F0 m pc ls (.int i :: .ref (ra q k) :: st.map (tv q)))
  have h9 := h2.1
  rw [ra_lt (by omega)]
  exact va_iald hx hb hK (va_P1 hat) 0 0 rfl rfl hi hd (kk H locs ls h1 h2 h3 h4)

theorem ky_zald (hx : p.tables.exec = Jvm.exec) (hb : c.code = cc) (hK : va_K D vwCl (tyl G) s) {k : Nat} {i : Int32} (hk : isA μ k 2 = true) (hi : vp_in i (kd k).2) (hd : decode cc pc = .ok (.baload, 1))
    (kk : KW p l e R s m args below meth c nL q D G n0 Q (pc + 1) lv (.int (μ.2.1 k i.toNatClampNeg) :: st) μ) : KW p l e R s m args below meth c nL q D G n0 Q pc lv (.int i :: .ref k :: st) μ := by
  intro H locs ls h1 h2 h3 h4
  obtain ⟨hk1, hk2⟩ := isA_e hk
  have hat := h2.2.2 k hk2
  rw [cx_2 hk1] at hat
  show W p l e R s m args below meth c H locs (μ.1 - n0) (cz μ.1 - cz n0) Q (F0 m pc ls (.int i :: .ref (ra q k) :: st.map (tv q)))
  have h9 := h2.1
  rw [ra_lt (by omega)]
  exact va_zald hx hb hK (va_P1 hat) 0 2 rfl rfl hi hd (kk H locs ls h1 h2 h3 h4)

theorem ky_lald (hx : p.tables.exec = Jvm.exec) (hb : c.code = cc) (hK : va_K D vwCl (tyl G) s) {k : Nat} {i : Int32} (hk : isA μ k 1 = true) (hi : vp_in i (kd k).2) (hd : decode cc pc = .ok (.laload, 1))
    (kk : KW p l e R s m args below meth c nL q D G n0 Q (pc + 1) lv (.long (μ.2.2.1 k i.toNatClampNeg) :: st) μ) : KW p l e R s m args below meth c nL q D G n0 Q pc lv (.int i :: .ref k :: st) μ := by
  intro H locs ls h1 h2 h3 h4
  obtain ⟨hk1, hk2⟩ := isA_e hk
  have hat := h2.2.2 k hk2
  rw [cx_1 hk1] at hat
  show W p l e R s m args below meth c H locs (μ.1 - n0) (cz μ.1 - cz n0) Q (F0 m pc ls (.int i :: .ref (ra q k) :: st.map (tv q)))
  have h9 := h2.1
  rw [ra_lt (by omega)]
  exact va_lald hx hb hK (va_P1 hat) 0 1 rfl rfl hi hd (kk H locs ls h1 h2 h3 h4)

theorem ky_aald3 (hx : p.tables.exec = Jvm.exec) (hb : c.code = cc) (hK : va_K D vwCl (tyl G) s) {k k' : Nat} {i : Int32} (hk : isA μ k 3 = true) (hi : vp_in i (kd k).2) (hd : decode cc pc = .ok (.aaload, 1)) (hv : μ.2.2.2 k i.toNatClampNeg = some k')
    (kk : KW p l e R s m args below meth c nL q D G n0 Q (pc + 1) lv (.ref k' :: st) μ) : KW p l e R s m args below meth c nL q D G n0 Q pc lv (.int i :: .ref k :: st) μ := by
  intro H locs ls h1 h2 h3 h4
  obtain ⟨hk1, hk2⟩ := isA_e hk
  have hat := h2.2.2 k hk2
  rw [cx_3 hk1] at hat
  show W p l e R s m args below meth c H locs (μ.1 - n0) (cz μ.1 - cz n0) Q (F0 m pc ls (.int i :: .ref (ra q k) :: st.map (tv q)))
  have h9 := h2.1
  rw [ra_lt (by omega)]
  refine va_aldq hx hb hK (va_P1 hat) 0 3 (C := Rlit) rfl rfl hi hd ?_
  show W p l e R s m args below meth c H locs (μ.1 - n0) (cz μ.1 - cz n0) Q (F0 m (pc + 1) ls (va_rf ((μ.2.2.2 k i.toNatClampNeg).map (ra q)) :: st.map (tv q)))
  rw [hv]
  exact kk H locs ls h1 h2 h3 h4

theorem ky_aald4 (hx : p.tables.exec = Jvm.exec) (hb : c.code = cc) (hK : va_K D vwCl (tyl G) s) {k k' : Nat} {i : Int32} (hk : isA μ k 4 = true) (hi : vp_in i (kd k).2) (hd : decode cc pc = .ok (.aaload, 1)) (hv : μ.2.2.2 k i.toNatClampNeg = some k')
    (kk : KW p l e R s m args below meth c nL q D G n0 Q (pc + 1) lv (.ref k' :: st) μ) : KW p l e R s m args below meth c nL q D G n0 Q pc lv (.int i :: .ref k :: st) μ := by
  intro H locs ls h1 h2 h3 h4
  obtain ⟨hk1, hk2⟩ := isA_e hk
  have hat := h2.2.2 k hk2
  rw [cx_4 hk1] at hat
  show W p l e R s m args below meth c H locs (μ.1 - n0) (cz μ.1 - cz n0) Q (F0 m pc ls (.int i :: .ref (ra q k) :: st.map (tv q)))
  have h9 := h2.1
  rw [ra_lt (by omega)]
  refine va_aldq hx hb hK (va_P1 hat) 0 4 (C := Rrul) rfl rfl hi hd ?_
  show W p l e R s m args below meth c H locs (μ.1 - n0) (cz μ.1 - cz n0) Q (F0 m (pc + 1) ls (va_rf ((μ.2.2.2 k i.toNatClampNeg).map (ra q)) :: st.map (tv q)))
  rw [hv]
  exact kk H locs ls h1 h2 h3 h4

theorem ky_alen (hx : p.tables.exec = Jvm.exec) (hb : c.code = cc) (hK : va_K D vwCl (tyl G) s) {k : Nat} (hk : isA μ k 0 = true) (hd : decode cc pc = .ok (.arraylength, 1))
    (kk : KW p l e R s m args below meth c nL q D G n0 Q (pc + 1) lv (.int (Int32.ofNat (kd k).2) :: st) μ) : KW p l e R s m args below meth c nL q D G n0 Q pc lv (.ref k :: st) μ := by
  intro H locs ls h1 h2 h3 h4
  obtain ⟨hk1, hk2⟩ := isA_e hk
  have hat := h2.2.2 k hk2
  rw [cx_0 hk1] at hat
  show W p l e R s m args below meth c H locs (μ.1 - n0) (cz μ.1 - cz n0) Q (F0 m pc ls (.ref (ra q k) :: st.map (tv q)))
  have h9 := h2.1
  rw [ra_lt (by omega)]
  exact va_alen hx hb hK (va_P1 hat) 0 0 rfl rfl rfl hd (kk H locs ls h1 h2 h3 h4)

theorem ky_iast (hx : p.tables.exec = Jvm.exec) (hb : c.code = cc) (hK : va_K D vwCl (tyl G) s) {k : Nat} {i : Int32} {x : Int32} (hk : isA μ k 0 = true) (hi : vp_in i (kd k).2) (hd : decode cc pc = .ok (.iastore, 1))
    (kk : KW p l e R s m args below meth c nL q D G n0 Q (pc + 1) lv st (sI μ k i.toNatClampNeg x)) : KW p l e R s m args below meth c nL q D G n0 Q pc lv (.int x :: .int i :: .ref k :: st) μ := by
  intro H locs ls h1 h2 h3 h4
  obtain ⟨hk1, hk2⟩ := isA_e hk
  have hat := h2.2.2 k hk2
  rw [cx_0 hk1] at hat
  show W p l e R s m args below meth c H locs (μ.1 - n0) (cz μ.1 - cz n0) Q (F0 m pc ls (.int x :: .int i :: .ref (ra q k) :: st.map (tv q)))
  have h9 := h2.1
  rw [ra_lt (by omega)]
  obtain ⟨n, f, g, z⟩ := μ
  refine W.iast hx hb hat ((hK.2 0 _ rfl).1 (kd k).2 (fun j => .int (f k j))) (fun h => by cases h) (by show ¬ (i < 0 ∨ (arrV _ _ _).slots.size ≤ _); rw [arrV_size]; exact hi) rfl rfl hd fun H1 e1 e2 e3 => ?_
  · have e1 := e1
    
    refine kk H1 _ ls h1 (h2.chg k rfl e2 e3 ?_ ?_) (h3.put e2 e3 (Nat.le_add_right _ _)) h4
    · rw [cx_0 hk1]
      show H1[q.1 + k]? = some (vp_cell _ _)
      rw [e1, vp_cell_i, vp_cell_i, arrV_store]
      congr 2
      funext j
      by_cases hj : j = i.toNatClampNeg
      · subst hj
        simp [updV, up2, sI]
      · simp [updV, up2, sI, hj]
    · intro j hj

      exact ⟨up2_k hj, rfl, rfl⟩

theorem ky_last (hx : p.tables.exec = Jvm.exec) (hb : c.code = cc) (hK : va_K D vwCl (tyl G) s) {k : Nat} {i : Int32} {x : Int64} (hk : isA μ k 1 = true) (hi : vp_in i (kd k).2) (hd : decode cc pc = .ok (.lastore, 1))
    (kk : KW p l e R s m args below meth c nL q D G n0 Q (pc + 1) lv st (sL μ k i.toNatClampNeg x)) : KW p l e R s m args below meth c nL q D G n0 Q pc lv (.long x :: .int i :: .ref k :: st) μ := by
  intro H locs ls h1 h2 h3 h4
  obtain ⟨hk1, hk2⟩ := isA_e hk
  have hat := h2.2.2 k hk2
  rw [cx_1 hk1] at hat
  show W p l e R s m args below meth c H locs (μ.1 - n0) (cz μ.1 - cz n0) Q (F0 m pc ls (.long x :: .int i :: .ref (ra q k) :: st.map (tv q)))
  have h9 := h2.1
  rw [ra_lt (by omega)]
  obtain ⟨n, f, g, z⟩ := μ
  refine W.last hx hb hat ((hK.2 1 _ rfl).1 (kd k).2 (fun j => .long (g k j))) (fun h => by cases h) (by show ¬ (i < 0 ∨ (arrV _ _ _).slots.size ≤ _); rw [arrV_size]; exact hi) rfl rfl hd fun H1 e1 e2 e3 => ?_
  · have e1 := e1
    
    refine kk H1 _ ls h1 (h2.chg k rfl e2 e3 ?_ ?_) (h3.put e2 e3 (Nat.le_add_right _ _)) h4
    · rw [cx_1 hk1]
      show H1[q.1 + k]? = some (vp_cell _ _)
      rw [e1, vp_cell_l, vp_cell_l, arrV_store]
      congr 2
      funext j
      by_cases hj : j = i.toNatClampNeg
      · subst hj
        simp [updV, up2, sL]
      · simp [updV, up2, sL, hj]
    · intro j hj

      exact ⟨rfl, up2_k hj, rfl⟩

theorem ky_zast (hx : p.tables.exec = Jvm.exec) (hb : c.code = cc) (hK : va_K D vwCl (tyl G) s) {k : Nat} {i : Int32} {x : Int32} (hk : isA μ k 2 = true) (hi : vp_in i (kd k).2) (hx01 : x = 0 ∨ x = 1) (hd : decode cc pc = .ok (.bastore, 1))
    (kk : KW p l e R s m args below meth c nL q D G n0 Q (pc + 1) lv st (sI μ k i.toNatClampNeg x)) : KW p l e R s m args below meth c nL q D G n0 Q pc lv (.int x :: .int i :: .ref k :: st) μ := by
  intro H locs ls h1 h2 h3 h4
  obtain ⟨hk1, hk2⟩ := isA_e hk
  have hat := h2.2.2 k hk2
  rw [cx_2 hk1] at hat
  show W p l e R s m args below meth c H locs (μ.1 - n0) (cz μ.1 - cz n0) Q (F0 m pc ls (.int x :: .int i :: .ref (ra q k) :: st.map (tv q)))
  have h9 := h2.1
  rw [ra_lt (by omega)]
  obtain ⟨n, f, g, z⟩ := μ
  refine W.zast hx hb hat ((hK.2 2 _ rfl).1 (kd k).2 (fun j => .int (f k j))) (fun h => by cases h) (by show ¬ (i < 0 ∨ (arrV _ _ _).slots.size ≤ _); rw [arrV_size]; exact hi) rfl rfl hd fun H1 e1 e2 e3 => ?_
  · have hnar : narrow .boolean (.int x) = .int x := by rcases hx01 with h | h <;> rw [h] <;> rfl
    rw [hnar] at e1
    refine kk H1 _ ls h1 (h2.chg k rfl e2 e3 ?_ ?_) (h3.put e2 e3 (Nat.le_add_right _ _)) h4
    · rw [cx_2 hk1]
      show H1[q.1 + k]? = some (vp_cell _ _)
      rw [e1, vp_cell_i, vp_cell_i, arrV_store]
      congr 2
      funext j
      by_cases hj : j = i.toNatClampNeg
      · subst hj
        simp [updV, up2, sI]
      · simp [updV, up2, sI, hj]
    · intro j hj

      exact ⟨up2_k hj, rfl, rfl⟩

theorem ky_aast3 (hx : p.tables.exec = Jvm.exec) (hb : c.code = cc) (hK : va_K D vwCl (tyl G) s) {k x ci : Nat} {r : vw_C} {i : Int32} (hk : isA μ k 3 = true) (hv : isO μ x ci = true) (hc : vwCl[ci]? = some r) (hr : r.1 = Rlit) (hi : vp_in i (kd k).2) (hd : decode cc pc = .ok (.aastore, 1))
    (kk : KW p l e R s m args below meth c nL q D G n0 Q (pc + 1) lv st (sT μ k i.toNatClampNeg (some x))) : KW p l e R s m args below meth c nL q D G n0 Q pc lv (.ref x :: .int i :: .ref k :: st) μ := by
  intro H locs ls h1 h2 h3 h4
  obtain ⟨hk1, hk2⟩ := isA_e hk
  obtain ⟨hx1, hx2⟩ := isO_e hv
  have hat := h2.2.2 k hk2
  have hax := h2.2.2 x hx2
  rw [cx_3 hk1] at hat
  rw [cx_o hx1] at hax
  show W p l e R s m args below meth c H locs (μ.1 - n0) (cz μ.1 - cz n0) Q (F0 m pc ls (.ref (ra q x) :: .int i :: .ref (ra q k) :: st.map (tv q)))
  have h9 := h2.1
  rw [ra_lt (show k < 1000 by omega), ra_lt (show x < 1000 by omega)]
  obtain ⟨n, f, g, z⟩ := μ
  have hlt : i.toNatClampNeg < (kd k).2 := Nat.not_le.mp fun q => hi (Or.inr q)
  have h0 : ¬ i < 0 := fun q => hi (Or.inl q)
  obtain ⟨r', hr', cellV, g1, g2, g3, -⟩ := hax
  have hcls := (hK.1 ci r hc).2
  obtain ⟨kA, comp, k1, k2, k3, -⟩ := (hK.2 3 _ rfl).2
  rw [hr] at hcls
  have hcomp : comp = D.1 ci := Option.some.inj (k3.symm.trans hcls.1)
  subst hcomp
  obtain ⟨kC, hkC, -⟩ := hcls.2
  refine W.aast hx hb hat (fun q h => by cases h) (fun h => by cases h) k1 k2 rfl hkC ⟨h0, by show _ < (arrV _ _ _).slots.size; rw [arrV_size]; exact hlt⟩ g1 (fun q h => by rw [g3] at h; cases h) (by rw [g2]; exact hkC) (by rw [g2]; exact va_assign hcls) rfl rfl hd fun H1 e1 e2 e3 => ?_
  refine kk H1 _ ls h1 (h2.chg k rfl e2 e3 ?_ ?_) (h3.put e2 e3 (Nat.le_add_right _ _)) h4
  · rw [cx_3 hk1]
    show H1[q.1 + k]? = some (vp_cell _ _)
    rw [e1, vp_cell_q, vp_cell_q, arrV_store]
    congr 2
    funext j
    by_cases hj : j = i.toNatClampNeg
    · subst hj
      simp [updV, up2, sT, va_rf, ra_lt (show x < 1000 by omega)]
    · simp [updV, up2, sT, hj]
  · intro j hj

    exact ⟨rfl, rfl, up2_k hj⟩

theorem ky_aast4 (hx : p.tables.exec = Jvm.exec) (hb : c.code = cc) (hK : va_K D vwCl (tyl G) s) {k x ci : Nat} {r : vw_C} {i : Int32} (hk : isA μ k 4 = true) (hv : isO μ x ci = true) (hc : vwCl[ci]? = some r) (hr : r.1 = Rrul) (hi : vp_in i (kd k).2) (hd : decode cc pc = .ok (.aastore, 1))
    (kk : KW p l e R s m args below meth c nL q D G n0 Q (pc + 1) lv st (sT μ k i.toNatClampNeg (some x))) : KW p l e R s m args below meth c nL q D G n0 Q pc lv (.ref x :: .int i :: .ref k :: st) μ := by
  intro H locs ls h1 h2 h3 h4
  obtain ⟨hk1, hk2⟩ := isA_e hk
  obtain ⟨hx1, hx2⟩ := isO_e hv
  have hat := h2.2.2 k hk2
  have hax := h2.2.2 x hx2
  rw [cx_4 hk1] at hat
  rw [cx_o hx1] at hax
  show W p l e R s m args below meth c H locs (μ.1 - n0) (cz μ.1 - cz n0) Q (F0 m pc ls (.ref (ra q x) :: .int i :: .ref (ra q k) :: st.map (tv q)))
  have h9 := h2.1
  rw [ra_lt (show k < 1000 by omega), ra_lt (show x < 1000 by omega)]
  obtain ⟨n, f, g, z⟩ := μ
  have hlt : i.toNatClampNeg < (kd k).2 := Nat.not_le.mp fun q => hi (Or.inr q)
  have h0 : ¬ i < 0 := fun q => hi (Or.inl q)
  obtain ⟨r', hr', cellV, g1, g2, g3, -⟩ := hax
  have hcls := (hK.1 ci r hc).2
  obtain ⟨kA, comp, k1, k2, k3, -⟩ := (hK.2 4 _ rfl).2
  rw [hr] at hcls
  have hcomp : comp = D.1 ci := Option.some.inj (k3.symm.trans hcls.1)
  subst hcomp
  obtain ⟨kC, hkC, -⟩ := hcls.2
  refine W.aast hx hb hat (fun q h => by cases h) (fun h => by cases h) k1 k2 rfl hkC ⟨h0, by show _ < (arrV _ _ _).slots.size; rw [arrV_size]; exact hlt⟩ g1 (fun q h => by rw [g3] at h; cases h) (by rw [g2]; exact hkC) (by rw [g2]; exact va_assign hcls) rfl rfl hd fun H1 e1 e2 e3 => ?_
  refine kk H1 _ ls h1 (h2.chg k rfl e2 e3 ?_ ?_) (h3.put e2 e3 (Nat.le_add_right _ _)) h4
  · rw [cx_4 hk1]
    show H1[q.1 + k]? = some (vp_cell _ _)
    rw [e1, vp_cell_q, vp_cell_q, arrV_store]
    congr 2
    funext j
    by_cases hj : j = i.toNatClampNeg
    · subst hj
      simp [updV, up2, sT, va_rf, ra_lt (show x < 1000 by omega)]
    · simp [updV, up2, sT, hj]
  · intro j hj

    exact ⟨rfl, rfl, up2_k hj⟩

theorem ky_new (hx : p.tables.exec = Jvm.exec) (hb : c.code = cc) {own : String} (ho : s.vm.findClass own = some m.cls) (hts : ∀ w ∈ WS, w.before args s = true) (hK : va_K D vwCl (tyl G) s) {ci ix N nE : Nat} {C : String} {T : u_T} (hc : vwCl[ci]? = some (C, T, N)) (hN : (fk ci).length = N) (hcl : Cond.classLink own ix C ∈ WS) (hin : Cond.instantiable C N ∈ WS) (hini : Cond.initialized C ∈ WS) (hRc : nE - n0 ≤ R.cells) (hRs : cz nE - cz n0 ≤ R.slots) (hE : nE ≤ 900) (hn : μ.1 < nE) (hk : (kd μ.1).1 = ci + 5) (hd : decode cc pc = .ok (.new ix, 3))
    (kk : KW p l e R s m args below meth c nL q D G n0 Q (pc + 3) lv (.ref μ.1 :: st) (nwO μ)) : KW p l e R s m args below meth c nL q D G n0 Q pc lv st μ := by
  intro H locs ls h1 h2 h3 h4
  obtain ⟨ty0, hty, hnm, hdv⟩ := cf_ty ci _ hc
  have hKn := hK.1 ci _ hc
  have h9 := h2.1
  have hcz : cz (μ.1 + 1) ≤ cz nE := cz_mono hn
  have hcz1 : cz (μ.1 + 1) = cz μ.1 + N := by
    show cz μ.1 + sz (kd μ.1) = _
    rw [← hN]
    generalize kd μ.1 = t at hk
    obtain ⟨t1, t2⟩ := t
    have hk : t1 = ci + 5 := hk
    subst hk
    rfl
  have hcz0 := cz_mono h4
  refine W.newcK hx hb ho (hts _ hcl) (hts _ hin) (hts _ hini) rfl hd (by omega) (by omega) hKn.2.1 h2.2.1 fun H1 kC hkC e1 z1 o1 => ?_
  have hW : Wd q D G (nwO μ) H1 := h2.add (by omega) (by rw [z1, h2.2.1]) (fun a ha => o1 a (by rw [← h2.2.1]; exact ha)) (by
    rw [cx_o hk]
    exact ⟨_, hc, (u_born ty0 hts (cf_ws ci _ hc) hKn hkC e1 hty).to (hdv q)⟩)
  have h8 := kk H1 locs ls h1 hW ⟨by rw [z1]; have := h3.1; rw [h2.2.1] at this; omega, fun a g1 g2 => (o1 a (by have := h3.1; rw [h2.2.1] at this; omega)).trans (h3.2.1 a g1 g2), h3.2.2⟩ (by
    obtain ⟨n, f, g, z⟩ := μ
    exact Nat.le_succ_of_le h4)
  have e8 : (nwO μ).1 - n0 = μ.1 - n0 + 1 := by
    obtain ⟨n, f, g, z⟩ := μ
    show n + 1 - n0 = n - n0 + 1
    have : n0 ≤ n := h4
    omega
  have e9 : cz (nwO μ).1 - cz n0 = cz μ.1 - cz n0 + N := by
    have : (nwO μ).1 = μ.1 + 1 := by
      obtain ⟨n, f, g, z⟩ := μ
      rfl
    rw [this]
    omega
  rw [e8, e9] at h8
  have e10 : (Value.ref (q.1 + μ.1)) = tv q (.ref μ.1) := by
    show _ = Value.ref (ra q μ.1)
    rw [ra_lt (by omega)]
  rw [e10]
  exact h8

theorem ky_newa0 (hx : p.tables.exec = Jvm.exec) (hb : c.code = cc) (hts : ∀ w ∈ WS, w.before args s = true) (hK : va_K D vwCl (tyl G) s) {nE : Nat} {x : Int32} (hw : Cond.arrayClass .int ∈ WS) (hRc : nE - n0 ≤ R.cells) (hRs : cz nE - cz n0 ≤ R.slots) (hE : nE ≤ 900) (hn : μ.1 < nE) (hk : kd μ.1 = (0, x.toNatClampNeg)) (hx0 : ¬ x < 0) (hx1 : x.toNatClampNeg ≤ 1000) (hd : decode cc pc = .ok (.newarray .int, 2))
    (kk : KW p l e R s m args below meth c nL q D G n0 Q (pc + 2) lv (.ref μ.1 :: st) (nwO μ)) : KW p l e R s m args below meth c nL q D G n0 Q pc lv (.int x :: st) μ := by
  intro H locs ls h1 h2 h3 h4
  have h9 := h2.1
  have hcz : cz (μ.1 + 1) ≤ cz nE := cz_mono hn
  have hcz1 : cz (μ.1 + 1) = cz μ.1 + x.toNatClampNeg := by
    show cz μ.1 + sz (kd μ.1) = _
    rw [hk]
    rfl
  have hcz0 := cz_mono h4
  have hS1 := h3.1
  rw [h2.2.1] at hS1
  refine va_newaK (atype := .int) hx hb (hts _ hw) rfl hd rfl hx0 rfl (by show _ * componentBytes .int ≤ _; simp only [componentBytes]; omega) (by omega) (by omega) h2.2.1 fun H1 cA e1 z1 o1 hAr hNm => ?_
  have hcA : cA = G 0 := Option.some.inj (hNm.symm.trans (hK.2 0 _ rfl).2)
  subst hcA
  have hW : Wd q D G (nwO μ) H1 := h2.add (by omega) (by rw [z1, h2.2.1]) (fun a ha => o1 a (by rw [← h2.2.1]; exact ha)) (by
    rw [hk]
    exact e1)
  have h8 := kk H1 locs ls h1 hW ⟨by rw [z1]; omega, fun a g1 g2 => (o1 a (by omega)).trans (h3.2.1 a g1 g2), h3.2.2⟩ (by
    obtain ⟨n, f, g, z⟩ := μ
    exact Nat.le_succ_of_le h4)
  have e8 : (nwO μ).1 - n0 = μ.1 - n0 + 1 := by
    obtain ⟨n, f, g, z⟩ := μ
    show n + 1 - n0 = n - n0 + 1
    have : n0 ≤ n := h4
    omega
  have e9 : cz (nwO μ).1 - cz n0 = cz μ.1 - cz n0 + x.toNatClampNeg := by
    have : (nwO μ).1 = μ.1 + 1 := by
      obtain ⟨n, f, g, z⟩ := μ
      rfl
    rw [this]
    omega
  rw [e8, e9] at h8
  have e10 : (Value.ref (q.1 + μ.1)) = tv q (.ref μ.1) := by
    show _ = Value.ref (ra q μ.1)
    rw [ra_lt (by omega)]
  rw [e10]
  exact h8

theorem ky_newa1 (hx : p.tables.exec = Jvm.exec) (hb : c.code = cc) (hts : ∀ w ∈ WS, w.before args s = true) (hK : va_K D vwCl (tyl G) s) {nE : Nat} {x : Int32} (hw : Cond.arrayClass .long ∈ WS) (hRc : nE - n0 ≤ R.cells) (hRs : cz nE - cz n0 ≤ R.slots) (hE : nE ≤ 900) (hn : μ.1 < nE) (hk : kd μ.1 = (1, x.toNatClampNeg)) (hx0 : ¬ x < 0) (hx1 : x.toNatClampNeg ≤ 1000) (hd : decode cc pc = .ok (.newarray .long, 2))
    (kk : KW p l e R s m args below meth c nL q D G n0 Q (pc + 2) lv (.ref μ.1 :: st) (nwO μ)) : KW p l e R s m args below meth c nL q D G n0 Q pc lv (.int x :: st) μ := by
  intro H locs ls h1 h2 h3 h4
  have h9 := h2.1
  have hcz : cz (μ.1 + 1) ≤ cz nE := cz_mono hn
  have hcz1 : cz (μ.1 + 1) = cz μ.1 + x.toNatClampNeg := by
    show cz μ.1 + sz (kd μ.1) = _
    rw [hk]
    rfl
  have hcz0 := cz_mono h4
  have hS1 := h3.1
  rw [h2.2.1] at hS1
  refine va_newaK (atype := .long) hx hb (hts _ hw) rfl hd rfl hx0 rfl (by show _ * componentBytes .long ≤ _; simp only [componentBytes]; omega) (by omega) (by omega) h2.2.1 fun H1 cA e1 z1 o1 hAr hNm => ?_
  have hcA : cA = G 1 := Option.some.inj (hNm.symm.trans (hK.2 1 _ rfl).2)
  subst hcA
  have hW : Wd q D G (nwO μ) H1 := h2.add (by omega) (by rw [z1, h2.2.1]) (fun a ha => o1 a (by rw [← h2.2.1]; exact ha)) (by
    rw [hk]
    exact e1)
  have h8 := kk H1 locs ls h1 hW ⟨by rw [z1]; omega, fun a g1 g2 => (o1 a (by omega)).trans (h3.2.1 a g1 g2), h3.2.2⟩ (by
    obtain ⟨n, f, g, z⟩ := μ
    exact Nat.le_succ_of_le h4)
  have e8 : (nwO μ).1 - n0 = μ.1 - n0 + 1 := by
    obtain ⟨n, f, g, z⟩ := μ
    show n + 1 - n0 = n - n0 + 1
    have : n0 ≤ n := h4
    omega
  have e9 : cz (nwO μ).1 - cz n0 = cz μ.1 - cz n0 + x.toNatClampNeg := by
    have : (nwO μ).1 = μ.1 + 1 := by
      obtain ⟨n, f, g, z⟩ := μ
      rfl
    rw [this]
    omega
  rw [e8, e9] at h8
  have e10 : (Value.ref (q.1 + μ.1)) = tv q (.ref μ.1) := by
    show _ = Value.ref (ra q μ.1)
    rw [ra_lt (by omega)]
  rw [e10]
  exact h8

theorem ky_newa2 (hx : p.tables.exec = Jvm.exec) (hb : c.code = cc) (hts : ∀ w ∈ WS, w.before args s = true) (hK : va_K D vwCl (tyl G) s) {nE : Nat} {x : Int32} (hw : Cond.arrayClass .boolean ∈ WS) (hRc : nE - n0 ≤ R.cells) (hRs : cz nE - cz n0 ≤ R.slots) (hE : nE ≤ 900) (hn : μ.1 < nE) (hk : kd μ.1 = (2, x.toNatClampNeg)) (hx0 : ¬ x < 0) (hx1 : x.toNatClampNeg ≤ 1000) (hd : decode cc pc = .ok (.newarray .boolean, 2))
    (kk : KW p l e R s m args below meth c nL q D G n0 Q (pc + 2) lv (.ref μ.1 :: st) (nwO μ)) : KW p l e R s m args below meth c nL q D G n0 Q pc lv (.int x :: st) μ := by
  intro H locs ls h1 h2 h3 h4
  have h9 := h2.1
  have hcz : cz (μ.1 + 1) ≤ cz nE := cz_mono hn
  have hcz1 : cz (μ.1 + 1) = cz μ.1 + x.toNatClampNeg := by
    show cz μ.1 + sz (kd μ.1) = _
    rw [hk]
    rfl
  have hcz0 := cz_mono h4
  have hS1 := h3.1
  rw [h2.2.1] at hS1
  refine va_newaK (atype := .boolean) hx hb (hts _ hw) rfl hd rfl hx0 rfl (by show _ * componentBytes .boolean ≤ _; simp only [componentBytes]; omega) (by omega) (by omega) h2.2.1 fun H1 cA e1 z1 o1 hAr hNm => ?_
  have hcA : cA = G 2 := Option.some.inj (hNm.symm.trans (hK.2 2 _ rfl).2)
  subst hcA
  have hW : Wd q D G (nwO μ) H1 := h2.add (by omega) (by rw [z1, h2.2.1]) (fun a ha => o1 a (by rw [← h2.2.1]; exact ha)) (by
    rw [hk]
    exact e1)
  have h8 := kk H1 locs ls h1 hW ⟨by rw [z1]; omega, fun a g1 g2 => (o1 a (by omega)).trans (h3.2.1 a g1 g2), h3.2.2⟩ (by
    obtain ⟨n, f, g, z⟩ := μ
    exact Nat.le_succ_of_le h4)
  have e8 : (nwO μ).1 - n0 = μ.1 - n0 + 1 := by
    obtain ⟨n, f, g, z⟩ := μ
    show n + 1 - n0 = n - n0 + 1
    have : n0 ≤ n := h4
    omega
  have e9 : cz (nwO μ).1 - cz n0 = cz μ.1 - cz n0 + x.toNatClampNeg := by
    have : (nwO μ).1 = μ.1 + 1 := by
      obtain ⟨n, f, g, z⟩ := μ
      rfl
    rw [this]
    omega
  rw [e8, e9] at h8
  have e10 : (Value.ref (q.1 + μ.1)) = tv q (.ref μ.1) := by
    show _ = Value.ref (ra q μ.1)
    rw [ra_lt (by omega)]
  rw [e10]
  exact h8

theorem ky_newq3 (hx : p.tables.exec = Jvm.exec) (hb : c.code = cc) {own : String} (ho : s.vm.findClass own = some m.cls) (hts : ∀ w ∈ WS, w.before args s = true) (hK : va_K D vwCl (tyl G) s) {ix nE : Nat} {x : Int32} (hcl : Cond.classLink own ix Rlit ∈ WS) (hover : va_AO Rlit s) (hRc : nE - n0 ≤ R.cells) (hRs : cz nE - cz n0 ≤ R.slots) (hE : nE ≤ 900) (hn : μ.1 < nE) (hk : kd μ.1 = (3, x.toNatClampNeg)) (hx0 : ¬ x < 0) (hx1 : x.toNatClampNeg ≤ 1000) (hd : decode cc pc = .ok (.anewarray ix, 3))
    (kk : KW p l e R s m args below meth c nL q D G n0 Q (pc + 3) lv (.ref μ.1 :: st) (nwO μ)) : KW p l e R s m args below meth c nL q D G n0 Q pc lv (.int x :: st) μ := by
  intro H locs ls h1 h2 h3 h4
  have h9 := h2.1
  have hcz : cz (μ.1 + 1) ≤ cz nE := cz_mono hn
  have hcz1 : cz (μ.1 + 1) = cz μ.1 + x.toNatClampNeg := by
    show cz μ.1 + sz (kd μ.1) = _
    rw [hk]
    rfl
  have hcz0 := cz_mono h4
  have hS1 := h3.1
  rw [h2.2.1] at hS1
  refine W.anew hx hb ho (hts _ hcl) (va_AO.use hover) rfl hd rfl hx0 (by omega) (by omega) (by omega) fun cA kA comp f1 f2 f3 f4 => ?_
  generalize hH1 : H.push ({ cls := cA, slots := Array.replicate x.toNatClampNeg .null, vm := .none } : Cell) = H1
  have z1 : H1.size = H.size + 1 := by rw [← hH1, Array.size_push]
  have e1 : H1[H.size]? = some (arrV cA x.toNatClampNeg (fun _ => .null)) := by rw [← hH1, Array.getElem?_push_size, ← arrV_new]
  have o1 : ∀ a : Nat, a < H.size → H1[a]? = H[a]? := fun a ha => by rw [← hH1, Array.getElem?_push, if_neg (Nat.ne_of_lt ha)]
  obtain ⟨kA', comp', -, -, -, k4⟩ := (hK.2 3 _ rfl).2
  have hcA : cA = G 3 := Option.some.inj (f1.symm.trans k4)
  subst hcA
  rw [h2.2.1] at e1
  have hW : Wd q D G (nwO μ) H1 := h2.add (by omega) z1 o1 (by
    rw [hk]
    exact e1)
  have h8 := kk H1 locs ls h1 hW ⟨by rw [z1, h2.2.1]; omega, fun a g1 g2 => (o1 a (by rw [h2.2.1]; omega)).trans (h3.2.1 a g1 g2), h3.2.2⟩ (by
    obtain ⟨n, f, g, z⟩ := μ
    exact Nat.le_succ_of_le h4)
  have e8 : (nwO μ).1 - n0 = μ.1 - n0 + 1 := by
    obtain ⟨n, f, g, z⟩ := μ
    show n + 1 - n0 = n - n0 + 1
    have : n0 ≤ n := h4
    omega
  have e9 : cz (nwO μ).1 - cz n0 = cz μ.1 - cz n0 + x.toNatClampNeg := by
    have : (nwO μ).1 = μ.1 + 1 := by
      obtain ⟨n, f, g, z⟩ := μ
      rfl
    rw [this]
    omega
  rw [e8, e9] at h8
  have e10 : (Value.ref H.size) = tv q (.ref μ.1) := by
    show _ = Value.ref (ra q μ.1)
    rw [ra_lt (by omega), h2.2.1]
  rw [e10]
  exact h8

theorem ky_newq4 (hx : p.tables.exec = Jvm.exec) (hb : c.code = cc) {own : String} (ho : s.vm.findClass own = some m.cls) (hts : ∀ w ∈ WS, w.before args s = true) (hK : va_K D vwCl (tyl G) s) {ix nE : Nat} {x : Int32} (hcl : Cond.classLink own ix Rrul ∈ WS) (hover : va_AO Rrul s) (hRc : nE - n0 ≤ R.cells) (hRs : cz nE - cz n0 ≤ R.slots) (hE : nE ≤ 900) (hn : μ.1 < nE) (hk : kd μ.1 = (4, x.toNatClampNeg)) (hx0 : ¬ x < 0) (hx1 : x.toNatClampNeg ≤ 1000) (hd : decode cc pc = .ok (.anewarray ix, 3))
    (kk : KW p l e R s m args below meth c nL q D G n0 Q (pc + 3) lv (.ref μ.1 :: st) (nwO μ)) : KW p l e R s m args below meth c nL q D G n0 Q pc lv (.int x :: st) μ := by
  intro H locs ls h1 h2 h3 h4
  have h9 := h2.1
  have hcz : cz (μ.1 + 1) ≤ cz nE := cz_mono hn
  have hcz1 : cz (μ.1 + 1) = cz μ.1 + x.toNatClampNeg := by
    show cz μ.1 + sz (kd μ.1) = _
    rw [hk]
    rfl
  have hcz0 := cz_mono h4
  have hS1 := h3.1
  rw [h2.2.1] at hS1
  refine W.anew hx hb ho (hts _ hcl) (va_AO.use hover) rfl hd rfl hx0 (by omega) (by omega) (by omega) fun cA kA comp f1 f2 f3 f4 => ?_
  generalize hH1 : H.push ({ cls := cA, slots := Array.replicate x.toNatClampNeg .null, vm := .none } : Cell) = H1
  have z1 : H1.size = H.size + 1 := by rw [← hH1, Array.size_push]
  have e1 : H1[H.size]? = some (arrV cA x.toNatClampNeg (fun _ => .null)) := by rw [← hH1, Array.getElem?_push_size, ← arrV_new]
  have o1 : ∀ a : Nat, a < H.size → H1[a]? = H[a]? := fun a ha => by rw [← hH1, Array.getElem?_push, if_neg (Nat.ne_of_lt ha)]
  obtain ⟨kA', comp', -, -, -, k4⟩ := (hK.2 4 _ rfl).2
  have hcA : cA = G 4 := Option.some.inj (f1.symm.trans k4)
  subst hcA
  rw [h2.2.1] at e1
  have hW : Wd q D G (nwO μ) H1 := h2.add (by omega) z1 o1 (by
    rw [hk]
    exact e1)
  have h8 := kk H1 locs ls h1 hW ⟨by rw [z1, h2.2.1]; omega, fun a g1 g2 => (o1 a (by rw [h2.2.1]; omega)).trans (h3.2.1 a g1 g2), h3.2.2⟩ (by
    obtain ⟨n, f, g, z⟩ := μ
    exact Nat.le_succ_of_le h4)
  have e8 : (nwO μ).1 - n0 = μ.1 - n0 + 1 := by
    obtain ⟨n, f, g, z⟩ := μ
    show n + 1 - n0 = n - n0 + 1
    have : n0 ≤ n := h4
    omega
  have e9 : cz (nwO μ).1 - cz n0 = cz μ.1 - cz n0 + x.toNatClampNeg := by
    have : (nwO μ).1 = μ.1 + 1 := by
      obtain ⟨n, f, g, z⟩ := μ
      rfl
    rw [this]
    omega
  rw [e8, e9] at h8
  have e10 : (Value.ref H.size) = tv q (.ref μ.1) := by
    show _ = Value.ref (ra q μ.1)
    rw [ra_lt (by omega), h2.2.1]
  rw [e10]
  exact h8

theorem ky_gets (hx : p.tables.exec = Jvm.exec) (hb : c.code = cc) {own : String} (ho : s.vm.findClass own = some m.cls) (hts : ∀ w ∈ WS, w.before args s = true) (hL : SL q s s.heap) {ix : Nat} (hown : own = Rrb) (hix : ix = nlf) (hnf : va_Nw (.fieldLinkNest Rrb nlf Rpf "LIBRARY" "[I" Rpf) s) (hd : decode cc pc = .ok (.getstatic ix, 3))
    (kk : KW p l e R s m args below meth c nL q D G n0 Q (pc + 3) lv (.ref 1000 :: st) μ) : KW p l e R s m args below meth c nL q D G n0 Q pc lv st μ := by
  subst hown
  subst hix
  exact fun H locs ls h1 h2 h3 h4 => va_getsN hx hb hL.1 h3 ho (va_Nw.use rfl hnf) (fun _ h9 => h9) hd (kk H locs ls h1 h2 h3 h4)
theorem ky_lib (hx : p.tables.exec = Jvm.exec) (hb : c.code = cc) (hL : SL q s s.heap) {i : Int32} (hi : vp_in i 72) (hd : decode cc pc = .ok (.iaload, 1))
    (kk : KW p l e R s m args below meth c nL q D G n0 Q (pc + 1) lv (.int (lib i.toNatClampNeg) :: st) μ) : KW p l e R s m args below meth c nL q D G n0 Q pc lv (.int i :: .ref 1000 :: st) μ := fun H locs ls h1 h2 h3 h4 => va_ti hx hb hL.2 h3 hi rfl hd (kk H locs ls h1 h2 h3 h4)
theorem ky_scr (hx : p.tables.exec = Jvm.exec) (hb : c.code = cc) {Xs : Nat × (Nat → Int32)} (hX : va_X q.2.2 Xs.1 Xs.2 s s.heap) (hbl : q.2.2 < s.heap.size) (hbA : ¬ q.1 ≤ q.2.2) {i : Int32} (hi : vp_in i Xs.1) (hd : decode cc pc = .ok (.iaload, 1))
    (kk : KW p l e R s m args below meth c nL q D G n0 Q (pc + 1) lv (.int (Xs.2 i.toNatClampNeg) :: st) μ) : KW p l e R s m args below meth c nL q D G n0 Q pc lv (.int i :: .ref 1001 :: st) μ := fun H locs ls h1 h2 h3 h4 => va_sld hx hb hX hbl hbA h3 hi hd (kk H locs ls h1 h2 h3 h4)
theorem ky_scrl (hx : p.tables.exec = Jvm.exec) (hb : c.code = cc) {Xs : Nat × (Nat → Int32)} (hX : va_X q.2.2 Xs.1 Xs.2 s s.heap) (hbl : q.2.2 < s.heap.size) (hbA : ¬ q.1 ≤ q.2.2) (hd : decode cc pc = .ok (.arraylength, 1))
    (kk : KW p l e R s m args below meth c nL q D G n0 Q (pc + 1) lv (.int (Int32.ofNat Xs.1) :: st) μ) : KW p l e R s m args below meth c nL q D G n0 Q pc lv (.ref 1001 :: st) μ := fun H locs ls h1 h2 h3 h4 => va_slen hx hb hX hbl hbA h3 hd (kk H locs ls h1 h2 h3 h4)
theorem ky_tabIn (hx : p.tables.exec = Jvm.exec) (hb : c.code = cc) {dflt lo hi : Int} {offs : Array Int} {len : Nat} {x : Int32} {off : Int} {tgt : Nat} (hd : decode cc pc = .ok (.tableswitch dflt lo hi offs, len)) (g1 : ¬ x.toInt < lo) (g2 : ¬ hi < x.toInt) (g3 : offs[(x.toInt - lo).toNat]? = some off) (ht : (pc : Int) + off = (tgt : Int))
    (kk : KW p l e R s m args below meth c nL q D G n0 Q tgt lv st μ) : KW p l e R s m args below meth c nL q D G n0 Q pc lv (.int x :: st) μ := fun H locs ls h1 h2 h3 h4 => lv_tableIn hx hb hd g1 g2 g3 ht (kk H locs ls h1 h2 h3 h4)
theorem ky_tabOut (hx : p.tables.exec = Jvm.exec) (hb : c.code = cc) {dflt lo hi : Int} {offs : Array Int} {len : Nat} {x : Int32} {tgt : Nat} (hd : decode cc pc = .ok (.tableswitch dflt lo hi offs, len)) (g1 : x.toInt < lo ∨ hi < x.toInt) (ht : (pc : Int) + dflt = (tgt : Int))
    (kk : KW p l e R s m args below meth c nL q D G n0 Q tgt lv st μ) : KW p l e R s m args below meth c nL q D G n0 Q pc lv (.int x :: st) μ := fun H locs ls h1 h2 h3 h4 => lv_tableOut hx hb hd g1 ht (kk H locs ls h1 h2 h3 h4)
end KY
