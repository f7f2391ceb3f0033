/-! one instruction, as a question about what comes behind it -/
abbrev Ky : Type := Nat → List (Option Value) → List Value → Mm → Prop
abbrev En : Type := Jvm.ClassFile.Instr × Nat × Int32 × Int64 × Nat × Nat × Nat × List Nat
abbrev Cf : Type := Nat → List Value → Mm → (List Value → Mm → Prop) → Prop
def isO (μ : Mm) (k ci : Nat) : Bool := Nat.beq (kd k).1 (ci + 5) && Nat.blt k μ.1
def isA (μ : Mm) (k t : Nat) : Bool := Nat.beq (kd k).1 t && Nat.blt k μ.1
def swT (P : Ky) (lv : List (Option Value)) (r : List Value) (μ : Mm) (x : Int32) (d : Nat) : List Nat → Nat → Prop
  | [], _ => P d lv r μ
  | t :: ts, j => (x = nI j → P t lv r μ) ∧ (¬ x = nI j → swT P lv r μ x d ts (j + 1))
def gs (nE : Nat) (Xs : Nat × (Nat → Int32)) (rb : Nat) (C : Cf) (Rt : Option Value → Mm → Prop) (P : Ky) (e : En) (lv : List (Option Value)) (st : List Value) (μ : Mm) : Prop := match e with
  | (i, nx, a, w, q1, q2, q3, ts) => match i with
    | .iconst _ => P nx lv (.int a :: st) μ
    | .bipush _ => P nx lv (.int a :: st) μ
    | .sipush _ => P nx lv (.int a :: st) μ
    | .ldc _ => P nx lv (.int a :: st) μ
    | .lconst _ => P nx lv (.long w :: st) μ
    | .ldc2_w _ => P nx lv (.long w :: st) μ
    | .iload _ => ldi lv q1 fun x => P nx lv (.int x :: st) μ
    | .iload_n _ => ldi lv q1 fun x => P nx lv (.int x :: st) μ
    | .lload _ => ldl lv q1 fun x => P nx lv (.long x :: st) μ
    | .lload_n _ => ldl lv q1 fun x => P nx lv (.long x :: st) μ
    | .aload _ => ldr lv q1 fun x => P nx lv (.ref x :: st) μ
    | .aload_n _ => ldr lv q1 fun x => P nx lv (.ref x :: st) μ
    | .istore _ => p1i st fun x r => sto lv q1 (P nx (ls2 lv q1 (some (.int x))) r μ)
    | .istore_n _ => p1i st fun x r => sto lv q1 (P nx (ls2 lv q1 (some (.int x))) r μ)
    | .lstore _ => p1l st fun x r => sto lv q1 (Nat.blt (q1 + 1) lv.length = true ∧ P nx (ls2 (ls2 lv q1 (some (.long x))) (q1 + 1) none) r μ)
    | .lstore_n _ => p1l st fun x r => sto lv q1 (Nat.blt (q1 + 1) lv.length = true ∧ P nx (ls2 (ls2 lv q1 (some (.long x))) (q1 + 1) none) r μ)
    | .astore _ => p1r st fun x r => sto lv q1 (P nx (ls2 lv q1 (some (.ref x))) r μ)
    | .astore_n _ => p1r st fun x r => sto lv q1 (P nx (ls2 lv q1 (some (.ref x))) r μ)
    | .iinc _ _ => ldi lv q1 fun x => sto lv q1 (P nx (ls2 lv q1 (some (.int (x + a)))) st μ)
    | .iadd => p2i st fun y x r => P nx lv (.int (x + y) :: r) μ
    | .isub => p2i st fun y x r => P nx lv (.int (x - y) :: r) μ
    | .imul => p2i st fun y x r => P nx lv (.int (x * y) :: r) μ
    | .iand => p2i st fun y x r => P nx lv (.int (x &&& y) :: r) μ
    | .ior => p2i st fun y x r => P nx lv (.int (x ||| y) :: r) μ
    | .ixor => p2i st fun y x r => P nx lv (.int (x ^^^ y) :: r) μ
    | .idiv => p2i st fun y x r => (¬ y = 0) ∧ P nx lv (.int (x / y) :: r) μ
    | .irem => p2i st fun y x r => (¬ y = 0) ∧ P nx lv (.int (x - x / y * y) :: r) μ
    | .ishl => p2i st fun y x r => P nx lv (.int (x <<< (y &&& 31)) :: r) μ
    | .ishr => p2i st fun y x r => P nx lv (.int (x >>> (y &&& 31)) :: r) μ
    | .ladd => p2l st fun y x r => P nx lv (.long (x + y) :: r) μ
    | .lsub => p2l st fun y x r => P nx lv (.long (x - y) :: r) μ
    | .land => p2l st fun y x r => P nx lv (.long (x &&& y) :: r) μ
    | .lor => p2l st fun y x r => P nx lv (.long (x ||| y) :: r) μ
    | .lxor => p2l st fun y x r => P nx lv (.long (x ^^^ y) :: r) μ
    | .lshl => pil st fun y x r => P nx lv (.long (x <<< (y.toInt64 &&& 63)) :: r) μ
    | .lshr => pil st fun y x r => P nx lv (.long (x >>> (y.toInt64 &&& 63)) :: r) μ
    | .lushr => pil st fun y x r => P nx lv (.long (x.toUInt64 >>> (y.toInt64.toUInt64 &&& Int64.toUInt64 63)).toInt64 :: r) μ
    | .i2l => p1i st fun x r => P nx lv (.long x.toInt64 :: r) μ
    | .l2i => p1l st fun x r => P nx lv (.int x.toInt32 :: r) μ
    | .lcmp => p2l st fun y x r => P nx lv (.int (lg_cmp x y) :: r) μ
    | .dup => p1v st fun v r => P nx lv (v :: v :: r) μ
    | .pop => p1v st fun _ r => P nx lv r μ
    | .dup2 => p2v st fun v w r => P nx lv (v :: w :: v :: w :: r) μ
    | .dup_x1 => p2v st fun v w r => P nx lv (v :: w :: v :: r) μ
    | .goto _ => P q1 lv st μ
    | .ifCond c _ => p1i st fun x r => match c with
      | .eq => (x = 0 → P q1 lv r μ) ∧ (¬ x = 0 → P nx lv r μ)
      | .ne => (¬ x = 0 → P q1 lv r μ) ∧ (x = 0 → P nx lv r μ)
      | .lt => (x < 0 → P q1 lv r μ) ∧ (¬ x < 0 → P nx lv r μ)
      | .ge => (0 ≤ x → P q1 lv r μ) ∧ (¬ 0 ≤ x → P nx lv r μ)
      | .gt => (0 < x → P q1 lv r μ) ∧ (¬ 0 < x → P nx lv r μ)
      | .le => (x ≤ 0 → P q1 lv r μ) ∧ (¬ x ≤ 0 → P nx lv r μ)
    | .if_icmp c _ => p2i st fun y x r => match c with
      | .eq => (x = y → P q1 lv r μ) ∧ (¬ x = y → P nx lv r μ)
      | .ne => (¬ x = y → P q1 lv r μ) ∧ (x = y → P nx lv r μ)
      | .lt => (x < y → P q1 lv r μ) ∧ (¬ x < y → P nx lv r μ)
      | .ge => (y ≤ x → P q1 lv r μ) ∧ (¬ y ≤ x → P nx lv r μ)
      | .gt => (y < x → P q1 lv r μ) ∧ (¬ y < x → P nx lv r μ)
      | .le => (x ≤ y → P q1 lv r μ) ∧ (¬ x ≤ y → P nx lv r μ)
    | .tableswitch _ _ _ _ => p1i st fun x r => swT P lv r μ x q1 ts 0
    | .getfield _ => p1r st fun k r => isO μ k q1 = true ∧ (match q3 with
      | 1 => P nx lv (.long (μ.2.2.1 k q2) :: r) μ
      | 2 => ∃ k', μ.2.2.2 k q2 = some k' ∧ P nx lv (.ref k' :: r) μ
      | _ => P nx lv (.int (μ.2.1 k q2) :: r) μ)
    | .putfield _ => match q3 with
      | 1 => plr st fun x k r => isO μ k q1 = true ∧ P nx lv r (sL μ k q2 x)
      | 2 => prr st fun x k r => isO μ k q1 = true ∧ P nx lv r (sT μ k q2 (some x))
      | 3 => pir st fun x k r => isO μ k q1 = true ∧ (x = 0 ∨ x = 1) ∧ P nx lv r (sI μ k q2 x)
      | _ => pir st fun x k r => isO μ k q1 = true ∧ P nx lv r (sI μ k q2 x)
    | .getstatic _ => P nx lv (.ref 1000 :: st) μ
    | .iaload => pir st fun i k r => match Nat.beq k 1000 with
      | true => vp_in i 72 ∧ P nx lv (.int (lib i.toNatClampNeg) :: r) μ
      | false => match Nat.beq k 1001 with
        | true => rb = 4 ∧ vp_in i Xs.1 ∧ P nx lv (.int (Xs.2 i.toNatClampNeg) :: r) μ
        | false => isA μ k 0 = true ∧ vp_in i (kd k).2 ∧ P nx lv (.int (μ.2.1 k i.toNatClampNeg) :: r) μ
    | .laload => pir st fun i k r => isA μ k 1 = true ∧ vp_in i (kd k).2 ∧ P nx lv (.long (μ.2.2.1 k i.toNatClampNeg) :: r) μ
    | .baload => pir st fun i k r => isA μ k 2 = true ∧ vp_in i (kd k).2 ∧ P nx lv (.int (μ.2.1 k i.toNatClampNeg) :: r) μ
    | .aaload => pir st fun i k r => (isA μ k 3 || isA μ k 4) = true ∧ vp_in i (kd k).2 ∧ ∃ k', μ.2.2.2 k i.toNatClampNeg = some k' ∧ P nx lv (.ref k' :: r) μ
    | .iastore => piir st fun x i k r => isA μ k 0 = true ∧ vp_in i (kd k).2 ∧ P nx lv r (sI μ k i.toNatClampNeg x)
    | .lastore => plir st fun x i k r => isA μ k 1 = true ∧ vp_in i (kd k).2 ∧ P nx lv r (sL μ k i.toNatClampNeg x)
    | .bastore => piir st fun x i k r => isA μ k 2 = true ∧ vp_in i (kd k).2 ∧ (x = 0 ∨ x = 1) ∧ P nx lv r (sI μ k i.toNatClampNeg x)
    | .aastore => prir st fun x i k r => isA μ k q1 = true ∧ isO μ x q2 = true ∧ vp_in i (kd k).2 ∧ P nx lv r (sT μ k i.toNatClampNeg (some x))
    | .arraylength => p1r st fun k r => match Nat.beq k 1001 with
      | true => rb = 4 ∧ P nx lv (.int (Int32.ofNat Xs.1) :: r) μ
      | false => isA μ k 0 = true ∧ P nx lv (.int (Int32.ofNat (kd k).2) :: r) μ
    | .new _ => μ.1 < nE ∧ Nat.beq (kd μ.1).1 (q1 + 5) = true ∧ P nx lv (.ref μ.1 :: st) (nwO μ)
    | .newarray _ => p1i st fun x r => μ.1 < nE ∧ kd μ.1 = (q1, x.toNatClampNeg) ∧ (¬ x < 0) ∧ x.toNatClampNeg ≤ 1000 ∧ P nx lv (.ref μ.1 :: r) (nwO μ)
    | .anewarray _ => p1i st fun x r => μ.1 < nE ∧ kd μ.1 = (q1, x.toNatClampNeg) ∧ (¬ x < 0) ∧ x.toNatClampNeg ≤ 1000 ∧ P nx lv (.ref μ.1 :: r) (nwO μ)
    | .invokevirtual _ => C q1 st μ (fun st' μ' => P nx lv st' μ')
    | .invokespecial _ => C q1 st μ (fun st' μ' => P nx lv st' μ')
    | .invokestatic _ => C q1 st μ (fun st' μ' => P nx lv st' μ')
    | .ireturn => match st with
      | [.int x] => μ.1 = nE ∧ (rb = 1 → x = 0 ∨ x = 1) ∧ Rt (some (.int x)) μ
      | _ => False
    | .lreturn => match st with
      | [.long x] => μ.1 = nE ∧ Rt (some (.long x)) μ
      | _ => False
    | .return_ => match st with
      | [] => μ.1 = nE ∧ Rt none μ
      | _ => False
    | _ => False
def lkc : List (Nat × En) → Nat → Option En
  | [], _ => none
  | x :: l, pc => match Nat.beq x.1 pc with
    | true => some x.2
    | false => lkc l pc
theorem lkc_in : ∀ (l : List (Nat × En)) (pc : Nat) (e : En), lkc l pc = some e → (pc, e) ∈ l
  | [], pc, e, h => by simp [lkc] at h
  | x :: l, pc, e, h => by
    cases hb : Nat.beq x.1 pc with
    | true =>
      simp only [lkc, hb] at h
      have e1 := Nat.eq_of_beq_eq_true hb
      obtain ⟨x1, x2⟩ := x
      have e2 : x2 = e := Option.some.inj h
      have e1 : x1 = pc := e1
      subst e1; subst e2
      exact List.mem_cons_self
    | false =>
      simp only [lkc, hb] at h
      exact List.mem_cons_of_mem _ (lkc_in l pc e h)
/-- n instructions, on every road, but not past the places in sp -/
def gn (nE : Nat) (Xs : Nat × (Nat → Int32)) (rb : Nat) (C : Cf) (Rt : Option Value → Mm → Prop) (K : Ky) (cd : List (Nat × En)) (sp : List Nat) : Nat → Ky
  | 0 => K
  | n + 1 => fun pc lv st μ => match lkc cd pc with
    | none => False
    | some e => gs nE Xs rb C Rt (fun pc' lv' st' μ' => match sp.any (Nat.beq pc') with
      | true => K pc' lv' st' μ'
      | false => gn nE Xs rb C Rt K cd sp n pc' lv' st' μ') e lv st μ
/-- what a method's proof may use of the machine -/
def Spk (nE : Nat) (Xs : Nat × (Nat → Int32)) (rb : Nat) (C : Cf) (Rt : Option Value → Mm → Prop) (K : Ky) (cd : List (Nat × En)) : Prop :=
  ∀ (P : Ky), (∀ pc lv st μ, P pc lv st μ → K pc lv st μ) → ∀ pc e lv st μ, lkc cd pc = some e → gs nE Xs rb C Rt P e lv st μ → K pc lv st μ
theorem Spk.go {nE : Nat} {Xs : Nat × (Nat → Int32)} {rb : Nat} {C : Cf} {Rt : Option Value → Mm → Prop} {K : Ky} {cd : List (Nat × En)} (h : Spk nE Xs rb C Rt K cd) (sp : List Nat) : ∀ (n pc : Nat) (lv : List (Option Value)) (st : List Value) (μ : Mm), gn nE Xs rb C Rt K cd sp n pc lv st μ → K pc lv st μ
  | 0, _, _, _, _, g => g
  | n + 1, pc, lv, st, μ, g => by
    cases he : lkc cd pc with
    | none => simp only [gn, he] at g
    | some e =>
      simp only [gn, he] at g
      refine h _ (fun pc' lv' st' μ' g' => ?_) pc e lv st μ he g
      cases hs : sp.any (Nat.beq pc') with
      | true => simp only [hs] at g'; exact g'
      | false => simp only [hs] at g'; exact Spk.go h sp n pc' lv' st' μ' g'
