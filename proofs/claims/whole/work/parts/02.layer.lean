/-! The memory of the whole run: cells by their number, in the order in which they are made. n, ints, longs, references. -/
abbrev Mm : Type := Nat × (Nat → Nat → Int32) × (Nat → Nat → Int64) × (Nat → Nat → Option Nat)
abbrev Aq : Type := Nat × Nat × Nat
def up2 {α : Type} (f : Nat → Nat → α) (k j : Nat) (x : α) : Nat → Nat → α := fun a b => if a = k ∧ b = j then x else f a b
def upr {α : Type} (f : Nat → Nat → α) (k : Nat) (r : Nat → α) : Nat → Nat → α := fun a => if a = k then r else f a
def sI (μ : Mm) (k j : Nat) (x : Int32) : Mm := match μ with | (n, f, g, z) => (n, up2 f k j x, g, z)
def sL (μ : Mm) (k j : Nat) (x : Int64) : Mm := match μ with | (n, f, g, z) => (n, f, up2 g k j x, z)
def sT (μ : Mm) (k j : Nat) (x : Option Nat) : Mm := match μ with | (n, f, g, z) => (n, f, g, up2 z k j x)
def nwO (μ : Mm) : Mm := match μ with | (n, f, g, z) => (n + 1, upr f n (fun _ => 0), upr g n (fun _ => 0), upr z n (fun _ => none))
theorem up2_s {α : Type} {f : Nat → Nat → α} {k j : Nat} {x : α} : up2 f k j x k j = x := if_pos ⟨rfl, rfl⟩
theorem up2_k {α : Type} {f : Nat → Nat → α} {k j a : Nat} {x : α} (h : a ≠ k) : up2 f k j x a = f a := by
  funext b
  exact if_neg (fun q => h q.1)
theorem up2_j {α : Type} {f : Nat → Nat → α} {k j b : Nat} {x : α} (h : b ≠ j) : up2 f k j x k b = f k b := if_neg (fun q => h q.2)
theorem upr_s {α : Type} {f : Nat → Nat → α} {k : Nat} {r : Nat → α} : upr f k r k = r := if_pos rfl
theorem upr_k {α : Type} {f : Nat → Nat → α} {k a : Nat} {r : Nat → α} (h : a ≠ k) : upr f k r a = f a := if_neg h
/-! addresses: cell k lies at q.1 + k; 1000 is the table of the library, 1001 the script -/
def ra (q : Aq) (k : Nat) : Nat := if k = 1000 then q.2.1 else if k = 1001 then q.2.2 else q.1 + k
theorem ra_lt {q : Aq} {k : Nat} (h : k < 1000) : ra q k = q.1 + k := by
  unfold ra
  rw [if_neg (by omega), if_neg (by omega)]
def tv (q : Aq) (v : Value) : Value := match v with
  | .ref k => .ref (ra q k)
  | w => w
theorem tv_cat (q : Aq) (v : Value) : (tv q v).category = v.category := by cases v <;> rfl
/-! a cell: t = (kind, length): 0 ints, 1 longs, 2 booleans, 3 Literals, 4 Rules, c + 5 an object of the c-th kind -/
def fv (q : Aq) (r : Nat → Int32) (w : Nat → Int64) (z : Nat → Option Nat) (j t : Nat) : Value := match t with
  | 1 => .long (w j)
  | 2 => va_rf ((z j).map (ra q))
  | _ => .int (r j)
def fvl (q : Aq) (r : Nat → Int32) (w : Nat → Int64) (z : Nat → Option Nat) (l : List Nat) : List Value := (List.range l.length).map (fun j => fv q r w z j (l.getD j 0))
theorem fvl_len {q : Aq} {r : Nat → Int32} {w : Nat → Int64} {z : Nat → Option Nat} {l : List Nat} : (fvl q r w z l).length = l.length := by simp [fvl]
theorem fvl_at {q : Aq} {r : Nat → Int32} {w : Nat → Int64} {z : Nat → Option Nat} {l : List Nat} {j : Nat} (h : j < l.length) : (fvl q r w z l)[j]? = some (fv q r w z j (l.getD j 0)) := by
  simp [fvl, h]
def cx (q : Aq) (G : Nat → ClassId) (t : Nat × Nat) (r : Nat → Int32) (w : Nat → Int64) (z : Nat → Option Nat) : va_E := match t with
  | (0, n) => .inl (G 0, n, .inl r)
  | (1, n) => .inl (G 1, n, .inr (.inl w))
  | (2, n) => .inl (G 2, n, .inl r)
  | (3, n) => .inl (G 3, n, .inr (.inr (.inr (.inr (fun j => (z j).map (ra q))))))
  | (4, n) => .inl (G 4, n, .inr (.inr (.inr (.inr (fun j => (z j).map (ra q))))))
  | (c + 5, _) => .inr (c, fvl q r w z (fk c))
def sz (t : Nat × Nat) : Nat := match t with
  | (0, n) => n
  | (1, n) => n
  | (2, n) => n
  | (3, n) => n
  | (4, n) => n
  | (c + 5, _) => (fk c).length
def cz : Nat → Nat
  | 0 => 0
  | k + 1 => cz k + sz (kd k)
theorem cz_mono {a b : Nat} (h : a ≤ b) : cz a ≤ cz b := by
  induction b with
  | zero => rw [Nat.le_zero.mp h]; exact Nat.le_refl _
  | succ b ih =>
    rcases Nat.lt_or_ge b a with h1 | h1
    · rw [show a = b + 1 by omega]; exact Nat.le_refl _
    · exact Nat.le_trans (ih h1) (Nat.le_add_right _ _)
def tyl (G : Nat → ClassId) : List (ClassId × FieldType) := [(G 0, .int), (G 1, .long), (G 2, .boolean), (G 3, .object Rlit), (G 4, .object Rrul)]
/-- the world -/
def Wd (q : Aq) (D : va_G) (G : Nat → ClassId) (μ : Mm) (H : Heap) : Prop := μ.1 ≤ 900 ∧ H.size = q.1 + μ.1 ∧ ∀ k, k < μ.1 → va_at D vwCl (q.1 + k, cx q G (kd k) (μ.2.1 k) (μ.2.2.1 k) (μ.2.2.2 k)) H
theorem Wd.chg {q : Aq} {D : va_G} {G : Nat → ClassId} {μ μ' : Mm} {H H1 : Heap} (h : Wd q D G μ H) (k : Nat) (hn : μ'.1 = μ.1) (hz : H1.size = H.size) (ho : ∀ a : Nat, a ≠ q.1 + k → H1[a]? = H[a]?)
    (hk : va_at D vwCl (q.1 + k, cx q G (kd k) (μ'.2.1 k) (μ'.2.2.1 k) (μ'.2.2.2 k)) H1) (hr : ∀ j, j ≠ k → μ'.2.1 j = μ.2.1 j ∧ μ'.2.2.1 j = μ.2.2.1 j ∧ μ'.2.2.2 j = μ.2.2.2 j) : Wd q D G μ' H1 := by
  refine ⟨by rw [hn]; exact h.1, by rw [hn, hz]; exact h.2.1, fun j hj => ?_⟩
  by_cases hjk : j = k
  · subst hjk; exact hk
  · obtain ⟨e1, e2, e3⟩ := hr j hjk
    rw [e1, e2, e3]
    refine (h.2.2 j (by rw [← hn]; exact hj)).kept (ho _ ?_)
    show q.1 + j ≠ q.1 + k
    omega
theorem Wd.add {q : Aq} {D : va_G} {G : Nat → ClassId} {μ : Mm} {H H1 : Heap} (h : Wd q D G μ H) (hc : μ.1 < 900) (hz : H1.size = H.size + 1) (ho : ∀ a : Nat, a < H.size → H1[a]? = H[a]?)
    (hk : va_at D vwCl (q.1 + μ.1, cx q G (kd μ.1) (fun _ => 0) (fun _ => 0) (fun _ => none)) H1) : Wd q D G (nwO μ) H1 := by
  obtain ⟨n, f, g, z⟩ := μ
  obtain ⟨h1, h2, h3⟩ := h
  refine ⟨hc, ?_, fun j hj => ?_⟩
  · show H1.size = q.1 + (n + 1)
    rw [hz, h2]
    show q.1 + n + 1 = q.1 + (n + 1)
    omega
  · show va_at D vwCl (q.1 + j, cx q G (kd j) (upr f n (fun _ => 0) j) (upr g n (fun _ => 0) j) (upr z n (fun _ => none) j)) H1
    have hj : j < n + 1 := hj
    by_cases hjn : j = n
    · subst hjn
      rw [upr_s, upr_s, upr_s]
      exact hk
    · rw [upr_k hjn, upr_k hjn, upr_k hjn]
      have hlt : j < n := by omega
      have hh := h3 j hlt
      exact hh.kept (ho _ hh.lt)
/-- the library's table, and what a method may not change -/
def SL (q : Aq) (U : State) (H : Heap) : Prop := va_Z Rpf "LIBRARY" "[I" (.ref q.2.1) (fun a => q.1 ≤ a) U H ∧ va_T .int q.2.1 72 (fun j => .int (lib j)) (fun a => q.1 ≤ a) U H
theorem SL.moved {q : Aq} {u U : State} {H : Heap} (hvm : u.vm.Alike U.vm) (h : SL q u H) : SL q U H := ⟨h.1.moved hvm, h.2.moved hvm⟩
theorem SL.kept {q : Aq} {U : State} {H H1 : Heap} (h : SL q U H) (hq : ∀ a : Nat, a < H.size → ¬ q.1 ≤ a → H1[a]? = H[a]?) : SL q U H1 := ⟨h.1.kept hq, h.2.kept hq⟩
/-! the variables of a frame -/
def lk2 : List (Option Value) → Nat → Option Value
  | [], _ => none
  | a :: _, 0 => a
  | _ :: l, n + 1 => lk2 l n
def ls2 : List (Option Value) → Nat → Option Value → List (Option Value)
  | [], _, _ => []
  | _ :: l, 0, v => v :: l
  | a :: l, n + 1, v => a :: ls2 l n v
theorem ls2_len (v : Option Value) : ∀ (l : List (Option Value)) (i : Nat), (ls2 l i v).length = l.length
  | [], _ => rfl
  | _ :: _, 0 => rfl
  | _ :: l, n + 1 => congrArg (· + 1) (ls2_len v l n)
theorem lk2_ls2 (v : Option Value) : ∀ (l : List (Option Value)) (i j : Nat), lk2 (ls2 l i v) j = if j = i ∧ i < l.length then v else lk2 l j
  | [], i, j => by simp [ls2, lk2]
  | a :: l, 0, 0 => by simp [ls2, lk2]
  | a :: l, 0, j + 1 => by simp [ls2, lk2]
  | a :: l, i + 1, 0 => by simp [ls2, lk2]
  | a :: l, i + 1, j + 1 => by
    show lk2 (ls2 l i v) j = _
    rw [lk2_ls2 v l i j]
    simp [lk2]
theorem lk2_none : ∀ (l : List (Option Value)) (i : Nat), l.length ≤ i → lk2 l i = none
  | [], _, _ => rfl
  | _ :: l, 0, h => absurd h (by simp)
  | _ :: l, i + 1, h => lk2_none l i (by simpa using h)
def as0 (q : Aq) : Nat → List (Option Value) → List (Nat × Value)
  | _, [] => []
  | n, none :: l => as0 q (n + 1) l
  | n, some v :: l => (n, tv q v) :: as0 q (n + 1) l
theorem as0_in (q : Aq) (v : Value) : ∀ (l : List (Option Value)) (n i : Nat), lk2 l i = some v → (n + i, tv q v) ∈ as0 q n l
  | [], n, i, h => by simp [lk2] at h
  | none :: l, n, 0, h => by simp [lk2] at h
  | none :: l, n, i + 1, h => by
    have := as0_in q v l (n + 1) i h
    rw [show n + (i + 1) = n + 1 + i by omega]
    exact this
  | some w :: l, n, 0, h => by
    have : w = v := Option.some.inj h
    subst this
    exact List.mem_cons_self
  | some w :: l, n, i + 1, h => by
    have := as0_in q v l (n + 1) i h
    rw [show n + (i + 1) = n + 1 + i by omega]
    exact List.mem_cons_of_mem _ this
theorem as0_out (q : Aq) (x : Nat × Value) : ∀ (l : List (Option Value)) (n : Nat), x ∈ as0 q n l → ∃ i v, x.1 = n + i ∧ lk2 l i = some v ∧ x.2 = tv q v
  | [], n, h => by simp [as0] at h
  | none :: l, n, h => by
    obtain ⟨i, v, h1, h2, h3⟩ := as0_out q x l (n + 1) h
    exact ⟨i + 1, v, by omega, h2, h3⟩
  | some w :: l, n, h => by
    rcases List.mem_cons.mp h with h | h
    · subst h
      exact ⟨0, w, rfl, rfl, rfl⟩
    · obtain ⟨i, v, h1, h2, h3⟩ := as0_out q x l (n + 1) h
      exact ⟨i + 1, v, by omega, h2, h3⟩
def lvH (q : Aq) (ls : Array Slot) (nL : Nat) (lv : List (Option Value)) : Prop := lv.length ≤ nL ∧ lv_has ls nL (as0 q 0 lv)
theorem lvH.at {q : Aq} {ls : Array Slot} {nL : Nat} {lv : List (Option Value)} (h : lvH q ls nL lv) {i : Nat} {v : Value} (hv : lk2 lv i = some v) : ls[i]? = some (.val (tv q v)) := by
  have := h.2.2.2 _ (as0_in q v lv 0 i hv)
  simpa using this
/-- may place i be written: no long stands before it -/
def nolb (lv : List (Option Value)) (i : Nat) : Bool := match i with
  | 0 => true
  | j + 1 => match lk2 lv j with
    | some v => Nat.beq v.category 1
    | none => true
theorem nolb_s {lv : List (Option Value)} {j : Nat} {v : Value} (h : nolb lv (j + 1) = true) (hv : lk2 lv j = some v) : ¬ v.category = 2 := by
  simp only [nolb, hv] at h
  have := Nat.eq_of_beq_eq_true h
  omega
theorem lvH.st1 {q : Aq} {ls' : Array Slot} {nL : Nat} {lv : List (Option Value)} {i : Nat} {v : Value} (hl : lv.length ≤ nL) (hb : nolb lv i = true)
    (h : lv_has ls' nL ((i, tv q v) :: (as0 q 0 lv).filter (fun x => !(x.1 == i) && !(x.1 + 1 == i && x.2.category == 2)))) : lvH q ls' nL (ls2 lv i (some v)) := by
  refine ⟨by rw [ls2_len]; exact hl, h.1, h.2.1, fun x hx => ?_⟩
  obtain ⟨j, w, h1, h2, h3⟩ := as0_out q x _ 0 hx
  obtain ⟨x1, x2⟩ := x
  have h1 : x1 = j := by rw [Nat.zero_add] at h1; exact h1
  have h3 : x2 = tv q w := h3
  subst h1; subst h3
  rw [lk2_ls2] at h2
  by_cases hj : x1 = i ∧ i < lv.length
  · rw [if_pos hj] at h2
    have : w = v := (Option.some.inj h2).symm
    subst this
    rw [hj.1]
    exact h.2.2 (i, tv q w) List.mem_cons_self
  · rw [if_neg hj] at h2
    by_cases hji : x1 = i
    · exfalso
      have hlt : x1 < lv.length := by
        rcases Nat.lt_or_ge x1 lv.length with g | g
        · exact g
        · exfalso
          have : lk2 lv x1 = none := lk2_none lv x1 g
          rw [this] at h2; cases h2
      exact hj ⟨hji, by omega⟩
    · refine h.2.2 (x1, tv q w) (List.mem_cons_of_mem _ (List.mem_filter.mpr ⟨?_, ?_⟩))
      · have := as0_in q w lv 0 x1 h2
        rw [Nat.zero_add] at this
        exact this
      · simp only [Bool.and_eq_true, Bool.not_eq_true', beq_eq_false_iff_ne, ne_eq, Bool.and_eq_false_imp, beq_iff_eq]
        refine ⟨hji, fun e => ?_⟩
        rw [tv_cat]
        subst e
        exact nolb_s hb h2
theorem lvH.st2 {q : Aq} {ls' : Array Slot} {nL : Nat} {lv : List (Option Value)} {i : Nat} {v : Value} (hl : lv.length ≤ nL) (hb : nolb lv i = true)
    (h : lv_has ls' nL ((i, tv q v) :: (as0 q 0 lv).filter (fun x => !(x.1 == i) && (!(x.1 == i + 1) && !(x.1 + 1 == i && x.2.category == 2))))) : lvH q ls' nL (ls2 (ls2 lv i (some v)) (i + 1) none) := by
  refine ⟨by rw [ls2_len, ls2_len]; exact hl, h.1, h.2.1, fun x hx => ?_⟩
  obtain ⟨j, w, h1, h2, h3⟩ := as0_out q x _ 0 hx
  obtain ⟨x1, x2⟩ := x
  have h1 : x1 = j := by rw [Nat.zero_add] at h1; exact h1
  have h3 : x2 = tv q w := h3
  subst h1; subst h3
  rw [lk2_ls2, ls2_len] at h2
  by_cases hj1 : x1 = i + 1 ∧ i + 1 < lv.length
  · rw [if_pos hj1] at h2; cases h2
  · rw [if_neg hj1, lk2_ls2] at h2
    by_cases hj : x1 = i ∧ i < lv.length
    · rw [if_pos hj] at h2
      have : w = v := (Option.some.inj h2).symm
      subst this
      rw [hj.1]
      exact h.2.2 (i, tv q w) List.mem_cons_self
    · rw [if_neg hj] at h2
      have hlt : x1 < lv.length := by
        rcases Nat.lt_or_ge x1 lv.length with g | g
        · exact g
        · exfalso
          have : lk2 lv x1 = none := lk2_none lv x1 g
          rw [this] at h2; cases h2
      have hji : ¬ x1 = i := fun e => hj ⟨e, by omega⟩
      have hji1 : ¬ x1 = i + 1 := fun e => hj1 ⟨e, by omega⟩
      refine h.2.2 (x1, tv q w) (List.mem_cons_of_mem _ (List.mem_filter.mpr ⟨?_, ?_⟩))
      · have := as0_in q w lv 0 x1 h2
        rw [Nat.zero_add] at this
        exact this
      · simp only [Bool.and_eq_true, Bool.not_eq_true', beq_eq_false_iff_ne, ne_eq, Bool.and_eq_false_imp, beq_iff_eq]
        refine ⟨hji, hji1, fun e => ?_⟩
        rw [tv_cat]
        subst e
        exact nolb_s hb h2
def lvE : List Value → List (Option Value)
  | [] => []
  | v :: l => match v.category with
    | 2 => some v :: none :: lvE l
    | _ => some v :: lvE l
def lvp (n : Nat) (as : List Value) : List (Option Value) := lvE as ++ List.replicate (n - (lvE as).length) none
theorem lvE_args (q : Aq) : ∀ (as : List Value) (n : Nat) (r : List (Option Value)) (x : Nat × Value), (∀ y ∈ r, y = none) → x ∈ as0 q n (lvE as ++ r) → x ∈ lv_args n (as.map (tv q))
  | [], n, r, x, hr, h => by
    exfalso
    obtain ⟨i, v, -, h2, -⟩ := as0_out q x _ _ h
    have key : ∀ (l : List (Option Value)) (i : Nat), (∀ y ∈ l, y = none) → lk2 l i = none := by
      intro l
      induction l with
      | nil => intro i _; rfl
      | cons a l ih =>
        intro i hl
        cases i with
        | zero => exact hl a List.mem_cons_self
        | succ i => exact ih i (fun y hy => hl y (List.mem_cons_of_mem _ hy))
    have h2 : lk2 r i = some v := h2
    rw [key r i hr] at h2
    cases h2
  | v :: l, n, r, x, hr, h => by
    have hc := tv_cat q v
    show x ∈ (n, tv q v) :: lv_args (if (tv q v).category = 2 then n + 2 else n + 1) (l.map (tv q))
    rcases lv_cat v with h1 | h2
    · have e : lvE (v :: l) = some v :: lvE l := by simp only [lvE, h1]
      rw [e] at h
      rw [hc, if_neg (by omega)]
      rcases List.mem_cons.mp (show x ∈ (n, tv q v) :: as0 q (n + 1) (lvE l ++ r) from h) with h | h
      · rw [h]; exact List.mem_cons_self
      · exact List.mem_cons_of_mem _ (lvE_args q l (n + 1) r x hr h)
    · have e : lvE (v :: l) = some v :: none :: lvE l := by simp only [lvE, h2]
      rw [e] at h
      rw [hc, if_pos h2]
      rcases List.mem_cons.mp (show x ∈ (n, tv q v) :: as0 q (n + 1 + 1) (lvE l ++ r) from h) with h | h
      · rw [h]; exact List.mem_cons_self
      · exact List.mem_cons_of_mem _ (lvE_args q l (n + 2) r x hr h)
theorem lvE_len (q : Aq) : ∀ as : List Value, (lg_sl (as.map (tv q))).length = (lvE as).length
  | [] => rfl
  | v :: l => by
    have ih := lvE_len q l
    have hc := tv_cat q v
    show ((if (tv q v).category = 2 then [Slot.val (tv q v), Slot.second] else [Slot.val (tv q v)]) ++ lg_sl (l.map (tv q))).length = _
    rcases lv_cat v with h1 | h2
    · have e : lvE (v :: l) = some v :: lvE l := by simp only [lvE, h1]
      rw [e, hc, if_neg (by omega)]
      simp [ih]
    · have e : lvE (v :: l) = some v :: none :: lvE l := by simp only [lvE, h2]
      rw [e, hc, if_pos h2]
      simp [ih]
theorem lvH.entry {q : Aq} {as : List Value} {n : Nat} (h : (lvE as).length ≤ n) : lvH q ((lg_sl (as.map (tv q)) ++ List.replicate (n - (lg_sl (as.map (tv q))).length) Slot.unset).toArray) n (lvp n as) := by
  have h0 := lv_entry (as.map (tv q)) (n := n) (by rw [lvE_len]; exact h)
  refine ⟨?_, h0.1, h0.2.1, fun x hx => h0.2.2 x (lvE_args q as 0 _ x (fun y hy => (List.mem_replicate.mp hy).2) hx)⟩
  unfold lvp
  simp
  omega
/-! the stack's top, taken apart -/
def p1i (st : List Value) (f : Int32 → List Value → Prop) : Prop := match st with | .int x :: r => f x r | _ => False
def p1l (st : List Value) (f : Int64 → List Value → Prop) : Prop := match st with | .long x :: r => f x r | _ => False
def p1r (st : List Value) (f : Nat → List Value → Prop) : Prop := match st with | .ref x :: r => f x r | _ => False
def p2i (st : List Value) (f : Int32 → Int32 → List Value → Prop) : Prop := match st with | .int y :: .int x :: r => f y x r | _ => False
def p2l (st : List Value) (f : Int64 → Int64 → List Value → Prop) : Prop := match st with | .long y :: .long x :: r => f y x r | _ => False
def pil (st : List Value) (f : Int32 → Int64 → List Value → Prop) : Prop := match st with | .int y :: .long x :: r => f y x r | _ => False
def pir (st : List Value) (f : Int32 → Nat → List Value → Prop) : Prop := match st with | .int y :: .ref x :: r => f y x r | _ => False
def plr (st : List Value) (f : Int64 → Nat → List Value → Prop) : Prop := match st with | .long y :: .ref x :: r => f y x r | _ => False
def prr (st : List Value) (f : Nat → Nat → List Value → Prop) : Prop := match st with | .ref y :: .ref x :: r => f y x r | _ => False
def piir (st : List Value) (f : Int32 → Int32 → Nat → List Value → Prop) : Prop := match st with | .int y :: .int x :: .ref k :: r => f y x k r | _ => False
def plir (st : List Value) (f : Int64 → Int32 → Nat → List Value → Prop) : Prop := match st with | .long y :: .int x :: .ref k :: r => f y x k r | _ => False
def prir (st : List Value) (f : Nat → Int32 → Nat → List Value → Prop) : Prop := match st with | .ref y :: .int x :: .ref k :: r => f y x k r | _ => False
def p1v (st : List Value) (f : Value → List Value → Prop) : Prop := match st with | v :: r => (match Nat.beq v.category 1 with | true => f v r | false => False) | _ => False
def p2v (st : List Value) (f : Value → Value → List Value → Prop) : Prop := match st with | v :: w :: r => (match Nat.beq v.category 1 && Nat.beq w.category 1 with | true => f v w r | false => False) | _ => False
theorem p1i_e {st : List Value} {f : Int32 → List Value → Prop} (h : p1i st f) : ∃ x r, st = .int x :: r ∧ f x r := by
  unfold p1i at h; split at h
  · exact ⟨_, _, rfl, h⟩
  · exact h.elim
theorem p1l_e {st : List Value} {f : Int64 → List Value → Prop} (h : p1l st f) : ∃ x r, st = .long x :: r ∧ f x r := by
  unfold p1l at h; split at h
  · exact ⟨_, _, rfl, h⟩
  · exact h.elim
theorem p1r_e {st : List Value} {f : Nat → List Value → Prop} (h : p1r st f) : ∃ x r, st = .ref x :: r ∧ f x r := by
  unfold p1r at h; split at h
  · exact ⟨_, _, rfl, h⟩
  · exact h.elim
theorem p2i_e {st : List Value} {f : Int32 → Int32 → List Value → Prop} (h : p2i st f) : ∃ y x r, st = .int y :: .int x :: r ∧ f y x r := by
  unfold p2i at h; split at h
  · exact ⟨_, _, _, rfl, h⟩
  · exact h.elim
theorem p2l_e {st : List Value} {f : Int64 → Int64 → List Value → Prop} (h : p2l st f) : ∃ y x r, st = .long y :: .long x :: r ∧ f y x r := by
  unfold p2l at h; split at h
  · exact ⟨_, _, _, rfl, h⟩
  · exact h.elim
theorem pil_e {st : List Value} {f : Int32 → Int64 → List Value → Prop} (h : pil st f) : ∃ y x r, st = .int y :: .long x :: r ∧ f y x r := by
  unfold pil at h; split at h
  · exact ⟨_, _, _, rfl, h⟩
  · exact h.elim
theorem pir_e {st : List Value} {f : Int32 → Nat → List Value → Prop} (h : pir st f) : ∃ y x r, st = .int y :: .ref x :: r ∧ f y x r := by
  unfold pir at h; split at h
  · exact ⟨_, _, _, rfl, h⟩
  · exact h.elim
theorem plr_e {st : List Value} {f : Int64 → Nat → List Value → Prop} (h : plr st f) : ∃ y x r, st = .long y :: .ref x :: r ∧ f y x r := by
  unfold plr at h; split at h
  · exact ⟨_, _, _, rfl, h⟩
  · exact h.elim
theorem prr_e {st : List Value} {f : Nat → Nat → List Value → Prop} (h : prr st f) : ∃ y x r, st = .ref y :: .ref x :: r ∧ f y x r := by
  unfold prr at h; split at h
  · exact ⟨_, _, _, rfl, h⟩
  · exact h.elim
theorem piir_e {st : List Value} {f : Int32 → Int32 → Nat → List Value → Prop} (h : piir st f) : ∃ y x k r, st = .int y :: .int x :: .ref k :: r ∧ f y x k r := by
  unfold piir at h; split at h
  · exact ⟨_, _, _, _, rfl, h⟩
  · exact h.elim
theorem plir_e {st : List Value} {f : Int64 → Int32 → Nat → List Value → Prop} (h : plir st f) : ∃ y x k r, st = .long y :: .int x :: .ref k :: r ∧ f y x k r := by
  unfold plir at h; split at h
  · exact ⟨_, _, _, _, rfl, h⟩
  · exact h.elim
theorem prir_e {st : List Value} {f : Nat → Int32 → Nat → List Value → Prop} (h : prir st f) : ∃ y x k r, st = .ref y :: .int x :: .ref k :: r ∧ f y x k r := by
  unfold prir at h; split at h
  · exact ⟨_, _, _, _, rfl, h⟩
  · exact h.elim
theorem p1v_e {st : List Value} {f : Value → List Value → Prop} (h : p1v st f) : ∃ v r, st = v :: r ∧ v.category = 1 ∧ f v r := by
  unfold p1v at h; split at h
  · split at h
    · rename_i hb
      exact ⟨_, _, rfl, Nat.eq_of_beq_eq_true hb, h⟩
    · exact h.elim
  · exact h.elim
theorem p2v_e {st : List Value} {f : Value → Value → List Value → Prop} (h : p2v st f) : ∃ v w r, st = v :: w :: r ∧ v.category = 1 ∧ w.category = 1 ∧ f v w r := by
  unfold p2v at h; split at h
  · split at h
    · rename_i hb
      rw [Bool.and_eq_true] at hb
      exact ⟨_, _, _, rfl, Nat.eq_of_beq_eq_true hb.1, Nat.eq_of_beq_eq_true hb.2, h⟩
    · exact h.elim
  · exact h.elim
def ldi (lv : List (Option Value)) (k : Nat) (f : Int32 → Prop) : Prop := match lk2 lv k with | some (.int x) => f x | _ => False
def ldl (lv : List (Option Value)) (k : Nat) (f : Int64 → Prop) : Prop := match lk2 lv k with | some (.long x) => f x | _ => False
def ldr (lv : List (Option Value)) (k : Nat) (f : Nat → Prop) : Prop := match lk2 lv k with | some (.ref x) => f x | _ => False
theorem ldi_e {lv : List (Option Value)} {k : Nat} {f : Int32 → Prop} (h : ldi lv k f) : ∃ x, lk2 lv k = some (.int x) ∧ f x := by
  unfold ldi at h; split at h
  · rename_i e; exact ⟨_, e, h⟩
  · exact h.elim
theorem ldl_e {lv : List (Option Value)} {k : Nat} {f : Int64 → Prop} (h : ldl lv k f) : ∃ x, lk2 lv k = some (.long x) ∧ f x := by
  unfold ldl at h; split at h
  · rename_i e; exact ⟨_, e, h⟩
  · exact h.elim
theorem ldr_e {lv : List (Option Value)} {k : Nat} {f : Nat → Prop} (h : ldr lv k f) : ∃ x, lk2 lv k = some (.ref x) ∧ f x := by
  unfold ldr at h; split at h
  · rename_i e; exact ⟨_, e, h⟩
  · exact h.elim
/-- a store: allowed where no long stands before the place -/
def sto (lv : List (Option Value)) (k : Nat) (f : Prop) : Prop := match nolb lv k && Nat.blt k lv.length with | true => f | false => False
theorem sto_e {lv : List (Option Value)} {k : Nat} {f : Prop} (h : sto lv k f) : nolb lv k = true ∧ k < lv.length ∧ f := by
  unfold sto at h; split at h
  · rename_i e
    rw [Bool.and_eq_true] at e
    exact ⟨e.1, by simpa using e.2, h⟩
  · exact h.elim
theorem cf_ty : ∀ (ci : Nat) (r : vw_C), vwCl[ci]? = some r → ∃ ty : Nat → FieldType, (∀ j, j < r.2.2 → parseFieldDescriptor (r.2.1 j).2.2.1 = some (ty j)) ∧ (∀ a, a < r.2.2 → ∀ b, b < r.2.2 → a ≠ b → (r.2.1 a).2.1 ≠ (r.2.1 b).2.1) ∧ ∀ (q : Aq) (j : Nat), j < r.2.2 → defaultValue (ty j) = vp_V (fvl q (fun _ => 0) (fun _ => 0) (fun _ => none) (fk ci)) j := by
  intro ci r h
  match ci, h with
  | 0, h =>
    cases h
    refine ⟨ty_PF, tk_PF.1, tk_PF.2, fun q j hj => ?_⟩
    have hj : j < 6 := hj
    match j, hj with
    | 0, _ => rfl
    | 1, _ => rfl
    | 2, _ => rfl
    | 3, _ => rfl
    | 4, _ => rfl
    | 5, _ => rfl
    | n + 6, hj => omega
  | 1, h =>
    cases h
    refine ⟨ty_PG, tk_PG.1, tk_PG.2, fun q j hj => ?_⟩
    have hj : j < 3 := hj
    match j, hj with
    | 0, _ => rfl
    | 1, _ => rfl
    | 2, _ => rfl
    | n + 3, hj => omega
  | 2, h =>
    cases h
    refine ⟨ty_RS, tk_RS.1, tk_RS.2, fun q j hj => ?_⟩
    have hj : j < 5 := hj
    match j, hj with
    | 0, _ => rfl
    | 1, _ => rfl
    | 2, _ => rfl
    | 3, _ => rfl
    | 4, _ => rfl
    | n + 5, hj => omega
  | 3, h =>
    cases h
    refine ⟨ty_RB, tk_RB.1, tk_RB.2, fun q j hj => ?_⟩
    have hj : j < 5 := hj
    match j, hj with
    | 0, _ => rfl
    | 1, _ => rfl
    | 2, _ => rfl
    | 3, _ => rfl
    | 4, _ => rfl
    | n + 5, hj => omega
  | 4, h =>
    cases h
    refine ⟨ty_RL, tk_RL.1, tk_RL.2, fun q j hj => ?_⟩
    have hj : j < 5 := hj
    match j, hj with
    | 0, _ => rfl
    | 1, _ => rfl
    | 2, _ => rfl
    | 3, _ => rfl
    | 4, _ => rfl
    | n + 5, hj => omega
  | 5, h =>
    cases h
    refine ⟨ty_LI, tk_LI.1, tk_LI.2, fun q j hj => ?_⟩
    have hj : j < 4 := hj
    match j, hj with
    | 0, _ => rfl
    | 1, _ => rfl
    | 2, _ => rfl
    | 3, _ => rfl
    | n + 4, hj => omega
  | 6, h =>
    cases h
    refine ⟨ty_DV, tk_DV.1, tk_DV.2, fun q j hj => ?_⟩
    have hj : j < 2 := hj
    match j, hj with
    | 0, _ => rfl
    | 1, _ => rfl
    | n + 2, hj => omega
  | 7, h =>
    cases h
    refine ⟨ty_RN, tk_RN.1, tk_RN.2, fun q j hj => ?_⟩
    have hj : j < 4 := hj
    match j, hj with
    | 0, _ => rfl
    | 1, _ => rfl
    | 2, _ => rfl
    | 3, _ => rfl
    | n + 4, hj => omega
  | 8, h =>
    cases h
    refine ⟨ty_PM, tk_PM.1, tk_PM.2, fun q j hj => ?_⟩
    have hj : j < 25 := hj
    match j, hj with
    | 0, _ => rfl
    | 1, _ => rfl
    | 2, _ => rfl
    | 3, _ => rfl
    | 4, _ => rfl
    | 5, _ => rfl
    | 6, _ => rfl
    | 7, _ => rfl
    | 8, _ => rfl
    | 9, _ => rfl
    | 10, _ => rfl
    | 11, _ => rfl
    | 12, _ => rfl
    | 13, _ => rfl
    | 14, _ => rfl
    | 15, _ => rfl
    | 16, _ => rfl
    | 17, _ => rfl
    | 18, _ => rfl
    | 19, _ => rfl
    | 20, _ => rfl
    | 21, _ => rfl
    | 22, _ => rfl
    | 23, _ => rfl
    | 24, _ => rfl
    | n + 25, hj => omega
  | n + 9, h => simp at h
