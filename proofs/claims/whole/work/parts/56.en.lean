/-! matching, as mathematics: valuations bound step by step; en = all of them that a list of literals leaves -/
abbrev Vl : Type := Nat → Int32
abbrev Lt : Type := Nat × Nat × (Nat → Bool)
def bnd (v : Vl) (t : Nat) (x : Int32) : Option Vl := if v t = -1 then some (upd v t x) else if v t = x then some v else none
theorem upd_s {f : Vl} {k : Nat} {x : Int32} : upd f k x k = x := if_pos rfl
theorem upd_o {f : Vl} {k j : Nat} {x : Int32} (h : j ≠ k) : upd f k x j = f j := if_neg h
theorem upd_c {f : Vl} {k j : Nat} {x y : Int32} (h : k ≠ j) : upd (upd f k x) j y = upd (upd f j y) k x := by
  funext i
  unfold upd
  by_cases h1 : i = j
  · rw [if_pos h1, if_neg (by omega), if_pos h1]
  · rw [if_neg h1]
    by_cases h2 : i = k
    · rw [if_pos h2, if_pos h2]
    · rw [if_neg h2, if_neg h2, if_neg h1]
theorem bnd_comm {v : Vl} {f t : Nat} {a x : Int32} (ha : a ≠ -1) (hx : x ≠ -1) : (bnd v f a).bind (fun v => bnd v t x) = (bnd v t x).bind (fun v => bnd v f a) := by
  by_cases h : f = t
  · subst h
    by_cases h1 : v f = -1
    · have e : ∀ y, bnd v f y = some (upd v f y) := fun y => if_pos h1
      rw [e, e]
      show bnd (upd v f a) f x = bnd (upd v f x) f a
      unfold bnd
      rw [upd_s, upd_s, if_neg ha, if_neg hx]
      by_cases h2 : a = x
      · subst h2; rfl
      · rw [if_neg h2, if_neg (fun z => h2 z.symm)]
    · have e : ∀ y, bnd v f y = if v f = y then some v else none := fun y => if_neg h1
      rw [e, e]
      by_cases h2 : v f = a
      · by_cases h3 : v f = x
        · rw [if_pos h2, if_pos h3]
          show bnd v f x = bnd v f a
          rw [e, e, if_pos h2, if_pos h3]
        · rw [if_pos h2, if_neg h3]
          show bnd v f x = none
          rw [e, if_neg h3]
      · rw [if_neg h2]
        by_cases h3 : v f = x
        · rw [if_pos h3]
          show none = bnd v f a
          rw [e, if_neg h2]
        · rw [if_neg h3]
          rfl
  · have ht : t ≠ f := fun z => h z.symm
    unfold bnd
    by_cases h1 : v f = -1
    · rw [if_pos h1]
      by_cases h2 : v t = -1
      · rw [if_pos h2]
        show (if upd v f a t = -1 then _ else _) = (if upd v t x f = -1 then _ else _)
        rw [upd_o ht, upd_o h, if_pos h1, if_pos h2, upd_c h]
      · rw [if_neg h2]
        by_cases h3 : v t = x
        · rw [if_pos h3]
          show (if upd v f a t = -1 then _ else if upd v f a t = x then _ else _) = (if v f = -1 then _ else _)
          rw [upd_o ht, if_neg h2, if_pos h3, if_pos h1]
        · rw [if_neg h3]
          show (if upd v f a t = -1 then _ else if upd v f a t = x then _ else _) = none
          rw [upd_o ht, if_neg h2, if_neg h3]
    · rw [if_neg h1]
      by_cases h4 : v f = a
      · rw [if_pos h4]
        by_cases h2 : v t = -1
        · rw [if_pos h2]
          show (if v t = -1 then _ else _) = (if upd v t x f = -1 then _ else if upd v t x f = a then _ else _)
          rw [upd_o h, if_neg h1, if_pos h4, if_pos h2]
        · rw [if_neg h2]
          by_cases h3 : v t = x
          · rw [if_pos h3]
            show (if v t = -1 then _ else if v t = x then _ else _) = (if v f = -1 then _ else if v f = a then _ else _)
            rw [if_neg h2, if_pos h3, if_neg h1, if_pos h4]
          · rw [if_neg h3]
            show (if v t = -1 then _ else if v t = x then _ else _) = none
            rw [if_neg h2, if_neg h3]
      · rw [if_neg h4]
        by_cases h2 : v t = -1
        · rw [if_pos h2]
          show none = (if upd v t x f = -1 then _ else if upd v t x f = a then _ else _)
          rw [upd_o h, if_neg h1, if_neg h4]
        · rw [if_neg h2]
          by_cases h3 : v t = x
          · rw [if_pos h3]
            show none = (if v f = -1 then _ else if v f = a then _ else _)
            rw [if_neg h1, if_neg h4]
          · rw [if_neg h3]
            rfl
theorem bnd_bd {v v' : Vl} {f : Nat} {a : Int32} (h : bnd v f a = some v') : v' f = a ∧ (∀ t, v t ≠ -1 → v' t = v t) ∧ ∀ t, t ≠ f → v' t = v t := by
  unfold bnd at h
  by_cases h1 : v f = -1
  · rw [if_pos h1] at h
    cases h
    exact ⟨upd_s, fun t ht => upd_o (fun z => ht (z ▸ h1)), fun t ht => upd_o ht⟩
  · rw [if_neg h1] at h
    by_cases h2 : v f = a
    · rw [if_pos h2] at h
      cases h
      exact ⟨h2, fun _ _ => rfl, fun _ _ => rfl⟩
    · rw [if_neg h2] at h
      cases h
def st2 (v : Vl) (f s c : Nat) : Option Vl := (bnd v f (nI (c / 6))).bind (fun v => bnd v s (nI (c % 6)))
theorem nI_nm {n : Nat} (h : n < 2 ^ 31) : nI n ≠ -1 := by
  intro z
  have e : (nI n).toInt = n := Int32.toInt_ofNat_of_lt h
  rw [z] at e
  have : (-1 : Int32).toInt = -1 := rfl
  omega
theorem st2_bd {v v' : Vl} {f s c : Nat} (hc : c < 36) (h : st2 v f s c = some v') : v' f = nI (c / 6) ∧ v' s = nI (c % 6) ∧ (∀ t, v t ≠ -1 → v' t = v t) ∧ ∀ t, t ≠ f → t ≠ s → v' t = v t := by
  unfold st2 at h
  cases h1 : bnd v f (nI (c / 6)) with
  | none => rw [h1] at h; cases h
  | some v1 =>
    rw [h1] at h
    have h : bnd v1 s (nI (c % 6)) = some v' := h
    obtain ⟨a1, a2, a3⟩ := bnd_bd h1
    obtain ⟨b1, b2, b3⟩ := bnd_bd h
    have n1 : v1 f ≠ -1 := by rw [a1]; exact nI_nm (by omega)
    refine ⟨(b2 f n1).trans a1, b1, fun t ht => ?_, fun t h1 h2 => (b3 t h2).trans (a3 t h1)⟩
    have e1 := a2 t ht
    exact (b2 t (by rw [e1]; exact ht)).trans e1
theorem st2_comm {v : Vl} {f s c t : Nat} {x : Int32} (hc : c < 36) (hx : x ≠ -1) : (st2 v f s c).bind (fun v => bnd v t x) = (bnd v t x).bind (fun v => st2 v f s c) := by
  have n1 : nI (c / 6) ≠ -1 := nI_nm (by omega)
  have n2 : nI (c % 6) ≠ -1 := nI_nm (by omega)
  unfold st2
  rw [Option.bind_assoc]
  have e1 : (fun v => (bnd v s (nI (c % 6))).bind (fun v => bnd v t x)) = (fun v => (bnd v t x).bind (fun v => bnd v s (nI (c % 6)))) := by
    funext v
    exact bnd_comm n2 hx
  rw [e1, ← Option.bind_assoc, bnd_comm n1 hx, Option.bind_assoc]
def en : List Lt → Vl → List Vl
  | [], v => [v]
  | p :: xs, v => (List.range 36).flatMap fun c => if p.2.2 c = true then (st2 v p.1 p.2.1 c).elim [] (en xs) else []
def tmO (t : Nat) : Prop := t < 6 ∨ (10 ≤ t ∧ t ≤ 13)
def Ext (v g : Vl) : Prop := ∀ t, tmO t → v t ≠ -1 → g t = v t
theorem bnd_ext {v g : Vl} {f : Nat} {a : Int32} (ha : a ≠ -1) (hf : tmO f) : (∃ v', bnd v f a = some v' ∧ Ext v' g) ↔ Ext v g ∧ g f = a := by
  unfold bnd
  by_cases h1 : v f = -1
  · rw [if_pos h1]
    constructor
    · rintro ⟨v', h, he⟩
      cases h
      refine ⟨fun t ht hv => ?_, ?_⟩
      · have hne : t ≠ f := fun z => hv (z ▸ h1)
        have := he t ht (by rw [upd_o hne]; exact hv)
        rwa [upd_o hne] at this
      · have := he f hf (by rw [upd_s]; exact ha)
        rwa [upd_s] at this
    · rintro ⟨h2, h3⟩
      refine ⟨_, rfl, fun t ht hv => ?_⟩
      by_cases hne : t = f
      · subst hne; rw [upd_s]; exact h3
      · rw [upd_o hne] at hv ⊢
        exact h2 t ht hv
  · rw [if_neg h1]
    by_cases h2 : v f = a
    · rw [if_pos h2]
      constructor
      · rintro ⟨v', h, he⟩
        cases h
        exact ⟨he, (he f hf h1).trans h2⟩
      · rintro ⟨h3, _⟩
        exact ⟨_, rfl, h3⟩
    · rw [if_neg h2]
      constructor
      · rintro ⟨v', h, _⟩
        cases h
      · rintro ⟨h3, h4⟩
        exact absurd ((h3 f hf h1).symm.trans h4) h2
theorem st2_ext {v g : Vl} {f s c : Nat} (hc : c < 36) (hf : tmO f) (hs : tmO s) : (∃ v', st2 v f s c = some v' ∧ Ext v' g) ↔ Ext v g ∧ g f = nI (c / 6) ∧ g s = nI (c % 6) := by
  have n1 : nI (c / 6) ≠ -1 := nI_nm (by omega)
  have n2 : nI (c % 6) ≠ -1 := nI_nm (by omega)
  rw [← and_assoc, ← bnd_ext n1 hf]
  unfold st2
  constructor
  · rintro ⟨v', h, he⟩
    cases h1 : bnd v f (nI (c / 6)) with
    | none => rw [h1] at h; cases h
    | some v1 =>
      rw [h1] at h
      obtain ⟨g1, g2⟩ := (bnd_ext n2 hs).mp ⟨v', h, he⟩
      exact ⟨⟨v1, rfl, g1⟩, g2⟩
  · rintro ⟨⟨v1, h1, g1⟩, g2⟩
    rw [h1]
    exact (bnd_ext n2 hs).mpr ⟨g1, g2⟩
def lk (p : Lt) (g : Vl) : Prop := ∃ c, c < 36 ∧ p.2.2 c = true ∧ g p.1 = nI (c / 6) ∧ g p.2.1 = nI (c % 6)
theorem en_mem {p : Lt} {xs : List Lt} {v γ : Vl} : γ ∈ en (p :: xs) v ↔ ∃ c, c < 36 ∧ p.2.2 c = true ∧ ∃ v', st2 v p.1 p.2.1 c = some v' ∧ γ ∈ en xs v' := by
  show γ ∈ (List.range 36).flatMap _ ↔ _
  rw [List.mem_flatMap]
  constructor
  · rintro ⟨c, hc, h⟩
    rw [List.mem_range] at hc
    by_cases hb : p.2.2 c = true
    · rw [if_pos hb] at h
      cases h1 : st2 v p.1 p.2.1 c with
      | none => rw [h1] at h; exact absurd h List.not_mem_nil
      | some v' => rw [h1] at h; exact ⟨c, hc, hb, v', h1, h⟩
    · rw [if_neg hb] at h
      exact absurd h List.not_mem_nil
  · rintro ⟨c, hc, hb, v', h1, h⟩
    exact ⟨c, List.mem_range.mpr hc, by rw [if_pos hb, h1]; exact h⟩
/-- what a valuation that is left says to one that extends it -/
theorem en_ext {g : Vl} : ∀ (xs : List Lt) (v : Vl), (∀ p ∈ xs, tmO p.1 ∧ tmO p.2.1) → ((∃ γ, γ ∈ en xs v ∧ Ext γ g) ↔ Ext v g ∧ ∀ p ∈ xs, lk p g)
  | [], v, _ => by
    constructor
    · rintro ⟨γ, h, he⟩
      rw [List.mem_singleton.mp h] at he
      exact ⟨he, fun _ h => absurd h List.not_mem_nil⟩
    · rintro ⟨h, _⟩
      exact ⟨v, List.mem_singleton.mpr rfl, h⟩
  | p :: xs, v, ht => by
    obtain ⟨t1, t2⟩ := ht p List.mem_cons_self
    have ih := fun v => en_ext (g := g) xs v (fun q hq => ht q (List.mem_cons_of_mem _ hq))
    constructor
    · rintro ⟨γ, h, he⟩
      obtain ⟨c, hc, hb, v', h1, h2⟩ := en_mem.mp h
      obtain ⟨i1, i2⟩ := (ih v').mp ⟨γ, h2, he⟩
      obtain ⟨j1, j2, j3⟩ := (st2_ext hc t1 t2).mp ⟨v', h1, i1⟩
      exact ⟨j1, List.forall_mem_cons.mpr ⟨⟨c, hc, hb, j2, j3⟩, i2⟩⟩
    · rintro ⟨h1, h2⟩
      obtain ⟨⟨c, hc, hb, j2, j3⟩, h3⟩ := List.forall_mem_cons.mp h2
      obtain ⟨v', k1, k2⟩ := (st2_ext hc t1 t2).mpr ⟨h1, j2, j3⟩
      obtain ⟨γ, m1, m2⟩ := (ih v').mpr ⟨k2, h3⟩
      exact ⟨γ, en_mem.mpr ⟨c, hc, hb, v', k1, m1⟩, m2⟩
/-- a valuation that is left keeps what was bound, and binds all terms -/
theorem en_bd : ∀ (xs : List Lt) (v γ : Vl), γ ∈ en xs v → (∀ t, v t ≠ -1 → γ t = v t) ∧ (∀ p ∈ xs, γ p.1 ≠ -1 ∧ γ p.2.1 ≠ -1) ∧ ∀ t, (∀ p ∈ xs, t ≠ p.1 ∧ t ≠ p.2.1) → γ t = v t
  | [], v, γ, h => by
    rw [List.mem_singleton.mp h]
    exact ⟨fun _ _ => rfl, fun _ h => absurd h List.not_mem_nil, fun _ _ => rfl⟩
  | p :: xs, v, γ, h => by
    obtain ⟨c, hc, hb, v', h1, h2⟩ := en_mem.mp h
    obtain ⟨i1, i2, i3⟩ := en_bd xs v' γ h2
    obtain ⟨j1, j2, j3, j4⟩ := st2_bd hc h1
    have n1 : v' p.1 ≠ -1 := by rw [j1]; exact nI_nm (by omega)
    have n2 : v' p.2.1 ≠ -1 := by rw [j2]; exact nI_nm (by omega)
    refine ⟨fun t ht => ?_, List.forall_mem_cons.mpr ⟨⟨by rw [i1 _ n1]; exact n1, by rw [i1 _ n2]; exact n2⟩, i2⟩, fun t ht => ?_⟩
    · have e := j3 t ht
      exact (i1 t (by rw [e]; exact ht)).trans e
    · obtain ⟨k1, k2⟩ := List.forall_mem_cons.mp ht
      exact (i3 t k2).trans (j4 t k1.1 k1.2)
theorem el_flat {α β : Type} (o : Option α) (l : List Nat) (g : α → Nat → List β) : o.elim [] (fun v => l.flatMap (g v)) = l.flatMap (fun c => o.elim [] (fun v => g v c)) := by
  cases o with
  | none =>
    show [] = l.flatMap (fun _ => [])
    induction l with
    | nil => rfl
    | cons a l ih => rw [List.flatMap_cons, ← ih]; rfl
  | some v => rfl
theorem flat_cong {β : Type} {l : List Nat} {f g : Nat → List β} (h : ∀ c ∈ l, f c = g c) : l.flatMap f = l.flatMap g := by
  induction l with
  | nil => rfl
  | cons a l ih =>
    rw [List.flatMap_cons, List.flatMap_cons, h a List.mem_cons_self, ih (fun c hc => h c (List.mem_cons_of_mem _ hc))]
/-- pinning a term: the valuations that give it a value are those from the value on -/
theorem en_pin {t : Nat} {x : Int32} (hx : x ≠ -1) : ∀ (xs : List Lt) (v : Vl), (v t ≠ -1 ∨ ∃ p ∈ xs, p.1 = t ∨ p.2.1 = t) → (en xs v).filter (fun γ => decide (γ t = x)) = (bnd v t x).elim [] (en xs)
  | [], v, h => by
    have hv : v t ≠ -1 := by
      rcases h with h | ⟨p, hp, _⟩
      · exact h
      · exact absurd hp List.not_mem_nil
    show [v].filter _ = _
    unfold bnd
    rw [if_neg hv]
    by_cases h2 : v t = x
    · rw [if_pos h2, List.filter_cons_of_pos (by simpa using h2)]
      rfl
    · rw [if_neg h2, List.filter_cons_of_neg (by simpa using h2)]
      rfl
  | p :: xs, v, h => by
    show ((List.range 36).flatMap _).filter _ = _
    rw [List.filter_flatMap]
    have e2 : (bnd v t x).elim [] (en (p :: xs)) = (List.range 36).flatMap (fun c => (bnd v t x).elim [] (fun v => if p.2.2 c = true then (st2 v p.1 p.2.1 c).elim [] (en xs) else [])) := el_flat (bnd v t x) (List.range 36) (fun v c => if p.2.2 c = true then (st2 v p.1 p.2.1 c).elim [] (en xs) else [])
    rw [e2]
    apply flat_cong
    intro c hc
    have hc := List.mem_range.mp hc
    by_cases hb : p.2.2 c = true
    · simp only [if_pos hb]
      have e3 : ((st2 v p.1 p.2.1 c).elim [] (en xs)).filter (fun γ => decide (γ t = x)) = ((st2 v p.1 p.2.1 c).bind (fun v => bnd v t x)).elim [] (en xs) := by
        cases h1 : st2 v p.1 p.2.1 c with
        | none => rfl
        | some v' =>
          obtain ⟨j1, j2, j3, j4⟩ := st2_bd hc h1
          refine en_pin hx xs v' ?_
          rcases h with h | ⟨q, hq, h⟩
          · exact Or.inl (by rw [j3 t h]; exact h)
          · rcases List.mem_cons.mp hq with rfl | hq
            · rcases h with rfl | rfl
              · exact Or.inl (by rw [j1]; exact nI_nm (by omega))
              · exact Or.inl (by rw [j2]; exact nI_nm (by omega))
            · exact Or.inr ⟨q, hq, h⟩
      rw [e3, st2_comm hc hx]
      cases bnd v t x with
      | none => rfl
      | some v1 => rfl
    · simp only [if_neg hb]
      cases bnd v t x with
      | none => rfl
      | some v1 => rfl
theorem flat_flat {β : Type} (l : List Nat) (f : Nat → List β) {γ : Type} (g : β → List γ) : (l.flatMap f).flatMap g = l.flatMap (fun c => (f c).flatMap g) := by
  induction l with
  | nil => rfl
  | cons a l ih => rw [List.flatMap_cons, List.flatMap_append, ih, List.flatMap_cons]
theorem en_app (ys : List Lt) : ∀ (xs : List Lt) (v : Vl), en (xs ++ ys) v = (en xs v).flatMap (en ys)
  | [], v => by
    show en ys v = [v].flatMap (en ys)
    rw [List.flatMap_cons]
    exact (List.append_nil _).symm
  | p :: xs, v => by
    show (List.range 36).flatMap _ = ((List.range 36).flatMap _).flatMap _
    rw [flat_flat]
    apply flat_cong
    intro c hc
    by_cases hb : p.2.2 c = true
    · simp only [if_pos hb]
      cases h1 : st2 v p.1 p.2.1 c with
      | none => rfl
      | some v' => exact en_app ys xs v'
    · simp only [if_neg hb]
      rfl
theorem flat_one {β : Type} {f : Nat → List β} {c0 : Nat} : ∀ n, c0 < n → (∀ c, c < n → c ≠ c0 → f c = []) → (List.range n).flatMap f = f c0
  | 0, h, _ => absurd h (Nat.not_lt_zero _)
  | n + 1, h, hz => by
    rw [List.range_succ, List.flatMap_append]
    have e0 : [n].flatMap f = f n := by rw [List.flatMap_cons]; exact List.append_nil _
    rw [e0]
    by_cases hn : c0 = n
    · subst hn
      have : (List.range c0).flatMap f = [] := by
        rw [flat_cong (g := fun _ => []) (fun c hc => hz c (by have := List.mem_range.mp hc; omega) (by have := List.mem_range.mp hc; omega))]
        induction (List.range c0) with
        | nil => rfl
        | cons a l ih => rw [List.flatMap_cons, ih]; rfl
      rw [this]
      rfl
    · rw [flat_one n (by omega) (fun c hc => hz c (by omega)), hz n (by omega) (fun z => hn z.symm)]
      exact List.append_nil _
/-- the valuations are in order: values are themselves, variables free or a value -/
def VK (v : Vl) : Prop := (∀ t, t < 6 → v t = nI t) ∧ ∀ t, 10 ≤ t → t ≤ 13 → v t = -1 ∨ ∃ a, a < 6 ∧ v t = nI a
theorem VK.val {v : Vl} (h : VK v) {t : Nat} (ht : tmO t) (hv : v t ≠ -1) : ∃ a, a < 6 ∧ v t = nI a := by
  rcases ht with ht | ⟨h1, h2⟩
  · exact ⟨t, ht, h.1 t ht⟩
  · rcases h.2 t h1 h2 with h | h
    · exact absurd h hv
    · exact h
theorem st2_VK {v v' : Vl} {f s c : Nat} (hc : c < 36) (h : VK v) (hf : tmO f) (hs : tmO s) (h1 : st2 v f s c = some v') : VK v' := by
  obtain ⟨j1, j2, j3, j4⟩ := st2_bd hc h1
  refine ⟨fun t ht => (j3 t (by rw [h.1 t ht]; exact nI_nm (by omega))).trans (h.1 t ht), fun t h2 h3 => ?_⟩
  by_cases e1 : t = f
  · subst e1; exact Or.inr ⟨c / 6, by omega, j1⟩
  · by_cases e2 : t = s
    · subst e2; exact Or.inr ⟨c % 6, by omega, j2⟩
    · rw [j4 t e1 e2]; exact h.2 t h2 h3
theorem en_VK : ∀ (xs : List Lt) (v γ : Vl), (∀ p ∈ xs, tmO p.1 ∧ tmO p.2.1) → VK v → γ ∈ en xs v → VK γ
  | [], v, γ, _, h, hm => by rw [List.mem_singleton.mp hm]; exact h
  | p :: xs, v, γ, ht, h, hm => by
    obtain ⟨t1, t2⟩ := ht p List.mem_cons_self
    obtain ⟨c, hc, hb, v', h1, h2⟩ := en_mem.mp hm
    exact en_VK xs v' γ (fun q hq => ht q (List.mem_cons_of_mem _ hq)) (st2_VK hc h t1 t2 h1) h2
/-- the cell that two terms name -/
def gc (γ : Vl) (f s : Nat) : Nat := 6 * (γ f).toNatClampNeg + (γ s).toNatClampNeg
theorem gc_c {γ : Vl} {f s c : Nat} (hc : c < 36) (h1 : γ f = nI (c / 6)) (h2 : γ s = nI (c % 6)) : gc γ f s = c := by
  unfold gc
  rw [h1, h2, nI_clamp (n := c / 6) (by omega), nI_clamp (n := c % 6) (by omega)]
  omega
/-- where all terms have values, literals only choose -/
theorem en_all : ∀ (ys : List Lt) (γ : Vl), VK γ → (∀ p ∈ ys, tmO p.1 ∧ tmO p.2.1 ∧ γ p.1 ≠ -1 ∧ γ p.2.1 ≠ -1) → en ys γ = if (∀ p ∈ ys, p.2.2 (gc γ p.1 p.2.1) = true) then [γ] else []
  | [], γ, _, _ => (if_pos (fun _ h => absurd h List.not_mem_nil)).symm
  | p :: ys, γ, hv, h => by
    obtain ⟨t1, t2, b1, b2⟩ := h p List.mem_cons_self
    obtain ⟨a, ha, ea⟩ := hv.val t1 b1
    obtain ⟨b, hb, eb⟩ := hv.val t2 b2
    have hc0 : 6 * a + b < 36 := by omega
    have d1 : (6 * a + b) / 6 = a := by omega
    have d2 : (6 * a + b) % 6 = b := by omega
    have eg : gc γ p.1 p.2.1 = 6 * a + b := gc_c hc0 (by rw [d1]; exact ea) (by rw [d2]; exact eb)
    have e2 : st2 γ p.1 p.2.1 (6 * a + b) = some γ := by
      unfold st2 bnd
      rw [d1, d2, if_neg b1, if_pos ea]
      show (if γ p.2.1 = -1 then _ else if γ p.2.1 = nI b then _ else _) = _
      rw [if_neg b2, if_pos eb]
    show (List.range 36).flatMap _ = _
    rw [flat_one 36 hc0 (fun c hc hne => ?_)]
    · rw [e2]
      show (if p.2.2 (6 * a + b) = true then en ys γ else []) = _
      rw [en_all ys γ hv (fun q hq => h q (List.mem_cons_of_mem _ hq))]
      by_cases h1 : p.2.2 (6 * a + b) = true
      · rw [if_pos h1]
        show (if _ then [γ] else []) = _
        by_cases h2 : ∀ q ∈ ys, q.2.2 (gc γ q.1 q.2.1) = true
        · rw [if_pos h2, if_pos (List.forall_mem_cons.mpr ⟨by rw [eg]; exact h1, h2⟩)]
        · rw [if_neg h2, if_neg (fun z => h2 (List.forall_mem_cons.mp z).2)]
      · rw [if_neg h1, if_neg (fun z => h1 (by rw [← eg]; exact (List.forall_mem_cons.mp z).1))]
    · by_cases h1 : p.2.2 c = true
      · rw [if_pos h1]
        cases h2 : st2 γ p.1 p.2.1 c with
        | none => rfl
        | some v' =>
          obtain ⟨j1, j2, j3, j4⟩ := st2_bd hc h2
          have k1 := (j3 _ b1).symm.trans j1
          have k2 := (j3 _ b2).symm.trans j2
          exact absurd ((gc_c hc k1 k2).symm.trans eg) hne
      · rw [if_neg h1]
