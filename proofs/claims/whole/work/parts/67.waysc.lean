/-! counting: both sides count the same valuations -/
theorem flat_filter {l : List Vl} {P : Vl → Bool} {g : Vl → List Vl} (h : ∀ γ ∈ l, g γ = if P γ = true then [γ] else []) : l.flatMap g = l.filter P := by
  induction l with
  | nil => rfl
  | cons a l ih =>
    rw [List.flatMap_cons, h a List.mem_cons_self, ih (fun γ hγ => h γ (List.mem_cons_of_mem _ hγ))]
    by_cases hp : P a = true
    · rw [if_pos hp, List.filter_cons_of_pos hp]; rfl
    · rw [if_neg hp, List.filter_cons_of_neg hp]; rfl
theorem st2_pin {xs : List Lt} {v : Vl} {f s c : Nat} (hc : c < 36) (bf : v f ≠ -1 ∨ ∃ p ∈ xs, p.1 = f ∨ p.2.1 = f) (bs : v s ≠ -1 ∨ ∃ p ∈ xs, p.1 = s ∨ p.2.1 = s) : (st2 v f s c).elim [] (en xs) = ((en xs v).filter (fun γ => decide (γ f = nI (c / 6)))).filter (fun γ => decide (γ s = nI (c % 6))) := by
  have n1 : nI (c / 6) ≠ -1 := nI_nm (by omega)
  have n2 : nI (c % 6) ≠ -1 := nI_nm (by omega)
  rw [en_pin n1 xs v bf]
  unfold st2
  cases h1 : bnd v f (nI (c / 6)) with
  | none => rfl
  | some v' =>
    obtain ⟨a1, a2, a3⟩ := bnd_bd h1
    show (bnd v' s (nI (c % 6))).elim [] (en xs) = (en xs v').filter _
    rw [en_pin n2 xs v' (by
      rcases bs with h | h
      · exact Or.inl (by rw [a2 s h]; exact h)
      · exact Or.inr h)]
def ltP (S : Nat → Nat → Bool) (p : Li) : Lt := (p.2.1, p.2.2, S p.1)
/-- the body's positive literals stand first -/
def cSo (M : mM) (i : Nat) : Prop := ∃ np, np ≤ rln M i ∧ (∀ j, j < np → M (15 + 6 * i + j) 3 = 0) ∧ ∀ j, np ≤ j → j < rln M i → ¬ M (15 + 6 * i + j) 3 = 0
theorem flt_all {p : Nat → Bool} {l : List Nat} (h : ∀ j ∈ l, p j = true) : l.filter p = l := List.filter_eq_self.mpr h
theorem flt_no {p : Nat → Bool} {l : List Nat} (h : ∀ j ∈ l, p j = false) : l.filter p = [] := List.filter_eq_nil_iff.mpr (fun a ha => by rw [h a ha]; decide)
theorem clC_pn {M : mM} {L : mL} {i : Nat} (hS : cSo M i) : clC M L i (rln M i) (rln M i) = (cPos M i).map (ltP (fun r c => lb (L 8 r) c)) ++ (cNeg M i).map (ltP (fun r c => lb (L 8 r ^^^ (-1)) c)) := by
  obtain ⟨np, h1, h2, h3⟩ := hS
  have e : List.range (rln M i) = List.range' 0 np ++ List.range' np (rln M i - np) := by
    rw [List.range_eq_range', show List.range' np (rln M i - np) = List.range' (0 + 1 * np) (rln M i - np) by rw [Nat.one_mul, Nat.zero_add], List.range'_append, show np + (rln M i - np) = rln M i by omega]
  have m1 : ∀ j ∈ List.range' 0 np, j < np := fun j hj => by have := List.mem_range'_1.mp hj; omega
  have m2 : ∀ j ∈ List.range' np (rln M i - np), np ≤ j ∧ j < rln M i := fun j hj => by have := List.mem_range'_1.mp hj; omega
  rw [clC_all]
  unfold cPos cNeg
  rw [e, List.filter_append, List.filter_append, flt_all (fun j hj => decide_eq_true (h2 j (m1 j hj))), flt_no (l := List.range' np (rln M i - np)) (fun j hj => decide_eq_false (h3 j (m2 j hj).1 (m2 j hj).2)), flt_no (l := List.range' 0 np) (fun j hj => decide_eq_false (fun z => z (h2 j (m1 j hj)))), flt_all (l := List.range' np (rln M i - np)) (fun j hj => decide_eq_true (h3 j (m2 j hj).1 (m2 j hj).2)), List.append_nil, List.nil_append, List.map_append, List.map_map, List.map_map]
  congr 1
  · apply List.map_congr_left
    intro j hj
    show (_, _, _) = (_, _, _)
    unfold hld
    rw [if_pos (h2 j (m1 j hj))]
    rfl
  · apply List.map_congr_left
    intro j hj
    show (_, _, _) = (_, _, _)
    unfold hld
    rw [if_neg (h3 j (m2 j hj).1 (m2 j hj).2)]
    rfl
/-- negated literals hold, and the head is a cell -/
def Pnh (S : Nat → Nat → Bool) (ns : List Li) (h : Li) (c : Nat) (γ : Vl) : Bool := (ns.all fun x => !S x.1 (gc γ x.2.1 x.2.2)) && decide (gc γ h.2.1 h.2.2 = c)
theorem tmO_p {M : mM} {i : Nat} (hW : wR M i) : (∀ p ∈ cPos M i, p.1 < 14 ∧ tmO p.2.1 ∧ tmO p.2.2) ∧ ∀ p ∈ cNeg M i, p.1 < 14 ∧ tmO p.2.1 ∧ tmO p.2.2 := by
  have h3 := rln_3 hW
  have key : ∀ j, j < rln M i → (cLi M (15 + 6 * i + j)).1 < 14 ∧ tmO (cLi M (15 + 6 * i + j)).2.1 ∧ tmO (cLi M (15 + 6 * i + j)).2.2 := fun j hj => by
    obtain ⟨w1, w2, w3, w4⟩ := hW.2.2.2 j (by omega)
    exact ⟨cl_lt w1, tmok_O w2, tmok_O w3⟩
  refine ⟨fun p hp => ?_, fun p hp => ?_⟩
  · obtain ⟨j, hj, _, rfl⟩ := cPos_mem.mp hp
    exact key j hj
  · obtain ⟨j, hj, _, rfl⟩ := cNeg_mem.mp hp
    exact key j hj
/-- safety: the terms of head and negated literals stand in positive ones -/
def cSf (M : mM) (i : Nat) : Prop := ∀ x ∈ cLi M (13 + 6 * i) :: cNeg M i, ∀ t, (t = x.2.1 ∨ t = x.2.2) → t < 6 ∨ ∃ p ∈ cPos M i, p.2.1 = t ∨ p.2.2 = t
theorem cSf_S {M : mM} {i : Nat} (h : cSf M i) : cS M i := by
  have key : ∀ t, (t = (cLi M (13 + 6 * i)).2.1 ∨ t = (cLi M (13 + 6 * i)).2.2) → cTm M i t := by
    intro t ht
    rcases h _ List.mem_cons_self t ht with g | ⟨p, hp, g⟩
    · exact Or.inl g
    · obtain ⟨j, hj, _, rfl⟩ := cPos_mem.mp hp
      exact Or.inr ⟨j, hj, g⟩
  exact ⟨key _ (Or.inl rfl), key _ (Or.inr rfl)⟩
/-- the class's number of instances -/
theorem cin_len {M : mM} {L : mL} {i c : Nat} (hW : wR M i) (hV : VR (M 104)) (hS : cSf M i) (hO : cSo M i) (hc : c < 36) : cin M L i c = nI ((en ((cPos M i).map (ltP (fun r c => lb (L 8 r) c))) (M 104)).filter (Pnh (fun r c => lb (L 8 r) c) (cNeg M i) (cLi M (13 + 6 * i)) c)).length := by
  have h3 := rln_3 hW
  have hh := hW.2.2.1
  have th1 : tmO (tmn M (13 + 6 * i) 1) := tmok_O hh.2.1
  have th2 : tmO (tmn M (13 + 6 * i) 2) := tmok_O hh.2.2.1
  have tb : ∀ j, j < 3 → tmO (tmn M (15 + 6 * i + j) 1) ∧ tmO (tmn M (15 + 6 * i + j) 2) := fun j hj => by
    obtain ⟨w1, w2, w3, w4⟩ := hW.2.2.2 j hj
    exact ⟨tmok_O w2, tmok_O w3⟩
  obtain ⟨tp, tn⟩ := tmO_p hW
  have b1 := cTm_bd (L := L) (v := M 104) hV.1 (cSf_S hS).1
  have b2 := cTm_bd (L := L) (v := M 104) hV.1 (cSf_S hS).2
  have e1 : cin M L i c = nI ((st2 (M 104) (tmn M (13 + 6 * i) 1) (tmn M (13 + 6 * i) 2) c).elim [] (en (clC M L i (rln M i) (rln M i)))).length := by
    unfold cin
    have hb := b6_st2 (v := M 104) (f := tmn M (13 + 6 * i) 1) (s := tmn M (13 + 6 * i) 2) hc
    by_cases g1 : bdv (M 104) (tmn M (13 + 6 * i) 1) (c6 c) (tmn M (13 + 6 * i) 1) = c6 c
    · rw [if_pos g1] at hb
      by_cases g2 : b6 (M 104) (tmn M (13 + 6 * i) 1) (tmn M (13 + 6 * i) 2) c (tmn M (13 + 6 * i) 2) = r6 c
      · rw [if_pos g2] at hb
        rw [if_pos ⟨g1, g2⟩, hb, mmt_en tb h3 (rln M i) _ _ (Nat.le_refl _) (st2_VK hc hV.K th1 th2 hb)]
        rfl
      · rw [if_neg g2] at hb
        rw [if_neg (fun z => g2 z.2), hb]
        rfl
    · rw [if_neg g1] at hb
      rw [if_neg (fun z => g1 z.1), hb]
      rfl
  rw [e1, st2_pin hc b1 b2, clC_pn hO, en_app]
  congr 2
  have hvk : ∀ γ, γ ∈ en ((cPos M i).map (ltP (fun r c => lb (L 8 r) c))) (M 104) → VK γ := fun γ hγ => en_VK _ _ γ (fun p hp => by
    obtain ⟨x, hx, rfl⟩ := List.mem_map.mp hp
    exact (tp x hx).2) hV.K hγ
  have hbd : ∀ γ, γ ∈ en ((cPos M i).map (ltP (fun r c => lb (L 8 r) c))) (M 104) → ∀ x ∈ cLi M (13 + 6 * i) :: cNeg M i, γ x.2.1 ≠ -1 ∧ γ x.2.2 ≠ -1 := by
    intro γ hγ x hx
    obtain ⟨i1, i2, i3⟩ := en_bd _ _ γ hγ
    have key : ∀ t, (t < 6 ∨ ∃ p ∈ cPos M i, p.2.1 = t ∨ p.2.2 = t) → γ t ≠ -1 := by
      intro t ht
      rcases ht with g | ⟨p, hp, rfl | rfl⟩
      · rw [i1 t (by rw [hV.1 t g]; exact nI_nm (by omega)), hV.1 t g]; exact nI_nm (by omega)
      · exact (i2 _ (List.mem_map.mpr ⟨p, hp, rfl⟩)).1
      · exact (i2 _ (List.mem_map.mpr ⟨p, hp, rfl⟩)).2
    exact ⟨key _ (hS x hx _ (Or.inl rfl)), key _ (hS x hx _ (Or.inr rfl))⟩
  rw [flat_filter (P := fun γ => (cNeg M i).all fun x => !lb (L 8 x.1) (gc γ x.2.1 x.2.2)) (fun γ hγ => ?_)]
  · rw [List.filter_filter, List.filter_filter]
    apply List.filter_congr
    intro γ hγ
    obtain ⟨g1, g2⟩ := hbd γ hγ _ List.mem_cons_self
    obtain ⟨a, ha, ea⟩ := (hvk γ hγ).val th1 g1
    obtain ⟨b, hb, eb⟩ := (hvk γ hγ).val th2 g2
    have eg : gc γ (cLi M (13 + 6 * i)).2.1 (cLi M (13 + 6 * i)).2.2 = 6 * a + b := by
      unfold gc
      show 6 * (γ (tmn M (13 + 6 * i) 1)).toNatClampNeg + (γ (tmn M (13 + 6 * i) 2)).toNatClampNeg = _
      rw [ea, eb, nI_clamp (n := a) (by omega), nI_clamp (n := b) (by omega)]
    unfold Pnh
    rw [eg, ea, eb]
    have d1 : (nI a = nI (c / 6)) ↔ a = c / 6 := nI_eq (by omega) (by omega)
    have d2 : (nI b = nI (c % 6)) ↔ b = c % 6 := nI_eq (by omega) (by omega)
    have : (decide (nI b = nI (c % 6)) && decide (nI a = nI (c / 6))) = decide (6 * a + b = c) := by
      rw [Bool.eq_iff_iff, Bool.and_eq_true, decide_eq_true_iff, decide_eq_true_iff, decide_eq_true_iff, d1, d2]
      omega
    rw [← this]
    cases decide (nI b = nI (c % 6)) <;> cases decide (nI a = nI (c / 6)) <;> cases ((cNeg M i).all fun x => !lb (L 8 x.1) (gc γ x.2.1 x.2.2)) <;> rfl
  · have hg := hvk γ hγ
    rw [en_all _ γ hg (fun p hp => by
      obtain ⟨x, hx, rfl⟩ := List.mem_map.mp hp
      obtain ⟨_, t1, t2⟩ := tn x hx
      exact ⟨t1, t2, hbd γ hγ x (List.mem_cons_of_mem _ hx)⟩)]
    have key : (∀ p ∈ (cNeg M i).map (ltP (fun r c => lb (L 8 r ^^^ (-1)) c)), p.2.2 (gc γ p.1 p.2.1) = true) ↔ ((cNeg M i).all fun x => !lb (L 8 x.1) (gc γ x.2.1 x.2.2)) = true := by
      rw [List.all_eq_true]
      constructor
      · intro h x hx
        have h1 : lb (L 8 x.1 ^^^ (-1)) (gc γ x.2.1 x.2.2) = true := h _ (List.mem_map.mpr ⟨x, hx, rfl⟩)
        obtain ⟨_, t1, t2⟩ := tn x hx
        obtain ⟨g1, g2⟩ := hbd γ hγ x (List.mem_cons_of_mem _ hx)
        obtain ⟨a, ha, ea⟩ := hg.val t1 g1
        obtain ⟨b, hb, eb⟩ := hg.val t2 g2
        have : gc γ x.2.1 x.2.2 < 64 := by
          unfold gc
          rw [ea, eb, nI_clamp (n := a) (by omega), nI_clamp (n := b) (by omega)]
          omega
        rw [lb_not this] at h1
        exact h1
      · intro h p hp
        obtain ⟨x, hx, rfl⟩ := List.mem_map.mp hp
        have h1 := h x hx
        obtain ⟨_, t1, t2⟩ := tn x hx
        obtain ⟨g1, g2⟩ := hbd γ hγ x (List.mem_cons_of_mem _ hx)
        obtain ⟨a, ha, ea⟩ := hg.val t1 g1
        obtain ⟨b, hb, eb⟩ := hg.val t2 g2
        have : gc γ x.2.1 x.2.2 < 64 := by
          unfold gc
          rw [ea, eb, nI_clamp (n := a) (by omega), nI_clamp (n := b) (by omega)]
          omega
        show lb (L 8 x.1 ^^^ (-1)) (gc γ x.2.1 x.2.2) = true
        rw [lb_not this]
        exact h1
    by_cases h : ((cNeg M i).all fun x => !lb (L 8 x.1) (gc γ x.2.1 x.2.2)) = true
    · rw [if_pos (key.mpr h), if_pos h]
    · rw [if_neg (fun z => h (key.mp z)), if_neg h]
