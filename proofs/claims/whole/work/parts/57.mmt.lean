/-! the class's matching is en -/
theorem c6r_e : ∀ c, c < 36 → c6 c = nI (c / 6) ∧ r6 c = nI (c % 6) := by decide +kernel
theorem bdv_bnd {v : Vl} {f : Nat} {x : Int32} : bnd v f x = if bdv v f x f = x then some (bdv v f x) else none := by
  unfold bnd bdv
  by_cases h : v f = -1
  · rw [if_pos h, if_pos h, if_pos upd_s]
  · rw [if_neg h, if_neg h]
theorem b6_st2 {v : Vl} {f s c : Nat} (hc : c < 36) : st2 v f s c = if bdv v f (c6 c) f = c6 c then (if b6 v f s c s = r6 c then some (b6 v f s c) else none) else none := by
  unfold st2 b6
  rw [← (c6r_e c hc).1, ← (c6r_e c hc).2, bdv_bnd]
  by_cases h : bdv v f (c6 c) f = c6 c
  · rw [if_pos h, if_pos h]
    show bnd _ s _ = _
    rw [bdv_bnd]
  · rw [if_neg h, if_neg h]
    rfl
def orL (f s : Nat) (ρ : Int64) (l : List Vl) : Int64 := l.foldl (fun (ρ : Int64) γ => ρ ||| ((1 : Int64) <<< ((γ f * 6 + γ s).toInt64 &&& 63))) ρ
theorem orL_app {f s : Nat} {ρ : Int64} {l l' : List Vl} : orL f s ρ (l ++ l') = orL f s (orL f s ρ l) l' := List.foldl_append
theorem nI_add3 {x : Int32} {a b : Nat} : x + nI a + nI b = x + nI (a + b) := by rw [Int32.add_assoc, nI_ad]
theorem mml_en {g : Vl → Int64 → Int32 × Int64} {E : Vl → List Vl} {h : Int64} {v : Vl} {f s hf hs : Nat} (hg : ∀ v' ρ, (∃ c, c < 36 ∧ st2 v f s c = some v') → g v' ρ = (nI (E v').length, orL hf hs ρ (E v'))) : ∀ (n c : Nat) (a : Int32 × Int64), c + n ≤ 36 →
    mml g h v f s n c a = (a.1 + nI ((List.range' c n).flatMap (fun c => if lb h c = true then (st2 v f s c).elim [] E else [])).length, orL hf hs a.2 ((List.range' c n).flatMap (fun c => if lb h c = true then (st2 v f s c).elim [] E else [])))
  | 0, c, a, _ => by
    show a = (a.1 + nI 0, a.2)
    rw [show nI 0 = 0 from rfl, Int32.add_zero]
  | n + 1, c, a, hc => by
    unfold mml
    rw [mml_en hg n (c + 1) _ (by omega), List.range'_succ, List.flatMap_cons, List.length_append, orL_app]
    have hu : ub h (nI c) = 0 ↔ lb h c = false := lb_ub (by omega)
    by_cases h1 : lb h c = true
    · have h0 : ¬ ub h (nI c) = 0 := fun z => by rw [hu.mp z] at h1; cases h1
      rw [if_neg h0, if_pos h1, b6_st2 (by omega)]
      by_cases h2 : bdv v f (c6 c) f = c6 c
      · rw [if_pos h2, if_pos h2]
        by_cases h3 : b6 v f s c s = r6 c
        · rw [if_pos h3, if_pos h3]
          have e := fun ρ => hg (b6 v f s c) ρ ⟨c, by omega, by rw [b6_st2 (by omega), if_pos h2, if_pos h3]⟩
          rw [e a.2]
          show (a.1 + nI (E (b6 v f s c)).length + nI _, _) = (a.1 + nI ((E (b6 v f s c)).length + _), _)
          rw [nI_add3]
          rfl
        · rw [if_neg h3, if_neg h3]
          show _ = (a.1 + nI (0 + _), _)
          rw [Nat.zero_add]
          rfl
      · rw [if_neg h2, if_neg h2]
        show _ = (a.1 + nI (0 + _), _)
        rw [Nat.zero_add]
        rfl
    · rw [if_pos (hu.mpr (ts_nt h1)), if_neg h1]
      show _ = (a.1 + nI (0 + _), _)
      rw [Nat.zero_add]
      rfl
theorem flat_nil {β : Type} {f : Nat → List β} {l : List Nat} (h : ∀ c ∈ l, f c = []) : l.flatMap f = [] := by
  induction l with
  | nil => rfl
  | cons a l ih => rw [List.flatMap_cons, h a List.mem_cons_self, ih (fun c hc => h c (List.mem_cons_of_mem _ hc))]; rfl
theorem rng36 : ∀ a, a < 6 → List.range 36 = List.range' 0 (6 * a) ++ (List.range' (6 * a) 6 ++ List.range' (6 * a + 6) (30 - 6 * a)) := by decide
/-- only the row of a bound first term is walked: the others leave nothing -/
theorem row_all {v : Vl} {f s : Nat} {h : Int64} {E : Vl → List Vl} (hv : VK v) (hf : tmO f) : (List.range' (c0v v f) (cnv v f)).flatMap (fun c => if lb h c = true then (st2 v f s c).elim [] E else []) = (List.range 36).flatMap (fun c => if lb h c = true then (st2 v f s c).elim [] E else []) ∧ c0v v f + cnv v f ≤ 36 := by
  unfold c0v cnv
  by_cases h1 : v f = -1
  · rw [if_pos h1, if_pos h1, List.range_eq_range']
    exact ⟨rfl, by decide⟩
  · rw [if_neg h1, if_neg h1]
    obtain ⟨a, ha, ea⟩ := hv.val hf h1
    rw [ea, nI_clamp (n := a) (by omega), Nat.mul_comm a 6, rng36 a ha, List.flatMap_append, List.flatMap_append]
    have z : ∀ c, c < 36 → c / 6 ≠ a → (if lb h c = true then (st2 v f s c).elim [] E else []) = [] := by
      intro c hc hne
      by_cases hb : lb h c = true
      · rw [if_pos hb]
        have : st2 v f s c = none := by
          unfold st2 bnd
          rw [if_neg h1, if_neg (fun z => hne ?_)]
          · rfl
          · rw [ea] at z
            exact ((nI_eq (a := a) (b := c / 6) (by omega) (by omega)).mp z).symm
        rw [this]
        rfl
      · rw [if_neg hb]
    refine ⟨?_, by omega⟩
    rw [flat_nil (l := List.range' 0 (6 * a)) (fun c hc => z c (by have := List.mem_range'_1.mp hc; omega) (by have := List.mem_range'_1.mp hc; omega)), flat_nil (l := List.range' (6 * a + 6) (30 - 6 * a)) (fun c hc => z c (by have := List.mem_range'_1.mp hc; omega) (by have := List.mem_range'_1.mp hc; omega)), List.append_nil]
    rfl
def ltC (M : mM) (L : mL) (k : Nat) : Lt := (tmn M k 1, tmn M k 2, fun c => lb (hld M L k) c)
def clC (M : mM) (L : mL) (i len : Nat) : Nat → List Lt
  | 0 => []
  | d + 1 => ltC M L (15 + 6 * i + (len - (d + 1))) :: clC M L i len d
theorem mmt_en {M : mM} {L : mL} {i len : Nat} (ht : ∀ j, j < 3 → tmO (tmn M (15 + 6 * i + j) 1) ∧ tmO (tmn M (15 + 6 * i + j) 2)) (hlen : len ≤ 3) : ∀ (d : Nat) (v : Vl) (ρ : Int64), d ≤ len → VK v → mmt M L i len d v ρ = (nI (en (clC M L i len d) v).length, orL (tmn M (13 + 6 * i) 1) (tmn M (13 + 6 * i) 2) ρ (en (clC M L i len d) v))
  | 0, v, ρ, _, _ => rfl
  | d + 1, v, ρ, hd, hv => by
    obtain ⟨t1, t2⟩ := ht (len - (d + 1)) (by omega)
    unfold mmt
    obtain ⟨r1, r2⟩ := row_all (s := tmn M (15 + 6 * i + (len - (d + 1))) 2) (h := hld M L (15 + 6 * i + (len - (d + 1)))) (E := en (clC M L i len d)) hv t1
    rw [mml_en (E := en (clC M L i len d)) (hf := tmn M (13 + 6 * i) 1) (hs := tmn M (13 + 6 * i) 2) (fun v' ρ' hx => ?_) _ _ _ r2, r1]
    · show ((0 : Int32) + nI _, _) = _
      rw [Int32.zero_add]
      rfl
    · obtain ⟨c, hc, h1⟩ := hx
      exact mmt_en ht hlen d v' ρ' (by omega) (st2_VK hc hv t1 t2 h1)
theorem clC_map {M : mM} {L : mL} {i len : Nat} : ∀ d, d ≤ len → clC M L i len d = (List.range' (len - d) d).map (fun j => ltC M L (15 + 6 * i + j))
  | 0, _ => rfl
  | d + 1, h => by
    unfold clC
    rw [clC_map d (by omega), List.range'_succ, List.map_cons, show len - (d + 1) + 1 = len - d by omega]
theorem clC_all {M : mM} {L : mL} {i len : Nat} : clC M L i len len = (List.range len).map (fun j => ltC M L (15 + 6 * i + j)) := by
  rw [clC_map len (Nat.le_refl _), Nat.sub_self, List.range_eq_range']
/-- the cells that the valuations give to the head are noted -/
theorem orL_lb {f s : Nat} : ∀ (l : List Vl) (ρ : Int64), (∀ γ ∈ l, (∃ a, a < 6 ∧ γ f = nI a) ∧ ∃ b, b < 6 ∧ γ s = nI b) → ∀ c, c < 64 → (lb (orL f s ρ l) c = true ↔ lb ρ c = true ∨ ∃ γ ∈ l, gc γ f s = c)
  | [], ρ, _, c, _ => ⟨fun h => Or.inl h, fun h => by
    rcases h with h | ⟨γ, hγ, _⟩
    · exact h
    · exact absurd hγ List.not_mem_nil⟩
  | γ :: l, ρ, h, c, hc => by
    obtain ⟨⟨a, ha, ea⟩, b, hb, eb⟩ := h γ List.mem_cons_self
    have e : γ f * 6 + γ s = nI (6 * a + b) := by
      rw [ea, eb, show (6 : Int32) = nI 6 from rfl, show nI a * nI 6 = nI (a * 6) from (Int32.ofNat_mul a 6).symm, nI_ad, Nat.mul_comm]
    have eg : gc γ f s = 6 * a + b := by
      unfold gc
      rw [ea, eb, nI_clamp (n := a) (by omega), nI_clamp (n := b) (by omega)]
    have ih := orL_lb l (ρ ||| (1 <<< ((γ f * 6 + γ s).toInt64 &&& 63))) (fun γ hγ => h γ (List.mem_cons_of_mem _ hγ)) c hc
    show lb (orL f s (ρ ||| (1 <<< ((γ f * 6 + γ s).toInt64 &&& 63))) l) c = true ↔ _
    rw [ih, lb_or, e, lb_one _ (by omega) c hc, Bool.or_eq_true, decide_eq_true_iff]
    constructor
    · rintro ((h1 | h1) | ⟨γ', h1, h2⟩)
      · exact Or.inl h1
      · exact Or.inr ⟨γ, List.mem_cons_self, eg.trans h1.symm⟩
      · exact Or.inr ⟨γ', List.mem_cons_of_mem _ h1, h2⟩
    · rintro (h1 | ⟨γ', h1, h2⟩)
      · exact Or.inl (Or.inl h1)
      · rcases List.mem_cons.mp h1 with rfl | h1
        · exact Or.inl (Or.inr (h2.symm.trans eg))
        · exact Or.inr ⟨γ', h1, h2⟩
/-! valuations and assignments -/
def gs' (σ : Nat → Nat) : Vl := fun t => if t < 10 then nI t else nI (σ t)
theorem gs_vl {σ : Nat → Nat} {t : Nat} : gs' σ t = nI (vl σ t) := by
  unfold gs' vl
  split <;> rfl
theorem vl_6 {σ : Nat → Nat} (hσ : ∀ t, σ t < 6) {t : Nat} (ht : tmO t) : vl σ t < 6 := by
  unfold vl
  rcases ht with h | h
  · rw [if_pos (by omega)]; exact h
  · rw [if_neg (by omega)]; exact hσ t
theorem cv_36 {σ : Nat → Nat} (hσ : ∀ t, σ t < 6) {x : Li} (h1 : tmO x.2.1) (h2 : tmO x.2.2) : cv σ x < 36 := by
  have := vl_6 hσ h1
  have := vl_6 hσ h2
  unfold cv
  omega
theorem lk_cv {σ : Nat → Nat} (hσ : ∀ t, σ t < 6) {p : Lt} {r : Nat} (h1 : tmO p.1) (h2 : tmO p.2.1) : lk p (gs' σ) ↔ p.2.2 (cv σ (r, p.1, p.2.1)) = true := by
  have a1 := vl_6 hσ h1
  have a2 := vl_6 hσ h2
  unfold lk cv
  rw [gs_vl, gs_vl]
  constructor
  · rintro ⟨c, hc, hb, e1, e2⟩
    have e1 := (nI_eq (a := vl σ p.1) (b := c / 6) (by omega) (by omega)).mp e1
    have e2 := (nI_eq (a := vl σ p.2.1) (b := c % 6) (by omega) (by omega)).mp e2
    show p.2.2 (6 * vl σ p.1 + vl σ p.2.1) = true
    rw [e1, e2, show 6 * (c / 6) + c % 6 = c by omega]
    exact hb
  · intro h
    have h : p.2.2 (6 * vl σ p.1 + vl σ p.2.1) = true := h
    refine ⟨6 * vl σ p.1 + vl σ p.2.1, by omega, h, ?_, ?_⟩
    · rw [show (6 * vl σ p.1 + vl σ p.2.1) / 6 = vl σ p.1 by omega]
    · rw [show (6 * vl σ p.1 + vl σ p.2.1) % 6 = vl σ p.2.1 by omega]
theorem gs_ext {v : Vl} (hv : VK v) : ∃ σ : Nat → Nat, (∀ t, σ t < 6) ∧ Ext v (gs' σ) := by
  have h : ∀ t, ∃ a, a < 6 ∧ (10 ≤ t → t ≤ 13 → v t ≠ -1 → v t = nI a) := by
    intro t
    by_cases h1 : 10 ≤ t ∧ t ≤ 13 ∧ v t ≠ -1
    · obtain ⟨a, ha, ea⟩ := hv.val (Or.inr ⟨h1.1, h1.2.1⟩) h1.2.2
      exact ⟨a, ha, fun _ _ _ => ea⟩
    · exact ⟨0, by decide, fun a b c => absurd ⟨a, b, c⟩ h1⟩
  refine ⟨fun t => Classical.choose (h t), fun t => (Classical.choose_spec (h t)).1, fun t ht hn => ?_⟩
  unfold gs'
  rcases ht with h1 | ⟨h1, h2⟩
  · rw [if_pos (by omega)]; exact (hv.1 t h1).symm
  · rw [if_neg (by omega)]
    exact ((Classical.choose_spec (h t)).2 h1 h2 hn).symm
theorem gc_cv {σ : Nat → Nat} (hσ : ∀ t, σ t < 6) {γ : Vl} {r f s : Nat} (he : Ext γ (gs' σ)) (h1 : tmO f) (h2 : tmO s) (b1 : γ f ≠ -1) (b2 : γ s ≠ -1) : gc γ f s = cv σ (r, f, s) := by
  have a1 := vl_6 hσ h1
  have a2 := vl_6 hσ h2
  unfold gc cv
  rw [← he f h1 b1, ← he s h2 b2, gs_vl, gs_vl, nI_clamp (n := vl σ f) (by omega), nI_clamp (n := vl σ s) (by omega)]
/-- what all valuations that are left give to the head: what some assignment gives that makes all literals hold -/
theorem en_hd {xs : List Lt} {v : Vl} {r f s c : Nat} (ht : ∀ p ∈ xs, tmO p.1 ∧ tmO p.2.1) (hv : VK v) (hf : tmO f) (hs : tmO s) (bf : v f ≠ -1 ∨ ∃ p ∈ xs, p.1 = f ∨ p.2.1 = f) (bs : v s ≠ -1 ∨ ∃ p ∈ xs, p.1 = s ∨ p.2.1 = s) :
    (∃ γ ∈ en xs v, gc γ f s = c) ↔ ∃ σ : Nat → Nat, (∀ t, σ t < 6) ∧ Ext v (gs' σ) ∧ (∀ p ∈ xs, lk p (gs' σ)) ∧ c = cv σ (r, f, s) := by
  have bd : ∀ γ, γ ∈ en xs v → ∀ t, (v t ≠ -1 ∨ ∃ p ∈ xs, p.1 = t ∨ p.2.1 = t) → γ t ≠ -1 := by
    intro γ hγ t h
    obtain ⟨i1, i2, i3⟩ := en_bd xs v γ hγ
    rcases h with h | ⟨p, hp, rfl | rfl⟩
    · rw [i1 t h]; exact h
    · exact (i2 p hp).1
    · exact (i2 p hp).2
  constructor
  · rintro ⟨γ, hγ, hc⟩
    obtain ⟨σ, hσ, he⟩ := gs_ext (en_VK xs v γ ht hv hγ)
    obtain ⟨e1, e2⟩ := (en_ext xs v ht).mp ⟨γ, hγ, he⟩
    exact ⟨σ, hσ, e1, e2, hc.symm.trans (gc_cv hσ he hf hs (bd γ hγ f bf) (bd γ hγ s bs))⟩
  · rintro ⟨σ, hσ, e1, e2, hc⟩
    obtain ⟨γ, hγ, he⟩ := (en_ext xs v ht).mpr ⟨e1, e2⟩
    exact ⟨γ, hγ, (gc_cv hσ he hf hs (bd γ hγ f bf) (bd γ hγ s bs)).trans hc.symm⟩
