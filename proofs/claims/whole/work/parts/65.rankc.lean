/-! both sides find the least ranking -/
def Tn (t : Vl) (f : Nat → Nat) : Prop := ∀ r, r < 14 → t r = nI (f r)
def updN (f : Nat → Nat) (k x : Nat) : Nat → Nat := fun j => if j = k then x else f j
theorem updN_s {f : Nat → Nat} {k x : Nat} : updN f k x k = x := if_pos rfl
theorem updN_o {f : Nat → Nat} {k j x : Nat} (h : j ≠ k) : updN f k x j = f j := if_neg h
theorem Tn.upd {t : Vl} {f : Nat → Nat} (h : Tn t f) (k x : Nat) : Tn (upd t k (nI x)) (updN f k x) := by
  intro r hr
  by_cases e : r = k
  · subst e; rw [upd_s, updN_s]
  · rw [upd_o e, updN_o e]; exact h r hr
theorem nI_lt_iff {a b : Nat} (ha : a < 2 ^ 31) (hb : b < 2 ^ 31) : nI a < nI b ↔ a < b := by
  constructor
  · intro h
    exact Nat.not_le.mp fun z => nI_nlt (a := a) (b := b) z ha h
  · intro h; exact nI_lt h hb
theorem nI_le_iff {a b : Nat} (ha : a < 2 ^ 31) (hb : b < 2 ^ 31) : nI a ≤ nI b ↔ a ≤ b := by
  constructor
  · intro h
    exact Nat.not_lt.mp fun z => nI_ge (a := b) (b := a) z ha h
  · intro h; exact nI_le h hb
/-! the class -/
def ng1 (x : Int32) : Nat := if x = 0 then 0 else 1
def cDi (M : mM) (i : Nat) : Cst := fun h b n => h = rhd M i ∧ ∃ j, j < rln M i ∧ b = (M (15 + 6 * i + j) 0).toNatClampNeg ∧ n = ng1 (M (15 + 6 * i + j) 3)
def cC (M : mM) : Cst := fun h b n => ∃ i, i < 14 ∧ ¬ M (12 + 6 * i) 4 = 0 ∧ cDi M i h b n
def mxb (M : mM) (f : Nat → Nat) (i : Nat) : Nat → Nat
  | 0 => 0
  | j + 1 => max (mxb M f i j) (f (M (15 + 6 * i + j) 0).toNatClampNeg + ng1 (M (15 + 6 * i + j) 3))
theorem mxb_B {M : mM} {f : Nat → Nat} {i B : Nat} (hf : ∀ r, f r ≤ B) : ∀ j, mxb M f i j ≤ B + 1
  | 0 => Nat.zero_le _
  | j + 1 => by
    have := mxb_B (M := M) (i := i) hf j
    have := hf (M (15 + 6 * i + j) 0).toNatClampNeg
    have : ng1 (M (15 + 6 * i + j) 3) ≤ 1 := by unfold ng1; split <;> omega
    unfold mxb
    omega
theorem rlt_mx {M : mM} {t : Vl} {f : Nat → Nat} {i B : Nat} (hW : wR M i) (ht : Tn t f) (hf : ∀ r, f r ≤ B) (hB : B ≤ 5000) : ∀ j, j ≤ 3 → rlt M t i j = nI (mxb M f i j)
  | 0, _ => rfl
  | j + 1, hj => by
    have ih := rlt_mx hW ht hf hB j (by omega)
    have hr : (M (15 + 6 * i + j) 0).toNatClampNeg < 14 := rel_14 hW (show j < 3 by omega)
    have e1 : rlv M t i j = nI (f (M (15 + 6 * i + j) 0).toNatClampNeg + ng1 (M (15 + 6 * i + j) 3)) := by
      unfold rlv ng1
      rw [ht _ hr]
      split
      · rw [Nat.add_zero]; exact Int32.add_zero _
      · rw [nI_succ]
    have b1 := mxb_B (M := M) (i := i) hf j
    have b2 := hf (M (15 + 6 * i + j) 0).toNatClampNeg
    have b3 : ng1 (M (15 + 6 * i + j) 3) ≤ 1 := by unfold ng1; split <;> omega
    unfold rlt mxb
    rw [ih, e1]
    by_cases h : mxb M f i j < f (M (15 + 6 * i + j) 0).toNatClampNeg + ng1 (M (15 + 6 * i + j) 3)
    · rw [if_pos ((nI_lt_iff (by omega) (by omega)).mpr h), Nat.max_eq_right (by omega)]
    · rw [if_neg (fun z => h ((nI_lt_iff (by omega) (by omega)).mp z)), Nat.max_eq_left (by omega)]
theorem mxb_ge {M : mM} {f : Nat → Nat} {i : Nat} : ∀ j k, k < j → f (M (15 + 6 * i + k) 0).toNatClampNeg + ng1 (M (15 + 6 * i + k) 3) ≤ mxb M f i j
  | 0, k, h => absurd h (Nat.not_lt_zero _)
  | j + 1, k, h => by
    unfold mxb
    by_cases e : k = j
    · subst e; exact Nat.le_max_right _ _
    · exact Nat.le_trans (mxb_ge j k (by omega)) (Nat.le_max_left _ _)
theorem mxb_at {M : mM} {f : Nat → Nat} {i : Nat} : ∀ j, mxb M f i j = 0 ∨ ∃ k, k < j ∧ mxb M f i j = f (M (15 + 6 * i + k) 0).toNatClampNeg + ng1 (M (15 + 6 * i + k) 3)
  | 0 => Or.inl rfl
  | j + 1 => by
    unfold mxb
    rcases Nat.le_total (mxb M f i j) (f (M (15 + 6 * i + j) 0).toNatClampNeg + ng1 (M (15 + 6 * i + j) 3)) with h | h
    · rw [Nat.max_eq_right h]; exact Or.inr ⟨j, by omega, rfl⟩
    · rw [Nat.max_eq_left h]
      rcases mxb_at j with g | ⟨k, hk, g⟩
      · exact Or.inl g
      · exact Or.inr ⟨k, by omega, g⟩
def cst1 (M : mM) (f : Nat → Nat) (i : Nat) : Nat → Nat := updN f (rhd M i) (max (f (rhd M i)) (mxb M f i (rln M i)))
theorem cst1_Rp {M : mM} (hC : Cok (cC M)) {i : Nat} (hi : i < 14) (hH : ¬ M (12 + 6 * i) 4 = 0) (f : Nat → Nat) : Rp (cC M) (cDi M i) f (cst1 M f i) := by
  refine Rp.one hC (h0 := rhd M i) (fun r hr => updN_o hr) ?_ (fun h b n hd => ?_) ?_
  · unfold cst1; rw [updN_s]; exact Nat.le_max_left _ _
  · refine ⟨hd.1, ⟨i, hi, hH, hd⟩, ?_⟩
    obtain ⟨_, j, hj, rfl, rfl⟩ := hd
    unfold cst1
    rw [updN_s]
    exact Nat.le_trans (mxb_ge _ j hj) (Nat.le_max_right _ _)
  · unfold cst1
    rw [updN_s]
    rcases Nat.le_total (mxb M f i (rln M i)) (f (rhd M i)) with h | h
    · rw [Nat.max_eq_left h]; exact Or.inl rfl
    · rw [Nat.max_eq_right h]
      rcases mxb_at (M := M) (f := f) (i := i) (rln M i) with g | ⟨k, hk, g⟩
      · left; rw [g] at h ⊢; omega
      · exact Or.inr ⟨_, _, ⟨i, hi, hH, rfl, k, hk, rfl, rfl⟩, g⟩
theorem rht_T {M : mM} {t : Vl} {f : Nat → Nat} {i B : Nat} (hW : wR M i) (ht : Tn t f) (hf : ∀ r, f r ≤ B) (hB : B ≤ 5000) : Tn (rht M t i) (cst1 M f i) ∧ (t (rhd M i) < rlt M t i (rln M i) ↔ f (rhd M i) < cst1 M f i (rhd M i)) ∧ ∀ r, cst1 M f i r ≤ B + 1 := by
  have h3 := rln_3 hW
  have h14 := (rhd_14 hW).1
  have e := rlt_mx hW ht hf hB (rln M i) h3
  have b1 := mxb_B (M := M) (i := i) hf (rln M i)
  have b2 := hf (rhd M i)
  have key : t (rhd M i) < rlt M t i (rln M i) ↔ f (rhd M i) < mxb M f i (rln M i) := by
    rw [e, ht _ h14]
    exact nI_lt_iff (by omega) (by omega)
  have e1 : cst1 M f i (rhd M i) = max (f (rhd M i)) (mxb M f i (rln M i)) := updN_s
  refine ⟨?_, ?_, fun r => ?_⟩
  · unfold rht
    by_cases h : t (rhd M i) < rlt M t i (rln M i)
    · rw [if_pos h, e]
      have : cst1 M f i = updN f (rhd M i) (mxb M f i (rln M i)) := by
        unfold cst1
        rw [Nat.max_eq_right (by have := key.mp h; omega)]
      rw [this]
      exact ht.upd _ _
    · rw [if_neg h]
      intro r hr
      unfold cst1
      by_cases hh : r = rhd M i
      · subst hh
        rw [updN_s, Nat.max_eq_left (Nat.not_lt.mp fun z => h (key.mpr z))]
        exact ht _ hr
      · rw [updN_o hh]; exact ht r hr
  · rw [key, e1]
    omega
  · unfold cst1
    by_cases hh : r = rhd M i
    · subst hh; rw [updN_s]; omega
    · rw [updN_o hh]; have := hf r; omega
/-- a round of the class -/
def crn (M : mM) (f : Nat → Nat) : Nat → Nat → Nat
  | 0 => f
  | n + 1 => if M (12 + 6 * n) 4 = 0 then crn M f n else cst1 M (crn M f n) n
theorem crn_T {M : mM} (hM : ∀ i, i < 14 → wR M i) {t : Vl} {f : Nat → Nat} {B : Nat} (ht : Tn t f) (hf : ∀ r, f r ≤ B) (hB : B ≤ 4000) : ∀ n, n ≤ 14 → Tn (rsT M t n) (crn M f n) ∧ (∀ r, crn M f n r ≤ B + n) ∧ (∀ r, f r ≤ crn M f n r) ∧ (rsF M t n = 0 ↔ crn M f n = f) ∧ (rsF M t n = 0 ∨ rsF M t n = 1)
  | 0, _ => ⟨ht, hf, fun _ => Nat.le_refl _, ⟨fun _ => rfl, fun _ => rfl⟩, Or.inl rfl⟩
  | n + 1, hn => by
    obtain ⟨i1, i2, i3, i4, i5⟩ := crn_T hM ht hf hB n (by omega)
    unfold rsT rsF crn
    by_cases h0 : M (12 + 6 * n) 4 = 0
    · rw [if_pos h0, if_pos h0, if_pos h0]
      exact ⟨i1, fun r => Nat.le_trans (i2 r) (by omega), i3, i4, i5⟩
    · rw [if_neg h0, if_neg h0, if_neg h0]
      obtain ⟨j1, j2, j3⟩ := rht_T (hM n (by omega)) i1 i2 (by omega)
      have up : ∀ r, crn M f n r ≤ cst1 M (crn M f n) n r := by
        intro r
        unfold cst1
        by_cases e : r = rhd M n
        · subst e; rw [updN_s]; exact Nat.le_max_left _ _
        · rw [updN_o e]; exact Nat.le_refl _
      refine ⟨j1, fun r => Nat.le_trans (j3 r) (by omega), fun r => Nat.le_trans (i3 r) (up r), ?_, ?_⟩
      · by_cases hr : rsT M t n (rhd M n) < rlt M (rsT M t n) n (rln M n)
        · rw [if_pos hr]
          refine ⟨fun z => absurd z (by decide), fun z => ?_⟩
          have h1 := j2.mp hr
          rw [z] at h1
          have := i3 (rhd M n)
          omega
        · rw [if_neg hr, i4]
          have same : cst1 M (crn M f n) n = crn M f n := by
            funext r
            by_cases e : r = rhd M n
            · subst e
              have := up (rhd M n)
              have : ¬ crn M f n (rhd M n) < cst1 M (crn M f n) n (rhd M n) := fun z => hr (j2.mpr z)
              omega
            · exact updN_o e
          rw [same]
      · by_cases hr : rsT M t n (rhd M n) < rlt M (rsT M t n) n (rln M n)
        · rw [if_pos hr]; exact Or.inr rfl
        · rw [if_neg hr]; exact i5
theorem crn_Rp {M : mM} (hC : Cok (cC M)) (f : Nat → Nat) : ∀ n, n ≤ 14 → Rp (cC M) (fun h b k => ∃ i, i < n ∧ ¬ M (12 + 6 * i) 4 = 0 ∧ cDi M i h b k) f (crn M f n)
  | 0, _ => (Rp.refl _ _).wk (fun _ _ _ ⟨i, hi, _⟩ => absurd hi (Nat.not_lt_zero _))
  | n + 1, hn => by
    have ih := crn_Rp hC f n (by omega)
    unfold crn
    by_cases h0 : M (12 + 6 * n) 4 = 0
    · rw [if_pos h0]
      refine ih.wk (fun a b k => ?_)
      rintro ⟨i, hi, hH, hd⟩
      have : i ≠ n := fun e => hH (e ▸ h0)
      exact ⟨i, by omega, hH, hd⟩
    · rw [if_neg h0]
      refine (ih.comp (cst1_Rp hC (by omega) h0 _)).wk (fun a b k => ?_)
      rintro ⟨i, hi, hH, hd⟩
      by_cases e : i = n
      · subst e; exact Or.inr hd
      · exact Or.inl ⟨i, by omega, hH, hd⟩
theorem sty_some {M : mM} (hM : ∀ i, i < 14 → wR M i) (hC : Cok (cC M)) : ∀ (n : Nat) (t t' : Vl) (f : Nat → Nat) (B : Nat), Tn t f → (∀ r, f r ≤ B) → B + 14 * n ≤ 1000 → (∀ s, Rkg (cC M) s → ∀ r, f r ≤ s r) → sty M n t = some t' → ∃ g, Rkg (cC M) g ∧ Tn t' g ∧ ∀ s, Rkg (cC M) s → ∀ r, g r ≤ s r
  | 0, t, t', f, B, _, _, _, _, h => by cases h
  | n + 1, t, t', f, B, ht, hf, hB, hl, h => by
    obtain ⟨i1, i2, i3, i4, i5⟩ := crn_T hM ht hf (by omega) 14 (Nat.le_refl _)
    have hR := crn_Rp hC f 14 (Nat.le_refl _)
    have hl' : ∀ s, Rkg (cC M) s → ∀ r, crn M f 14 r ≤ s r := fun s hs => hR.2.1 s hs (hl s hs)
    unfold sty at h
    by_cases h0 : rsF M t 14 = 0
    · rw [if_pos h0] at h
      cases h
      have e := i4.mp h0
      refine ⟨crn M f 14, ?_, i1, hl'⟩
      rw [e] at hR ⊢
      exact fun a b k hc => hR.2.2.1 a b k hc
    · rw [if_neg h0] at h
      exact sty_some hM hC n _ t' (crn M f 14) (B + 14) i1 i2 (by omega) hl' h
theorem sty_has {M : mM} (hM : ∀ i, i < 14 → wR M i) (hC : Cok (cC M)) {ρ : Nat → Nat} (hρ : Rkg (cC M) ρ) (hl : ∀ s, Rkg (cC M) s → ∀ r, ρ r ≤ s r) : ∀ (n : Nat) (t : Vl) (f : Nat → Nat), Tn t f → (∀ r, f r ≤ ρ r) → pcn (fun r => decide (f r < ρ r)) 14 < n → ∃ t', sty M n t = some t'
  | 0, t, f, _, _, h => absurd h (Nat.not_lt_zero _)
  | n + 1, t, f, ht, hf, h => by
    have h5 := lst_5 hC hρ hl
    obtain ⟨i1, i2, i3, i4, i5⟩ := crn_T hM ht (B := 5) (fun r => Nat.le_trans (hf r) (h5 r)) (by omega) 14 (Nat.le_refl _)
    have hR := crn_Rp hC f 14 (Nat.le_refl _)
    have hf' := hR.2.1 ρ hρ hf
    unfold sty
    by_cases h0 : rsF M t 14 = 0
    · rw [if_pos h0]; exact ⟨_, rfl⟩
    · rw [if_neg h0]
      by_cases hx : ∃ r, f r < ρ r
      · have := rd_lt hC hρ hl hR hf hx
        exact sty_has hM hC hρ hl n _ (crn M f 14) i1 hf' (by omega)
      · exfalso
        apply h0
        apply i4.mpr
        funext r
        have h1 := i3 r
        have h2 := hf' r
        have h3 : ¬ f r < ρ r := fun z => hx ⟨r, z⟩
        have h4 := hf r
        omega
/-- the class: strata are found where there are some, and they are the least -/
theorem sty_ok {M : mM} (hM : ∀ i, i < 14 → wR M i) (hC : Cok (cC M)) (t : Vl) : (∀ t', sty M 14 (z14 t) = some t' → ∃ g, Rkg (cC M) g ∧ Tn t' g ∧ ∀ s, Rkg (cC M) s → ∀ r, g r ≤ s r) ∧ (sty M 14 (z14 t) = none → ¬ ∃ s, Rkg (cC M) s) := by
  have hz : Tn (z14 t) (fun _ => 0) := fun r hr => if_pos hr
  refine ⟨fun t' h => sty_some hM hC 14 _ t' (fun _ => 0) 0 hz (fun _ => Nat.le_refl _) (by omega) (fun _ _ _ => Nat.zero_le _) h, fun h hex => ?_⟩
  obtain ⟨ρ, hρ, hl⟩ := lst_rk hex
  have h5 := lst_c hC hρ hl (fun _ => 0)
  obtain ⟨t', ht⟩ := sty_has hM hC hρ hl 14 (z14 t) (fun _ => 0) hz (fun _ => Nat.zero_le _) (by omega)
  rw [h] at ht
  cases ht
