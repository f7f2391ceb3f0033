/-! the reference's strata -/
def rDx (M : mM) (h0 i n : Nat) : Cst := fun h b k => h = h0 ∧ ∃ x, i ≤ x ∧ x < i + n ∧ b = (M 118 x).toNatClampNeg ∧ k = ng1 (M 121 x)
def rDi (M : mM) (a m : Nat) : Cst := rDx M (M 118 a).toNatClampNeg (a + 1) (m - 1)
def rC (M : mM) (q : Int32) : Cst := fun h b n => (∃ j, j < 14 ∧ ¬ M 116 j = 0 ∧ ¬ nI j = q ∧ rDi M (4 * j) (rml M j) h b n) ∨ (¬ 14 ≤ q ∧ rDi M 56 (M 109 8).toNatClampNeg h b n)
theorem rdl_T {M : mM} {C : Cst} (hC : Cok C) {a : Nat} (ha : (M 118 a).toNatClampNeg < 14) : ∀ (n i : Nat) (N : Vl) (f : Nat → Nat) (B : Nat), (∀ x, i ≤ x → x < i + n → (M 118 x).toNatClampNeg < 14) → (∀ h b k, rDx M (M 118 a).toNatClampNeg i n h b k → C h b k) → Tn N f → (∀ r, f r ≤ B) → B + n ≤ 1000 → ∃ g, Tn (rdl (M 118) (M 121) a n i N) g ∧ Rp C (rDx M (M 118 a).toNatClampNeg i n) f g ∧ (∀ r, g r ≤ B + n) ∧ ∀ r, r ≠ (M 118 a).toNatClampNeg → g r = f r
  | 0, i, N, f, B, _, _, hN, hf, _ => ⟨f, hN, (Rp.refl _ _).wk (fun _ _ _ ⟨_, x, h1, h2, _⟩ => by omega), hf, fun _ _ => rfl⟩
  | n + 1, i, N, f, B, hr, hD, hN, hf, hB => by
    have hi := hr i (Nat.le_refl _) (by omega)
    have b1 := hf (M 118 i).toNatClampNeg
    have b2 := hf (M 118 a).toNatClampNeg
    have b3 : ng1 (M 121 i) ≤ 1 := by unfold ng1; split <;> omega
    have e1 : rd1 (M 118) (M 121) a i N = upd N (M 118 a).toNatClampNeg (nI (max (f (M 118 i).toNatClampNeg + ng1 (M 121 i)) (f (M 118 a).toNatClampNeg))) := by
      unfold rd1
      have e2 : N (M 118 i).toNatClampNeg + ngv (M 121 i) = nI (f (M 118 i).toNatClampNeg + ng1 (M 121 i)) := by
        rw [hN _ hi]
        unfold ngv ng1
        split
        · rw [Nat.add_zero]; exact Int32.add_zero _
        · rw [nI_succ]
      rw [e2, hN _ ha]
      unfold mxv
      by_cases h : f (M 118 i).toNatClampNeg + ng1 (M 121 i) ≤ f (M 118 a).toNatClampNeg
      · rw [if_pos ((nI_le_iff (by omega) (by omega)).mpr h), Nat.max_eq_right h]
      · rw [if_neg (fun z => h ((nI_le_iff (by omega) (by omega)).mp z)), Nat.max_eq_left (by omega)]
    have hN1 := hN.upd (M 118 a).toNatClampNeg (max (f (M 118 i).toNatClampNeg + ng1 (M 121 i)) (f (M 118 a).toNatClampNeg))
    rw [← e1] at hN1
    have hcc : C (M 118 a).toNatClampNeg (M 118 i).toNatClampNeg (ng1 (M 121 i)) := hD _ _ _ ⟨rfl, i, Nat.le_refl _, by omega, rfl, rfl⟩
    have r1 : Rp C (fun h b k => h = (M 118 a).toNatClampNeg ∧ b = (M 118 i).toNatClampNeg ∧ k = ng1 (M 121 i)) f (updN f (M 118 a).toNatClampNeg (max (f (M 118 i).toNatClampNeg + ng1 (M 121 i)) (f (M 118 a).toNatClampNeg))) := by
      refine Rp.one hC (h0 := (M 118 a).toNatClampNeg) (fun r hr => updN_o hr) ?_ ?_ ?_
      · rw [updN_s]; exact Nat.le_max_right _ _
      · rintro h b k ⟨rfl, rfl, rfl⟩
        refine ⟨rfl, hcc, ?_⟩
        rw [updN_s]; exact Nat.le_max_left _ _
      · rw [updN_s]
        rcases Nat.le_total (f (M 118 i).toNatClampNeg + ng1 (M 121 i)) (f (M 118 a).toNatClampNeg) with h | h
        · rw [Nat.max_eq_right h]; exact Or.inl rfl
        · rw [Nat.max_eq_left h]; exact Or.inr ⟨_, _, hcc, rfl⟩
    have hf1 : ∀ r, updN f (M 118 a).toNatClampNeg (max (f (M 118 i).toNatClampNeg + ng1 (M 121 i)) (f (M 118 a).toNatClampNeg)) r ≤ B + 1 := by
      intro r
      by_cases e : r = (M 118 a).toNatClampNeg
      · subst e; rw [updN_s]; omega
      · rw [updN_o e]; have := hf r; omega
    obtain ⟨g, g1, g2, g3, g4⟩ := rdl_T hC ha n (i + 1) (rd1 (M 118) (M 121) a i N) _ (B + 1) (fun x h1 h2 => hr x (by omega) (by omega)) (fun h b k ⟨z1, x, z2, z3, z4⟩ => hD h b k ⟨z1, x, by omega, by omega, z4⟩) hN1 hf1 (by omega)
    refine ⟨g, g1, (r1.comp g2).wk ?_, fun r => Nat.le_trans (g3 r) (by omega), fun r hr => (g4 r hr).trans (updN_o hr)⟩
    rintro h b k ⟨rfl, x, h1, h2, rfl, rfl⟩
    by_cases e : x = i
    · subst e; exact Or.inl ⟨rfl, rfl, rfl⟩
    · exact Or.inr ⟨rfl, x, by omega, by omega, rfl, rfl⟩
/-- the state of the raising: refused, and then there is no ranking; or on its way -/
def Qs (C : Cst) (f0 : Nat → Nat) (D : Cst) (s : Int32 × Vl) : Prop := (s.1 = 0 ∧ ¬ ∃ t, Rkg C t) ∨ (¬ s.1 = 0 ∧ ∃ f, Tn s.2 f ∧ (∀ r, f r ≤ 5) ∧ Rp C D f0 f)
theorem rkv_Q {M : mM} {C : Cst} (hC : Cok C) {f0 : Nat → Nat} (hl : ∀ s, Rkg C s → ∀ r, f0 r ≤ s r) {D : Cst} {a m : Nat} {s : Int32 × Vl} (ha : (M 118 a).toNatClampNeg < 14) (hr : ∀ x, a + 1 ≤ x → x < a + 1 + (m - 1) → (M 118 x).toNatClampNeg < 14) (hm : m ≤ 4) (hD : ∀ h b k, rDi M a m h b k → C h b k) (h : Qs C f0 D s) : Qs C f0 (fun h b k => D h b k ∨ rDi M a m h b k) (rkv M a m s) := by
  unfold rkv
  rcases h with ⟨h1, h2⟩ | ⟨h1, f, h2, h3, h4⟩
  · rw [if_pos h1]; exact Or.inl ⟨rfl, h2⟩
  · rw [if_neg h1]
    obtain ⟨g, g1, g2, g3, g4⟩ := rdl_T hC ha (m - 1) (a + 1) s.2 f 5 hr hD h2 h3 (by omega)
    have key : rdl (M 118) (M 121) a (m - 1) (a + 1) s.2 (M 118 a).toNatClampNeg ≤ 5 ↔ g (M 118 a).toNatClampNeg ≤ 5 := by
      rw [g1 _ ha]
      have := g3 (M 118 a).toNatClampNeg
      exact nI_le_iff (b := 5) (by omega) (by decide)
    have hR := h4.comp g2
    by_cases h5 : g (M 118 a).toNatClampNeg ≤ 5
    · right
      refine ⟨?_, g, g1, fun r => ?_, hR⟩
      · show ¬ b2 _ = 0
        unfold b2
        rw [if_pos (key.mpr h5)]
        decide
      · by_cases e : r = (M 118 a).toNatClampNeg
        · subst e; exact h5
        · rw [g4 r e]; exact h3 r
    · left
      refine ⟨?_, fun hex => ?_⟩
      · show b2 _ = 0
        unfold b2
        rw [if_neg (fun z => h5 (key.mp z))]
      · obtain ⟨ρ, hρ, hl'⟩ := lst_rk hex
        have := hR.2.1 ρ hρ (hl ρ hρ) (M 118 a).toNatClampNeg
        have := lst_5 hC hρ hl' (M 118 a).toNatClampNeg
        omega
theorem Qs.wk {C D D' : Cst} {f0 : Nat → Nat} {s : Int32 × Vl} (h : Qs C f0 D s) (hd : ∀ a b n, D' a b n → D a b n) : Qs C f0 D' s := by
  rcases h with h | ⟨h1, f, h2, h3, h4⟩
  · exact Or.inl h
  · exact Or.inr ⟨h1, f, h2, h3, h4.wk hd⟩
section RK
variable {M : mM} {q : Int32}
theorem rkf_Q (hM : ∀ i, i < 60 → rok M i) (h4 : ∀ j, j < 14 → ¬ M 116 j = 0 → rml M j ≤ 4) (hC : Cok (rC M q)) {f0 : Nat → Nat} (hl : ∀ s, Rkg (rC M q) s → ∀ r, f0 r ≤ s r) : ∀ (n j : Nat) (D : Cst) (s : Int32 × Vl), j + n = 14 → Qs (rC M q) f0 D s → Qs (rC M q) f0 (fun h b k => D h b k ∨ ∃ x, j ≤ x ∧ x < 14 ∧ ¬ M 116 x = 0 ∧ ¬ nI x = q ∧ rDi M (4 * x) (rml M x) h b k) (rkf M q n j s)
  | 0, j, D, s, hj, h => h.wk (fun a b k z => by
    rcases z with z | ⟨x, h1, h2, _⟩
    · exact z
    · omega)
  | n + 1, j, D, s, hj, h => by
    have rel := fun i (hi : i < 60) => (rLi_tm (hM i hi)).1
    have one : Qs (rC M q) f0 (fun h b k => D h b k ∨ (¬ M 116 j = 0 ∧ ¬ nI j = q ∧ rDi M (4 * j) (rml M j) h b k)) (rk1 M q j s) := by
      unfold rk1
      by_cases h0 : M 116 j = 0
      · rw [if_pos h0]
        exact h.wk (fun a b k z => z.elim id (fun z => absurd h0 z.1))
      · rw [if_neg h0]
        by_cases h1 : nI j = q
        · rw [if_pos h1]
          exact h.wk (fun a b k z => z.elim id (fun z => absurd h1 z.2.1))
        · rw [if_neg h1]
          have := h4 j (by omega) h0
          refine (rkv_Q hC hl (rel _ (by omega)) (fun x g1 g2 => rel x (by omega)) this (fun a b k z => Or.inl ⟨j, by omega, h0, h1, z⟩) h).wk (fun a b k z => z.elim Or.inl (fun z => Or.inr z.2.2))
    refine (rkf_Q hM h4 hC hl n (j + 1) _ _ (by omega) one).wk (fun a b k z => ?_)
    rcases z with z | ⟨x, h1, h2, h3, h5, h6⟩
    · exact Or.inl (Or.inl z)
    · by_cases e : x = j
      · subst e; exact Or.inl (Or.inr ⟨h3, h5, h6⟩)
      · exact Or.inr ⟨x, by omega, h2, h3, h5, h6⟩
theorem rk_round (hM : ∀ i, i < 60 → rok M i) (h4 : ∀ j, j < 14 → ¬ M 116 j = 0 → rml M j ≤ 4) (hg : (M 109 8).toNatClampNeg ≤ 4) (hC : Cok (rC M q)) {f : Nat → Nat} (hl : ∀ s, Rkg (rC M q) s → ∀ r, f r ≤ s r) {s : Int32 × Vl} (h0 : ¬ s.1 = 0) (ht : Tn s.2 f) (h5 : ∀ r, f r ≤ 5) : Qs (rC M q) f (rC M q) (rkg M q (rkf M q 14 0 s)) := by
  have rel := fun i (hi : i < 60) => (rLi_tm (hM i hi)).1
  have h1 := rkf_Q hM h4 hC hl 14 0 (fun _ _ _ => False) s rfl (Or.inr ⟨h0, f, ht, h5, Rp.refl _ _⟩)
  unfold rkg
  by_cases hq : 14 ≤ q
  · rw [if_pos hq]
    refine h1.wk (fun a b k z => ?_)
    rcases z with ⟨j, hj, z⟩ | z
    · exact Or.inr ⟨j, Nat.zero_le _, hj, z⟩
    · exact absurd hq z.1
  · rw [if_neg hq]
    refine (rkv_Q hC hl (rel _ (by omega)) (fun x g1 g2 => rel x (by omega)) hg (fun a b k z => Or.inr ⟨hq, z⟩) h1).wk (fun a b k z => ?_)
    rcases z with ⟨j, hj, z⟩ | z
    · exact Or.inl (Or.inr ⟨j, Nat.zero_le _, hj, z⟩)
    · exact Or.inr z.2
theorem rkn_0 : ∀ (n : Nat) (s : Int32 × Vl), s.1 = 0 → rkn M q n s = s
  | 0, _, _ => rfl
  | n + 1, s, h => by unfold rkn; rw [if_pos h]
theorem rkn_st (hM : ∀ i, i < 60 → rok M i) (h4 : ∀ j, j < 14 → ¬ M 116 j = 0 → rml M j ≤ 4) (hg : (M 109 8).toNatClampNeg ≤ 4) (hC : Cok (rC M q)) {f : Nat → Nat} (hl : ∀ s, Rkg (rC M q) s → ∀ r, f r ≤ s r) (hf : Rkg (rC M q) f) (h5 : ∀ r, f r ≤ 5) : ∀ (n : Nat) (s : Int32 × Vl), ¬ s.1 = 0 → Tn s.2 f → ¬ (rkn M q n s).1 = 0 ∧ Tn (rkn M q n s).2 f
  | 0, s, h0, ht => ⟨h0, ht⟩
  | n + 1, s, h0, ht => by
    unfold rkn
    rw [if_neg h0]
    rcases rk_round hM h4 hg hC hl h0 ht h5 with ⟨_, g⟩ | ⟨g1, f', g2, g3, g4⟩
    · exact absurd ⟨f, hf⟩ g
    · have e : f' = f := by
        funext r
        have := g4.1 r
        have := g4.2.1 f hf (fun _ => Nat.le_refl _) r
        omega
      rw [e] at g2
      exact rkn_st hM h4 hg hC hl hf h5 n _ g1 g2
theorem rkn_ok (hM : ∀ i, i < 60 → rok M i) (h4 : ∀ j, j < 14 → ¬ M 116 j = 0 → rml M j ≤ 4) (hg : (M 109 8).toNatClampNeg ≤ 4) (hC : Cok (rC M q)) : ∀ (n : Nat) (s : Int32 × Vl) (f : Nat → Nat), (∀ s, Rkg (rC M q) s → ∀ r, f r ≤ s r) → ¬ s.1 = 0 → Tn s.2 f → (∀ r, f r ≤ 5) → (∀ r, r < 9 → f r = 0) → (∀ r, 14 ≤ r → f r = 0) → 25 < sm14 f 14 + n → ((rkn M q n s).1 = 0 ∧ ¬ ∃ t, Rkg (rC M q) t) ∨ (¬ (rkn M q n s).1 = 0 ∧ ∃ g, Rkg (rC M q) g ∧ Tn (rkn M q n s).2 g ∧ ∀ s, Rkg (rC M q) s → ∀ r, g r ≤ s r)
  | 0, s, f, hl, h0, ht, h5, hz, hb, hn => by
    have := sm_25 hz (fun r _ => h5 r)
    omega
  | n + 1, s, f, hl, h0, ht, h5, hz, hb, hn => by
    unfold rkn
    rw [if_neg h0]
    rcases rk_round hM h4 hg hC hl h0 ht h5 with ⟨g1, g2⟩ | ⟨g1, f', g2, g3, g4⟩
    · rw [rkn_0 n _ g1]
      exact Or.inl ⟨g1, g2⟩
    · have hl' : ∀ s, Rkg (rC M q) s → ∀ r, f' r ≤ s r := fun s hs => g4.2.1 s hs (hl s hs)
      have hz' := g4.2.2.2 hz
      -- beyond the relations nothing is raised: take it so
      by_cases hsame : ∀ r, r < 14 → f' r = f r
      · have hf : Rkg (rC M q) f := by
          intro h b k hc
          obtain ⟨c1, c2, _⟩ := hC h b k hc
          have := g4.2.2.1 h b k hc
          rw [hsame h c1] at this
          exact this
        obtain ⟨r1, r2⟩ := rkn_st hM h4 hg hC hl hf h5 n _ g1 (fun r hr => (g2 r hr).trans (by rw [hsame r hr]))
        exact Or.inr ⟨r1, f, hf, r2, hl⟩
      · obtain ⟨r, hr⟩ := Classical.not_forall.mp hsame
        obtain ⟨hr, hne⟩ := Classical.not_imp.mp hr
        have hlt : sm14 f 14 < sm14 f' 14 := sm_lt 14 (fun r _ => g4.1 r) ⟨r, hr, by have := g4.1 r; omega⟩
        have cut : sm14 (fun r => if r < 14 then f' r else 0) 14 = sm14 f' 14 := rfl
        refine rkn_ok hM h4 hg hC n _ (fun r => if r < 14 then f' r else 0) (fun s hs r => ?_) g1 (fun r hr => (g2 r hr).trans (congrArg nI (show f' r = if r < 14 then f' r else 0 from (if_pos hr).symm))) (fun r => ?_) (fun r hr => ?_) (fun r hr => if_neg (by omega)) (by rw [cut]; omega)
        · show (if r < 14 then f' r else 0) ≤ s r
          split
          · exact hl' s hs r
          · exact Nat.zero_le _
        · show (if r < 14 then f' r else 0) ≤ 5
          split
          · exact g3 r
          · exact Nat.zero_le _
        · show (if r < 14 then f' r else 0) = 0
          rw [if_pos (by omega)]
          exact hz' r hr
/-- the reference: refused where there are no strata, else the least -/
theorem rkR_ok (hM : ∀ i, i < 60 → rok M i) (h4 : ∀ j, j < 14 → ¬ M 116 j = 0 → rml M j ≤ 4) (hg : (M 109 8).toNatClampNeg ≤ 4) (hC : Cok (rC M q)) : ((rkR M q).1 = 0 ∧ ¬ ∃ t, Rkg (rC M q) t) ∨ (¬ (rkR M q).1 = 0 ∧ ∃ g, Rkg (rC M q) g ∧ Tn (rkR M q).2 g ∧ ∀ s, Rkg (rC M q) s → ∀ r, g r ≤ s r) :=
  rkn_ok hM h4 hg hC 40 _ (fun _ => 0) (fun _ _ _ => Nat.zero_le _) (show ¬ (1 : Int32) = 0 by decide) (fun r hr => if_pos hr) (fun _ => Nat.zero_le _) (fun _ _ => rfl) (fun _ _ => rfl) (by omega)
end RK
