/-! rule: the free number, safety, the given rule -/
theorem fnr_frl {M : mM} {L : mL} (hR : RI M L) : ∀ (n i : Nat), i + n = 14 → (fnr M n i = -1 ∧ frl M n i = 14) ∨ ∃ j, i ≤ j ∧ j < 14 ∧ fnr M n i = nI j ∧ frl M n i = nI j ∧ M 116 j = 0
  | 0, i, hi => by
    have : i = 14 := by omega
    subst this
    exact Or.inl ⟨rfl, rfl⟩
  | n + 1, i, hi => by
    unfold fnr frl
    rw [hR.the i (by omega)]
    by_cases h0 : M 116 i = 0
    · rw [if_pos h0, if_pos h0]
      exact Or.inr ⟨i, Nat.le_refl _, by omega, rfl, rfl, h0⟩
    · rw [if_neg h0, if_neg h0]
      rcases fnr_frl hR n (i + 1) (by omega) with h | ⟨j, h1, h2, h3⟩
      · exact Or.inl h
      · exact Or.inr ⟨j, by omega, h2, h3⟩
/-! safety -/
theorem vbt_ib : ∀ n, (n < 6 ∨ (10 ≤ n ∧ n ≤ 13)) → ∀ v, v < 32 → (ib (vbt (nI n)) v = true ↔ 10 ≤ n ∧ v = n) := by
  have h : ∀ n, n < 14 → ∀ v, v < 32 → (n < 6 ∨ (10 ≤ n ∧ n ≤ 13)) → (ib (vbt (nI n)) v = true ↔ 10 ≤ n ∧ v = n) := by decide +kernel
  intro n hn v hv
  exact h n (by omega) v hv hn
theorem wL_tm {M : mM} {k : Nat} (h : wL M k) {v : Nat} (hv : v < 32) : ib (vbt (M k 1) ||| vbt (M k 2)) v = true ↔ 10 ≤ v ∧ ((cLi M k).2.1 = v ∨ (cLi M k).2.2 = v) := by
  obtain ⟨_, ⟨a, ea, ha⟩, ⟨b, eb, hb⟩, _⟩ := h
  have e1 : (cLi M k).2.1 = a := by
    show (M k 1).toNatClampNeg = a
    rw [ea]; exact nI_clamp (n := a) (by omega)
  have e2 : (cLi M k).2.2 = b := by
    show (M k 2).toNatClampNeg = b
    rw [eb]; exact nI_clamp (n := b) (by omega)
  rw [ib_or, Bool.or_eq_true, ea, eb, vbt_ib a ha v hv, vbt_ib b hb v hv, e1, e2]
  constructor
  · rintro (⟨h1, rfl⟩ | ⟨h1, rfl⟩)
    · exact ⟨h1, Or.inl rfl⟩
    · exact ⟨h1, Or.inr rfl⟩
  · rintro ⟨h1, rfl | rfl⟩
    · exact Or.inl ⟨h1, rfl⟩
    · exact Or.inr ⟨h1, rfl⟩
theorem sfB_ib {M : mM} (hw : ∀ j, j < 4 → wL M (99 + j)) {v : Nat} (hv : v < 32) : ∀ n, n < 4 → (ib (sfB M n) v = true ↔ 10 ≤ v ∧ ∃ k, 1 ≤ k ∧ k ≤ n ∧ M (99 + k) 3 = 0 ∧ ((cLi M (99 + k)).2.1 = v ∨ (cLi M (99 + k)).2.2 = v))
  | 0, _ => by
    rw [show sfB M 0 = 0 from rfl, ib_0]
    exact ⟨fun z => (by cases z), fun ⟨_, k, h1, h2, _⟩ => by omega⟩
  | n + 1, hn => by
    have ih := sfB_ib hw hv n (by omega)
    unfold sfB
    by_cases h0 : M (99 + (n + 1)) 3 = 0
    · rw [if_pos h0, ib_or, Bool.or_eq_true, ih, wL_tm (hw (n + 1) (by omega)) hv]
      constructor
      · rintro (⟨h1, k, h2, h3, h4⟩ | ⟨h1, h2⟩)
        · exact ⟨h1, k, h2, by omega, h4⟩
        · exact ⟨h1, n + 1, by omega, by omega, h0, h2⟩
      · rintro ⟨h1, k, h2, h3, h4, h5⟩
        by_cases e : k = n + 1
        · subst e; exact Or.inr ⟨h1, h5⟩
        · exact Or.inl ⟨h1, k, h2, by omega, h4, h5⟩
    · rw [if_neg h0, ih]
      constructor
      · rintro ⟨h1, k, h2, h3, h4⟩
        exact ⟨h1, k, h2, by omega, h4⟩
      · rintro ⟨h1, k, h2, h3, h4, h5⟩
        have : k ≠ n + 1 := fun z => h0 (z ▸ h4)
        exact ⟨h1, k, h2, by omega, h4, h5⟩
theorem sfN_ib {M : mM} (hw : ∀ j, j < 4 → wL M (99 + j)) {v : Nat} (hv : v < 32) : ∀ n, n < 4 → (ib (sfN M n) v = true ↔ 10 ≤ v ∧ ∃ k, k ≤ n ∧ (k = 0 ∨ ¬ M (99 + k) 3 = 0) ∧ ((cLi M (99 + k)).2.1 = v ∨ (cLi M (99 + k)).2.2 = v))
  | 0, _ => by
    rw [show sfN M 0 = vbt (M 99 1) ||| vbt (M 99 2) from rfl, wL_tm (hw 0 (by omega)) hv]
    constructor
    · rintro ⟨h1, h2⟩; exact ⟨h1, 0, Nat.le_refl _, Or.inl rfl, h2⟩
    · rintro ⟨h1, k, h2, _, h3⟩
      have : k = 0 := by omega
      subst this
      exact ⟨h1, h3⟩
  | n + 1, hn => by
    have ih := sfN_ib hw hv n (by omega)
    unfold sfN
    by_cases h0 : M (99 + (n + 1)) 3 = 0
    · rw [if_pos h0, ih]
      constructor
      · rintro ⟨h1, k, h2, h3⟩
        exact ⟨h1, k, by omega, h3⟩
      · rintro ⟨h1, k, h2, h3, h4⟩
        have : k ≠ n + 1 := by
          intro z
          rcases h3 with h3 | h3
          · omega
          · exact h3 (z ▸ h0)
        exact ⟨h1, k, by omega, h3, h4⟩
    · rw [if_neg h0, ib_or, Bool.or_eq_true, ih, wL_tm (hw (n + 1) (by omega)) hv]
      constructor
      · rintro (⟨h1, k, h2, h3⟩ | ⟨h1, h2⟩)
        · exact ⟨h1, k, by omega, h3⟩
        · exact ⟨h1, n + 1, Nat.le_refl _, Or.inr h0, h2⟩
      · rintro ⟨h1, k, h2, h3, h4⟩
        by_cases e : k = n + 1
        · subst e; exact Or.inr ⟨h1, h4⟩
        · exact Or.inl ⟨h1, k, by omega, h3, h4⟩
/-- safety of the given literals, in words -/
def gSf (M : mM) (g : Nat) : Prop := ∀ k, k < g → (k = 0 ∨ ¬ M 121 (56 + k) = 0) → ∀ t, (t = (rLi M (56 + k)).2.1 ∨ t = (rLi M (56 + k)).2.2) → t < 6 ∨ ∃ p, 1 ≤ p ∧ p < g ∧ M 121 (56 + p) = 0 ∧ ((rLi M (56 + p)).2.1 = t ∨ (rLi M (56 + p)).2.2 = t)
theorem msafe_g {M : mM} {L : mL} (hR : RI M L) {g : Nat} (hg1 : 1 ≤ g) (hg : g ≤ 4) (eg : M 10 4 = nI g) : msafe M ↔ gSf M g := by
  have hw := hR.ci.1.2.1
  have lqs : ∀ k, k < g → cLi M (99 + k) = rLi M (56 + k) ∧ M (99 + k) 3 = M 121 (56 + k) := fun k hk => (hR.giv k (by omega) (by rw [eg]; exact nI_lt hk (by omega))).2
  have rk : ∀ k, k < 4 → (rLi M (56 + k)).1 < 14 ∧ tmO (rLi M (56 + k)).2.1 ∧ tmO (rLi M (56 + k)).2.2 := fun k hk => rLi_tm (hR.pi.2.2.2.2.2.1 (56 + k) (by omega)).1
  have eg' : (M 10 4).toNatClampNeg = g := by rw [eg]; exact nI_clamp (n := g) (by omega)
  unfold msafe
  rw [eg']
  constructor
  · intro h k hk hq t ht
    by_cases h6 : t < 6
    · exact Or.inl h6
    · right
      have tO : tmO t := by
        rcases ht with rfl | rfl
        · exact (rk k (by omega)).2.1
        · exact (rk k (by omega)).2.2
      have t14 : 10 ≤ t ∧ t ≤ 13 := by
        rcases tO with z | z
        · exact absurd z h6
        · exact z
      have hN : ib (sfN M (g - 1)) t = true := by
        rw [sfN_ib hw (by omega) (g - 1) (by omega)]
        refine ⟨t14.1, k, by omega, ?_, ?_⟩
        · rw [(lqs k hk).2]; exact hq
        · rw [(lqs k hk).1]; exact ht.imp Eq.symm Eq.symm
      have hB : ib (sfB M (g - 1)) t = true := by
        apply Classical.byContradiction
        intro z
        have e : ib (sfN M (g - 1) &&& (sfB M (g - 1) ^^^ (-1))) t = true := by
          rw [ib_and, hN]
          have : ib (sfB M (g - 1) ^^^ (-1)) t = (ib (sfB M (g - 1)) t ^^ ib (-1) t) := by
            unfold ib; rw [Int32.toBitVec_xor, BitVec.getLsbD_xor]
          rw [this, ts_nt z, ib_m1 t (by omega)]
          rfl
        rw [h, ib_0] at e
        cases e
      rw [sfB_ib hw (by omega) (g - 1) (by omega)] at hB
      obtain ⟨_, p, h1, h2, h3, h4⟩ := hB
      rw [(lqs p (by omega)).1] at h4
      rw [(lqs p (by omega)).2] at h3
      exact ⟨p, h1, by omega, h3, h4⟩
  · intro h
    apply ib_ext
    intro v hv
    rw [ib_0]
    apply ts_nt
    intro z
    rw [ib_and, Bool.and_eq_true] at z
    obtain ⟨z1, z2⟩ := z
    rw [sfN_ib hw hv (g - 1) (by omega)] at z1
    obtain ⟨h10, k, hk, hq, ht⟩ := z1
    rw [(lqs k (by omega)).1] at ht
    rw [(lqs k (by omega)).2] at hq
    have e : ib (sfB M (g - 1) ^^^ (-1)) v = (ib (sfB M (g - 1)) v ^^ ib (-1) v) := by
      unfold ib; rw [Int32.toBitVec_xor, BitVec.getLsbD_xor]
    rw [e, ib_m1 v hv] at z2
    rcases h k (by omega) hq v (ht.imp Eq.symm Eq.symm) with h6 | ⟨p, h1, h2, h3, h4⟩
    · omega
    · have : ib (sfB M (g - 1)) v = true := by
        rw [sfB_ib hw hv (g - 1) (by omega)]
        refine ⟨h10, p, h1, by omega, ?_, ?_⟩
        · rw [(lqs p h2).2]; exact h3
        · rw [(lqs p h2).1]; exact h4
      rw [this] at z2
      cases z2
theorem b2_nz {p : Prop} [Decidable p] : ¬ b2 p = 0 ↔ p := by
  unfold b2
  by_cases h : p
  · rw [if_pos h]; exact ⟨fun _ => h, fun _ => by decide⟩
  · rw [if_neg h]; exact ⟨fun z => absurd rfl z, fun z => absurd z h⟩
theorem cvl_nz {M : mM} {t : Int32} : ∀ (n i : Nat) (b : Int32), ¬ cvl M t n i b = 0 ↔ ¬ b = 0 ∨ ∃ k, i ≤ k ∧ k < i + n ∧ M 121 k = 0 ∧ (M 119 k = t ∨ (M 110 (M 118 k).toNatClampNeg = 2 ∧ M 120 k = t))
  | 0, i, b => ⟨fun h => Or.inl h, fun h => by
    rcases h with h | ⟨k, h1, h2, _⟩
    · exact h
    · omega⟩
  | n + 1, i, b => by
    unfold cvl
    rw [cvl_nz n (i + 1) _, b2_nz]
    constructor
    · rintro ((h | h) | ⟨k, h1, h2, h3⟩)
      · exact Or.inl h
      · exact Or.inr ⟨i, Nat.le_refl _, by omega, h⟩
      · exact Or.inr ⟨k, by omega, by omega, h3⟩
    · rintro (h | ⟨k, h1, h2, h3⟩)
      · exact Or.inl (Or.inl h)
      · by_cases e : k = i
        · subst e; exact Or.inl (Or.inr h3)
        · exact Or.inr ⟨k, by omega, by omega, h3⟩
theorem sfl_nz {M : mM} : ∀ (n i : Nat) (b : Int32), ¬ sfl M n i b = 0 ↔ ¬ b = 0 ∧ ∀ k, i ≤ k → k < i + n → ((¬ nI k = 56 ∧ M 121 k = 0) ∨ (¬ cvR M (M 119 k) = 0 ∧ (una M k ∨ ¬ cvR M (M 120 k) = 0)))
  | 0, i, b => ⟨fun h => ⟨h, fun k h1 h2 => by omega⟩, fun h => h.1⟩
  | n + 1, i, b => by
    unfold sfl
    rw [sfl_nz n (i + 1) _, b2_nz]
    constructor
    · rintro ⟨⟨h1, h2⟩, h3⟩
      refine ⟨h1, fun k h4 h5 => ?_⟩
      by_cases e : k = i
      · subst e; exact h2
      · exact h3 k (by omega) (by omega)
    · rintro ⟨h1, h2⟩
      exact ⟨⟨h1, h2 i (Nat.le_refl _) (by omega)⟩, fun k h4 h5 => h2 k (by omega) (by omega)⟩
theorem sfl_g {M : mM} {L : mL} (hR : RI M L) {g : Nat} (hg1 : 1 ≤ g) (hg : g ≤ 4) (eg : M 109 8 = nI g) : ¬ sfl M g 56 1 = 0 ↔ gSf M g := by
  have rk : ∀ k, k < 4 → rok M (56 + k) := fun k hk => (hR.pi.2.2.2.2.2.1 (56 + k) (by omega)).1
  have eg' : (M 109 8).toNatClampNeg = g := by rw [eg]; exact nI_clamp (n := g) (by omega)
  have ari : ∀ k, k < 4 → (M 110 (M 118 (56 + k)).toNatClampNeg = 1 ∨ M 110 (M 118 (56 + k)).toNatClampNeg = 2) := by
    intro k hk
    obtain ⟨n, h1, h2, h3, h4, h5⟩ := hR.n
    have hr := hR.rel h4 h2 (show 56 + k < 60 by omega)
    exact (hR.ari _ (by omega) (by rw [h3]; exact nI_lt hr (by omega))).2
  -- a term is covered
  have cov : ∀ n, (n < 6 ∨ (10 ≤ n ∧ n ≤ 13)) → (¬ cvR M (nI n) = 0 ↔ n < 6 ∨ ∃ p, 1 ≤ p ∧ p < g ∧ M 121 (56 + p) = 0 ∧ ((rLi M (56 + p)).2.1 = n ∨ (rLi M (56 + p)).2.2 = n)) := by
    intro n hn
    unfold cvR
    rcases hn with hn | ⟨h1, h2⟩
    · rw [if_neg (t6 n hn)]
      exact ⟨fun _ => Or.inl hn, fun _ => by decide⟩
    · rw [if_pos (t10 n h2 h1).2, eg', cvl_nz]
      have key : ∀ p, p < 4 → ((M 119 (56 + p) = nI n ∨ (M 110 (M 118 (56 + p)).toNatClampNeg = 2 ∧ M 120 (56 + p) = nI n)) ↔ ((rLi M (56 + p)).2.1 = n ∨ (rLi M (56 + p)).2.2 = n)) := by
        intro p hp
        obtain ⟨_, ⟨a, ea, ha⟩, h3, _⟩ := rk p hp
        have e1 : (rLi M (56 + p)).2.1 = a := by
          show (M 119 (56 + p)).toNatClampNeg = a
          rw [ea]; exact nI_clamp (n := a) (by omega)
        rw [e1, ea, nI_eq (by omega) (by omega)]
        rcases ari p hp with hu | hu
        · have e2 : (rLi M (56 + p)).2.2 = 0 := if_pos hu
          rw [e2, hu]
          constructor
          · rintro (z | z)
            · exact Or.inl z
            · exact absurd z.1 (by decide)
          · rintro (z | z)
            · exact Or.inl z
            · omega
        · have hnu : ¬ una M (56 + p) := fun z => absurd (hu.symm.trans z) (by decide)
          have e2 : (rLi M (56 + p)).2.2 = (M 120 (56 + p)).toNatClampNeg := if_neg hnu
          obtain ⟨b, eb, hb⟩ : tmok (M 120 (56 + p)) := by
            rcases h3 with h3 | h3
            · exact absurd h3 hnu
            · exact h3
          rw [e2, eb, nI_clamp (n := b) (by omega), nI_eq (by omega) (by omega)]
          exact ⟨fun z => z.imp id (fun z => z.2), fun z => z.imp id (fun z => ⟨hu, z⟩)⟩
      constructor
      · rintro (z | ⟨k, h3, h4, h5, h6⟩)
        · exact absurd rfl z
        · have ek : k = 56 + (k - 56) := by omega
          rw [ek] at h5 h6
          exact Or.inr ⟨k - 56, by omega, by omega, h5, (key _ (by omega)).mp h6⟩
      · rintro (z | ⟨p, h3, h4, h5, h6⟩)
        · omega
        · exact Or.inr ⟨56 + p, by omega, by omega, h5, (key p (by omega)).mpr h6⟩
  rw [sfl_nz]
  have lit : ∀ k, k < 4 → ((¬ cvR M (M 119 (56 + k)) = 0 ∧ (una M (56 + k) ∨ ¬ cvR M (M 120 (56 + k)) = 0)) ↔ ∀ t, (t = (rLi M (56 + k)).2.1 ∨ t = (rLi M (56 + k)).2.2) → t < 6 ∨ ∃ p, 1 ≤ p ∧ p < g ∧ M 121 (56 + p) = 0 ∧ ((rLi M (56 + p)).2.1 = t ∨ (rLi M (56 + p)).2.2 = t)) := by
    intro k hk
    obtain ⟨_, ⟨a, ea, ha⟩, h3, _⟩ := rk k hk
    have e1 : (rLi M (56 + k)).2.1 = a := by
      show (M 119 (56 + k)).toNatClampNeg = a
      rw [ea]; exact nI_clamp (n := a) (by omega)
    rw [ea, cov a ha]
    by_cases hu : una M (56 + k)
    · have e2 : (rLi M (56 + k)).2.2 = 0 := if_pos hu
      rw [e1, e2]
      constructor
      · rintro ⟨z, _⟩ t (rfl | rfl)
        · exact z
        · exact Or.inl (by decide)
      · intro z
        exact ⟨z a (Or.inl rfl), Or.inl hu⟩
    · have e2 : (rLi M (56 + k)).2.2 = (M 120 (56 + k)).toNatClampNeg := if_neg hu
      obtain ⟨b, eb, hb⟩ : tmok (M 120 (56 + k)) := by
        rcases h3 with h3 | h3
        · exact absurd h3 hu
        · exact h3
      rw [eb, nI_clamp (n := b) (by omega)] at e2
      rw [e1, e2, eb, cov b hb]
      constructor
      · rintro ⟨z1, z2⟩ t (rfl | rfl)
        · exact z1
        · exact z2.elim (fun z => absurd z hu) id
      · intro z
        exact ⟨z a (Or.inl rfl), Or.inr (z b (Or.inr rfl))⟩
  constructor
  · rintro ⟨_, h⟩ k hk hq
    rcases h (56 + k) (by omega) (by omega) with ⟨h1, h2⟩ | h1
    · rcases hq with rfl | hq
      · exact absurd rfl h1
      · exact absurd h2 hq
    · exact (lit k (by omega)).mp h1
  · intro h
    refine ⟨by decide, fun k h1 h2 => ?_⟩
    have ek : k = 56 + (k - 56) := by omega
    rw [ek]
    generalize k - 56 = k' at ek
    have hk' : k' < g := by omega
    by_cases hq : k' = 0 ∨ ¬ M 121 (56 + k') = 0
    · exact Or.inr ((lit k' (by omega)).mpr (h k' hk' hq))
    · left
      have h5 := not_or.mp hq
      refine ⟨fun z => h5.1 ?_, Classical.not_not.mp h5.2⟩
      have := (nI_eq (a := 56 + k') (b := 56) (by omega) (by decide)).mp z
      omega
/-! the given rule, wherever it lies -/
theorem rPs_r {M : mM} {a m : Nat} (hm : 1 ≤ m) : rPs M a m (m - 1) = ((List.range' 1 (m - 1)).filter (fun k => decide (M 121 (a + k) = 0))).map (fun k => rLi M (a + k)) := by
  unfold rPs
  rw [show a + (m - (m - 1)) = a + 1 by omega, ← List.map_add_range', List.filter_map, List.map_map]
  rfl
theorem rNs_r {M : mM} {a m : Nat} : rNs M a m = ((List.range' 1 (m - 1)).filter (fun k => decide (¬ M 121 (a + k) = 0))).map (fun k => rLi M (a + k)) := by
  unfold rNs rNf
  rw [← List.map_add_range', List.filter_map, List.map_map]
  rfl
theorem rRu_sh {M M' : mM} {a a' m : Nat} (hm : 1 ≤ m) (h : ∀ k, k < m → M' 121 (a' + k) = M 121 (a + k) ∧ rLi M' (a' + k) = rLi M (a + k)) : rRu M' a' m = rRu M a m := by
  have mem : ∀ k, k ∈ List.range' 1 (m - 1) → k < m := fun k hk => by have := List.mem_range'_1.mp hk; omega
  unfold rRu
  rw [rPs_r hm, rPs_r hm, rNs_r, rNs_r]
  have e0 := (h 0 (by omega)).2
  rw [Nat.add_zero, Nat.add_zero] at e0
  rw [e0, List.filter_congr (fun k hk => by rw [(h k (mem k hk)).1]), List.filter_congr (p := fun k => decide (¬ M' 121 (a' + k) = 0)) (fun k hk => by rw [(h k (mem k hk)).1]), List.map_congr_left (fun k hk => (h k (mem k (List.mem_filter.mp hk).1)).2), List.map_congr_left (f := fun k => rLi M' (a' + k)) (fun k hk => (h k (mem k (List.mem_filter.mp hk).1)).2)]
theorem gSf_r {M : mM} {g : Nat} (hg1 : 1 ≤ g) (h : gSf M g) : rSf M 56 g := by
  intro x hx t ht
  have key : ∀ k, k < g → (k = 0 ∨ ¬ M 121 (56 + k) = 0) → (t = (rLi M (56 + k)).2.1 ∨ t = (rLi M (56 + k)).2.2) → t < 6 ∨ ∃ p ∈ rPs M 56 g (g - 1), p.2.1 = t ∨ p.2.2 = t := by
    intro k hk hq ht'
    rcases h k hk hq t ht' with h6 | ⟨p, h1, h2, h3, h4⟩
    · exact Or.inl h6
    · refine Or.inr ⟨rLi M (56 + p), ?_, h4⟩
      rw [rPs_r hg1]
      exact List.mem_map.mpr ⟨p, List.mem_filter.mpr ⟨List.mem_range'_1.mpr ⟨h1, by omega⟩, decide_eq_true h3⟩, rfl⟩
  rcases List.mem_cons.mp hx with rfl | hx
  · exact key 0 (by omega) (Or.inl rfl) ht
  · rw [rNs_r] at hx
    obtain ⟨k, hk, rfl⟩ := List.mem_map.mp hx
    obtain ⟨h1, h2⟩ := List.mem_filter.mp hk
    have := List.mem_range'_1.mp h1
    exact key k (by omega) (Or.inr (of_decide_eq_true h2)) ht
/-- the class's new rule is the given one -/
theorem bcm_ru {M : mM} {L : mL} (hR : RI M L) {i g : Nat} (hi : i < 14) (hg1 : 1 ≤ g) (hg : g ≤ 4) (eg : M 10 4 = nI g) : cRu (bcm M i g) i = rRu M 56 g := by
  have hw := hR.ci.1.2.1
  obtain ⟨b1, b2, b3, b4, _⟩ := bcm_sp (M := M) (i := i) (g := g) hi hg1 hg (fun j hj => (hw j hj).2.2.2)
  have lqs : ∀ k, k < g → cLi M (99 + k) = rLi M (56 + k) ∧ M (99 + k) 3 = M 121 (56 + k) := fun k hk => (hR.giv k (by omega) (by rw [eg]; exact nI_lt hk (by omega))).2
  have mem : ∀ k, k ∈ List.range' 1 (g - 1) → k < g := fun k hk => by have := List.mem_range'_1.mp hk; omega
  unfold cRu rRu
  rw [b1, b3, b4, rPs_r hg1, rNs_r, (lqs 0 (by omega)).1, List.filter_congr (fun k hk => by rw [(lqs k (mem k hk)).2]), List.filter_congr (p := fun k => decide (¬ M (99 + k) 3 = 0)) (fun k hk => by rw [(lqs k (mem k hk)).2]), List.map_congr_left (fun k hk => (lqs k (mem k (List.mem_filter.mp hk).1)).1), List.map_congr_left (f := fun k => cLi M (99 + k)) (fun k hk => (lqs k (mem k (List.mem_filter.mp hk).1)).1)]
/-- the reference copies the given literals -/
theorem rcl_sp {j : Nat} (hj : j < 14) : ∀ (n i : Nat) (N : mM), i + n ≤ 4 → (∀ k, k < 118 ∨ 121 < k → (rcl j n i N) k = N k) ∧ ∀ y x, (y = 118 ∨ y = 119 ∨ y = 120 ∨ y = 121) → (rcl j n i N) y x = if 4 * j + i ≤ x ∧ x < 4 * j + i + n then N y (56 + (x - 4 * j)) else N y x
  | 0, i, N, _ => ⟨fun _ _ => rfl, fun y x _ => (if_neg (by omega)).symm⟩
  | n + 1, i, N, hn => by
    obtain ⟨a1, a2⟩ := rcl_sp hj n (i + 1) (rc1 N j i) (by omega)
    have r1 : ∀ k, k < 118 ∨ 121 < k → (rc1 N j i) k = N k := fun k hk => by
      unfold rc1 lat
      rw [up2_k (by omega), up2_k (by omega), up2_k (by omega), up2_k (by omega), up2_k (by omega)]
    have r2 : ∀ y x, (y = 118 ∨ y = 119 ∨ y = 120 ∨ y = 121) → (rc1 N j i) y x = if x = 4 * j + i then N y (56 + i) else N y x := by
      intro y x hy
      unfold rc1 lat
      by_cases e : x = 4 * j + i
      · subst e
        rw [if_pos rfl]
        rcases hy with rfl | rfl | rfl | rfl
        · rw [up2_k (by decide), up2_k (by decide), up2_k (by decide), up2_k (by decide), up2_s]
        · rw [up2_k (by decide), up2_k (by decide), up2_k (by decide), up2_s]
        · rw [up2_k (by decide), up2_k (by decide), up2_s]
        · rw [up2_s]
      · rw [if_neg e]
        rcases hy with rfl | rfl | rfl | rfl
        · rw [up2_k (by decide), up2_k (by decide), up2_k (by decide), up2_k (by decide), up2_j e]
        · rw [up2_k (by decide), up2_k (by decide), up2_k (by decide), up2_j e, up2_k (by decide)]
        · rw [up2_k (by decide), up2_k (by decide), up2_j e, up2_k (by decide), up2_k (by decide)]
        · rw [up2_j e, up2_j e, up2_k (by decide), up2_k (by decide), up2_k (by decide)]
    refine ⟨fun k hk => (a1 k hk).trans (r1 k hk), fun y x hy => ?_⟩
    show (rcl j n (i + 1) (rc1 N j i)) y x = _
    rw [a2 y x hy]
    by_cases h1 : 4 * j + (i + 1) ≤ x ∧ x < 4 * j + (i + 1) + n
    · rw [if_pos h1, if_pos (by omega), r2 y _ hy, if_neg (by omega)]
    · rw [if_neg h1, r2 y x hy]
      by_cases e : x = 4 * j + i
      · rw [if_pos e, if_pos (by omega)]
        congr 1
        omega
      · rw [if_neg e, if_neg (by omega)]
