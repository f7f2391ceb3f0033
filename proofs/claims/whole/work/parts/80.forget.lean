/-! strata of both sides; forget -/
def dRu (ρ : Ru) : Cst := fun h b n => h = ρ.1.1 ∧ ((n = 0 ∧ ∃ p ∈ ρ.2.1, p.1 = b) ∨ (n = 1 ∧ ∃ p ∈ ρ.2.2, p.1 = b))
theorem cDi_d {M : mM} {i h b n : Nat} : cDi M i h b n ↔ dRu (cRu M i) h b n := by
  constructor
  · rintro ⟨rfl, j, hj, rfl, rfl⟩
    refine ⟨rfl, ?_⟩
    unfold ng1
    by_cases h0 : M (15 + 6 * i + j) 3 = 0
    · rw [if_pos h0]; exact Or.inl ⟨rfl, _, cPos_mem.mpr ⟨j, hj, h0, rfl⟩, rfl⟩
    · rw [if_neg h0]; exact Or.inr ⟨rfl, _, cNeg_mem.mpr ⟨j, hj, h0, rfl⟩, rfl⟩
  · rintro ⟨rfl, ⟨rfl, p, hp, rfl⟩ | ⟨rfl, p, hp, rfl⟩⟩
    · obtain ⟨j, hj, h0, rfl⟩ := cPos_mem.mp hp
      exact ⟨rfl, j, hj, rfl, (if_pos h0).symm⟩
    · obtain ⟨j, hj, h0, rfl⟩ := cNeg_mem.mp hp
      exact ⟨rfl, j, hj, rfl, (if_neg h0).symm⟩
theorem cC_R {M : mM} {h b n : Nat} : cC M h b n ↔ ∃ ρ, cR M ρ ∧ dRu ρ h b n := by
  constructor
  · rintro ⟨i, hi, hH, hd⟩
    exact ⟨_, ⟨i, hi, hH, rfl⟩, cDi_d.mp hd⟩
  · rintro ⟨ρ, ⟨i, hi, hH, rfl⟩, hd⟩
    exact ⟨i, hi, hH, cDi_d.mpr hd⟩
theorem rDi_d {M : mM} {a m h b n : Nat} (hm : 1 ≤ m) : rDi M a m h b n ↔ dRu (rRu M a m) h b n := by
  have e : a + (m - (m - 1)) = a + 1 := by omega
  have mp : ∀ p, p ∈ rPs M a m (m - 1) ↔ ∃ x, a + 1 ≤ x ∧ x < a + 1 + (m - 1) ∧ M 121 x = 0 ∧ p = rLi M x := by
    intro p
    unfold rPs
    rw [e, List.mem_map]
    constructor
    · rintro ⟨x, hx, rfl⟩
      obtain ⟨h1, h2⟩ := List.mem_filter.mp hx
      have := List.mem_range'_1.mp h1
      exact ⟨x, by omega, by omega, of_decide_eq_true h2, rfl⟩
    · rintro ⟨x, h1, h2, h3, rfl⟩
      exact ⟨x, List.mem_filter.mpr ⟨List.mem_range'_1.mpr ⟨h1, h2⟩, decide_eq_true h3⟩, rfl⟩
  have mn : ∀ p, p ∈ rNs M a m ↔ ∃ x, a + 1 ≤ x ∧ x < a + 1 + (m - 1) ∧ ¬ M 121 x = 0 ∧ p = rLi M x := by
    intro p
    unfold rNs rNf
    rw [List.mem_map]
    constructor
    · rintro ⟨x, hx, rfl⟩
      obtain ⟨h1, h2⟩ := List.mem_filter.mp hx
      have := List.mem_range'_1.mp h1
      exact ⟨x, by omega, by omega, of_decide_eq_true h2, rfl⟩
    · rintro ⟨x, h1, h2, h3, rfl⟩
      exact ⟨x, List.mem_filter.mpr ⟨List.mem_range'_1.mpr ⟨h1, h2⟩, decide_eq_true h3⟩, rfl⟩
  constructor
  · rintro ⟨rfl, x, h1, h2, rfl, rfl⟩
    refine ⟨rfl, ?_⟩
    unfold ng1
    by_cases h0 : M 121 x = 0
    · rw [if_pos h0]; exact Or.inl ⟨rfl, rLi M x, (mp _).mpr ⟨x, h1, h2, h0, rfl⟩, rfl⟩
    · rw [if_neg h0]; exact Or.inr ⟨rfl, rLi M x, (mn _).mpr ⟨x, h1, h2, h0, rfl⟩, rfl⟩
  · rintro ⟨rfl, ⟨rfl, p, hp, rfl⟩ | ⟨rfl, p, hp, rfl⟩⟩
    · obtain ⟨x, h1, h2, h0, rfl⟩ := (mp p).mp hp
      exact ⟨rfl, x, h1, h2, rfl, (if_pos h0).symm⟩
    · obtain ⟨x, h1, h2, h0, rfl⟩ := (mn p).mp hp
      exact ⟨rfl, x, h1, h2, rfl, (if_neg h0).symm⟩
theorem cR_one {M MC : mM} {i : Nat} (hi : i < 14) (hW : ∀ j, j < 14 → wR M j) (hj : ∀ j, j < 14 → j ≠ i → cRo M MC j) (ρ : Ru) : cR MC ρ ↔ (∃ j, j < 14 ∧ j ≠ i ∧ ¬ M (12 + 6 * j) 4 = 0 ∧ ρ = cRu M j) ∨ (¬ MC (12 + 6 * i) 4 = 0 ∧ ρ = cRu MC i) := by
  constructor
  · rintro ⟨j, h14, hH, rfl⟩
    by_cases e : j = i
    · subst e; exact Or.inr ⟨hH, rfl⟩
    · have c := hj j h14 e
      rw [c _ (by omega) (by omega)] at hH
      exact Or.inl ⟨j, h14, e, hH, c.ru (rln_3 (hW j h14))⟩
  · rintro (⟨j, h14, e, hH, rfl⟩ | ⟨hH, rfl⟩)
    · have c := hj j h14 e
      exact ⟨j, h14, by rw [c _ (by omega) (by omega)]; exact hH, (c.ru (rln_3 (hW j h14))).symm⟩
    · exact ⟨i, hi, hH, rfl⟩
theorem rR_one {M MR : mM} {i : Nat} (hi : i < 14) (hj : ∀ j, j < 14 → j ≠ i → MR 116 j = M 116 j ∧ (¬ M 116 j = 0 → MR 117 j = M 117 j ∧ rRo M MR (4 * j) (rml M j) ∧ 1 ≤ rml M j)) (ρ : Ru) : rR MR ρ ↔ (∃ j, j < 14 ∧ j ≠ i ∧ ¬ M 116 j = 0 ∧ ρ = rRu M (4 * j) (rml M j)) ∨ (¬ MR 116 i = 0 ∧ ρ = rRu MR (4 * i) (rml MR i)) := by
  have key : ∀ j, j < 14 → j ≠ i → ¬ M 116 j = 0 → rRu MR (4 * j) (rml MR j) = rRu M (4 * j) (rml M j) := by
    intro j h14 e hu
    obtain ⟨_, h⟩ := hj j h14 e
    obtain ⟨a, b, c⟩ := h hu
    have em : rml MR j = rml M j := by unfold rml; rw [a]
    rw [em]
    exact b.ru c
  constructor
  · rintro ⟨j, h14, hu, rfl⟩
    by_cases e : j = i
    · subst e; exact Or.inr ⟨hu, rfl⟩
    · rw [(hj j h14 e).1] at hu
      exact Or.inl ⟨j, h14, e, hu, key j h14 e hu⟩
  · rintro (⟨j, h14, e, hu, rfl⟩ | ⟨hu, rfl⟩)
    · exact ⟨j, h14, by rw [(hj j h14 e).1]; exact hu, (key j h14 e hu).symm⟩
    · exact ⟨i, hi, hu, rfl⟩
/-- both sides find the same strata, or none -/
theorem rank_eq {Mc N : mM} {q : Int32} (hW : ∀ i, i < 14 → wR Mc i) (hC : Cok (cC Mc)) (hCC : ∀ h b n, cC Mc h b n ↔ rC N q h b n) (hN : ∀ i, i < 60 → rok N i) (h4 : ∀ j, j < 14 → ¬ N 116 j = 0 → rml N j ≤ 4) (hg : (N 109 8).toNatClampNeg ≤ 4) (t : Vl) : (∃ t' g, sty Mc 14 (z14 t) = some t' ∧ ¬ (rkR N q).1 = 0 ∧ (∀ r, r < 14 → t' r = nI (g r) ∧ (rkR N q).2 r = nI (g r) ∧ g r < 6) ∧ Sf (cR Mc) g) ∨ (sty Mc 14 (z14 t) = none ∧ (rkR N q).1 = 0) := by
  have eC : rC N q = cC Mc := by
    funext h b n
    exact propext (hCC h b n).symm
  obtain ⟨s1, s2⟩ := sty_ok hW hC t
  have hk := rkR_ok (M := N) (q := q) hN h4 hg (by rw [eC]; exact hC)
  rw [eC] at hk
  cases hs : sty Mc 14 (z14 t) with
  | none =>
    right
    refine ⟨rfl, ?_⟩
    rcases hk with ⟨k1, _⟩ | ⟨_, g, k2, _⟩
    · exact k1
    · exact absurd ⟨g, k2⟩ (s2 hs)
  | some t' =>
    left
    obtain ⟨g, g1, g2, g3⟩ := s1 t' hs
    rcases hk with ⟨_, k1⟩ | ⟨k1, g', k2, k3, k4⟩
    · exact absurd ⟨g, g1⟩ k1
    · refine ⟨t', g, rfl, k1, fun r hr => ⟨g2 r hr, ?_, ?_⟩, Rkg_Sf.mp g1⟩
      · have : g' r = g r := Nat.le_antisymm (k4 g g1 r) (g3 g' k2 r)
        rw [k3 r hr, this]
      · have := lst_5 hC g1 g3 r
        omega
theorem k_forget (x0 : Int32) : Clp RI (po_PF_forget [.ref 0, .int x0]) (po_PM_forget [.ref 109, .int x0]) := by
  intro M L hR r μ1 hq
  obtain ⟨q1, q2⟩ := hq
  by_cases hc : 6 ≤ x0 ∧ x0 < 14 ∧ ¬ M (12 + 6 * x0.toNatClampNeg) 4 = 0
  · obtain ⟨i, hi, rfl⟩ := rng_n (n := 14) (by decide) ⟨Int32.le_trans (by decide) hc.1, hc.2.1⟩
    have ecl : (nI i).toNatClampNeg = i := nI_clamp (n := i) (by omega)
    obtain ⟨rfl, q3, q4⟩ := q2 hc _ rfl
    have q3 : ∀ t, sty (up2 M (12 + 6 * (nI i).toNatClampNeg) 4 0) 14 (z14 ((up2 M (12 + 6 * (nI i).toNatClampNeg) 4 0) 97)) = some t → ∃ ρ, μ1 = folM (upr (upr (up2 M (12 + 6 * (nI i).toNatClampNeg) 4 0) 97 t) 96 t) L (1 <<< (M (13 + 6 * (nI i).toNatClampNeg) 0 &&& 31)) ρ := q3
    rw [ecl] at q3
    have hH : ¬ M (12 + 6 * i) 4 = 0 := by rw [← ecl]; exact hc.2.2
    have hu : ¬ M 116 i = 0 := by rw [← hR.the i hi]; exact hH
    have hW := hR.ci.1.1
    generalize hM1 : up2 M (12 + 6 * i) 4 0 = M1 at q3
    have m1 : ∀ k, k ≠ 12 + 6 * i → M1 k = M k := fun k hk => by rw [← hM1, up2_k hk]
    have m1s : M1 (12 + 6 * i) 4 = 0 := by rw [← hM1, up2_s]
    have cro1 : ∀ j, j < 14 → j ≠ i → cRo M M1 j := fun j hj e k h1 h2 => m1 k (by omega)
    have hW1 : ∀ j, j < 14 → wR M1 j := by
      rw [← hM1]
      exact (WQ_up ⟨hW, hR.ci.1.2.1⟩ hi (Or.inr (Or.inr ⟨rfl, Or.inl rfl⟩))).1
    have cR1 : ∀ ρ, cR M1 ρ ↔ ∃ j, j < 14 ∧ j ≠ i ∧ ¬ M (12 + 6 * j) 4 = 0 ∧ ρ = cRu M j := fun ρ => by
      rw [cR_one hi hW cro1 ρ]
      exact ⟨fun z => z.elim id (fun z => absurd m1s z.1), fun z => Or.inl z⟩
    have hCok : Cok (cC M1) := Cok_of hW1 (fun j hj hH' => by
      have e : j ≠ i := fun z => hH' (z ▸ m1s)
      have c := cro1 j hj e
      rw [c _ (by omega) (by omega)] at hH'
      have q := hR.rul j hj (by rw [← hR.the j hj]; exact hH')
      rw [c.hd, c.ln]
      intro h9 j' hj'
      have h3 := rln_3 (hW j hj)
      have e2 := c (15 + 6 * j + j') (by omega) (by omega)
      rw [cLi_c e2, e2]
      exact q.lb h9 j' hj')
    -- strata there are: the old ones
    have hold : Sf (cR M1) (fun r => (M 114 r).toNatClampNeg) := by
      intro ρ hρ
      obtain ⟨j, hj, _, hHj, rfl⟩ := (cR1 ρ).mp hρ
      exact hR.sfr _ ((cR_rR hR.the hR.rul _).mp ⟨j, hj, hHj, rfl⟩)
    obtain ⟨t, ht⟩ : ∃ t, sty M1 14 (z14 (M1 97)) = some t := by
      cases hs : sty M1 14 (z14 (M1 97)) with
      | some t => exact ⟨t, rfl⟩
      | none => exact absurd ⟨_, Rkg_Sf.mpr hold⟩ ((sty_ok hW1 hCok (M1 97)).2 hs)
    obtain ⟨ρ, e1⟩ := q3 t ht
    generalize hMC : upr (upr M1 97 t) 96 t = MC at e1
    have mc : ∀ k, k ≠ 96 → k ≠ 97 → MC k = M1 k := fun k a b => by rw [← hMC, upr_k a, upr_k b]
    have mc96 : MC 96 = t := by rw [← hMC, upr_s]
    generalize hxx : (1 : Int32) <<< (M (13 + 6 * i) 0 &&& 31) = xx at e1
    have hxr : xx = 1 <<< (nI (rhd M i) &&& 31) := by rw [← hxx, (rhd_14 (hW i hi)).2]
    generalize hMA : up2 MC 0 5 (cch (upr (upr L 9 (L 8)) 8 (fll MC L xx)) 14) = MA
    generalize hLA : up2 (upr (upr L 9 (L 8)) 8 (fll MC L xx)) 103 1 ρ = LA
    have e1 : μ1 = (131, MA, LA, TT) := by rw [e1, ← hMA, ← hLA]; rfl
    subst e1
    have ma : ∀ k, k ≠ 0 → MA k = MC k := fun k hk => by rw [← hMA, up2_k hk]
    have l_ : ∀ k, k ≠ 8 → k ≠ 9 → k ≠ 103 → LA k = L k := fun k a b c => by rw [← hLA, up2_k c, upr_k a, upr_k b]
    have l8 : LA 8 = fll MC L xx := by rw [← hLA, up2_k (by decide), upr_s]
    have mam : ∀ k, k ≠ 0 → k ≠ 96 → k ≠ 97 → k ≠ 12 + 6 * i → MA k = M k := fun k a b c d => (ma k a).trans ((mc k b c).trans (m1 k d))
    have ma9 : ∀ k, 109 ≤ k → MA k = M k := fun k hk => mam k (by omega) (by omega) (by omega) (by omega)
    have hpiA : PI MA := hR.pi.cg (by rw [ma9 109 (by omega)]) (by rw [ma9 109 (by omega)]; exact hR.pi.2.1) (by rw [ma9 109 (by omega)]; exact hR.pi.2.2.1) (fun a h _ _ _ _ _ _ => ma9 a (by omega))
    refine ⟨_, MA, LA, rfl, rfl, hpiA, fun r2 μ2 hq2 => ?_⟩
    obtain ⟨rfl, M', hS, rfl⟩ := hq2.1 ⟨hc.1, hc.2.1, by show ¬ MA 116 (nI i).toNatClampNeg = 0; rw [ecl, ma9 116 (by omega)]; exact hu⟩
    refine ⟨rfl, _, _, rfl, ?_⟩
    have hS : Sm (rkM (up2 MA 116 (nI i).toNatClampNeg 0) 14) M' := hS
    show RI (up2 M' 109 7 (dct (derL (rkM (up2 MA 116 (nI i).toNatClampNeg 0) 14) LA) 14 0 0)) (derL (rkM (up2 MA 116 (nI i).toNatClampNeg 0) 14) LA)
    rw [ecl] at hS ⊢
    generalize hN : up2 MA 116 i 0 = N at hS ⊢
    have n_ : ∀ k, k ≠ 116 → N k = MA k := fun k hk => by rw [← hN, up2_k hk]
    have n116 : ∀ j, j ≠ i → N 116 j = M 116 j := fun j hj => by rw [← hN, up2_j hj, ma9 116 (by omega)]
    have n116i : N 116 i = 0 := by rw [← hN, up2_s]
    have piN : PI N := by rw [← hN]; exact hpiA.u0
    have nr : ∀ k, 109 ≤ k → k ≠ 116 → N k = M k := fun k h1 h2 => (n_ k h2).trans (ma9 k h1)
    have roN : ∀ a m, rRo M N a m := fun a m y _ _ => ⟨by rw [nr 121 (by omega) (by omega)], rLi_c (by rw [nr 118 (by omega) (by omega)]) (by rw [nr 119 (by omega) (by omega)]) (by rw [nr 120 (by omega) (by omega)]) (by rw [nr 110 (by omega) (by omega)])⟩
    have rml_N : ∀ j, rml N j = rml M j := fun j => by unfold rml; rw [nr 117 (by omega) (by omega)]
    have hCC : ∀ h b n, cC M1 h b n ↔ rC N 14 h b n := by
      intro h b n
      rw [cC_R]
      constructor
      · rintro ⟨ρ', hρ, hd⟩
        obtain ⟨j, hj, e, hHj, rfl⟩ := (cR1 ρ').mp hρ
        have huj : ¬ M 116 j = 0 := by rw [← hR.the j hj]; exact hHj
        have l := hR.lns hj huj
        rw [(hR.rul j hj huj).ru, ← (roN (4 * j) (rml M j)).ru l.1, ← rml_N j] at hd
        refine Or.inl ⟨j, hj, by rw [n116 j e]; exact huj, ?_, (rDi_d (by rw [rml_N]; exact l.1)).mpr hd⟩
        intro z
        have := (nI_eq (a := j) (b := 14) (by omega) (by decide)).mp z
        omega
      · rintro (⟨j, hj, huj, _, hd⟩ | ⟨z, _⟩)
        · have e : j ≠ i := fun z => huj (z ▸ n116i)
          rw [n116 j e] at huj
          have l := hR.lns hj huj
          rw [rDi_d (by rw [rml_N]; exact l.1), rml_N, (roN (4 * j) (rml M j)).ru l.1, ← (hR.rul j hj huj).ru] at hd
          exact ⟨_, (cR1 _).mpr ⟨j, hj, e, by rw [hR.the j hj]; exact huj, rfl⟩, hd⟩
        · exact absurd (Int32.le_refl _) z
    have g8 : (N 109 8).toNatClampNeg ≤ 4 := by
      obtain ⟨g, hg, e⟩ := piN.2.1
      rw [e, nI_clamp (n := g) (by omega)]; exact hg
    rcases rank_eq hW1 hCok hCC (fun k hk => (piN.2.2.2.2.2.1 k hk).1) (fun j hj huj => by
      have e : j ≠ i := fun z => huj (z ▸ n116i)
      rw [n116 j e] at huj
      rw [rml_N]; exact (hR.lns hj huj).2) g8 (M1 97) with ⟨t', g, k1, k2, k3, k4⟩ | ⟨k1, _⟩
    · rw [ht] at k1
      cases k1
      generalize hMR : rkM N 14 = MR at hS ⊢
      have mr : ∀ k, k ≠ 114 → k ≠ 115 → MR k = N k := fun k a b => by rw [← hMR]; exact (upr_k a).trans (upr_k b)
      have mr114 : ∀ s, s < 14 → MR 114 s = nI (g s) := fun s hs => by
        rw [← hMR]
        unfold rkM
        rw [upr_s, if_neg k2]
        refine (if_pos hs).trans ?_
        exact (k3 s hs).2.1
      have mrm : ∀ k, k ≠ 0 → k ≠ 96 → k ≠ 97 → k ≠ 12 + 6 * i → k ≠ 114 → k ≠ 115 → k ≠ 116 → MR k = M k := fun k a b c d e f h => (mr k e f).trans ((n_ k h).trans (mam k a b c d))
      have mr96 : MR 96 = t := (mr 96 (by decide) (by decide)).trans ((n_ 96 (by decide)).trans ((ma 96 (by decide)).trans mc96))
      have mr12 : MR (12 + 6 * i) = M1 (12 + 6 * i) := (mr _ (by omega) (by omega)).trans ((n_ _ (by omega)).trans ((ma _ (by omega)).trans (mc _ (by omega) (by omega))))
      have mr116 : MR 116 = N 116 := mr 116 (by decide) (by decide)
      have r_ : ∀ k, 109 ≤ k → k ≠ 114 → k ≠ 115 → k ≠ 116 → MR k = M k := fun k h1 h2 h3 h4 => mrm k (by omega) (by omega) (by omega) (by omega) h2 h3 h4
      have ro : ∀ a m, rRo M MR a m := fun a m y _ _ => ⟨by rw [r_ 121 (by omega) (by omega) (by omega) (by omega)], rLi_c (by rw [r_ 118 (by omega) (by omega) (by omega) (by omega)]) (by rw [r_ 119 (by omega) (by omega) (by omega) (by omega)]) (by rw [r_ 120 (by omega) (by omega) (by omega) (by omega)]) (by rw [r_ 110 (by omega) (by omega) (by omega) (by omega)])⟩
      have croR : ∀ j, j < 14 → j ≠ i → cRo M MR j := fun j hj e k h1 h2 => mrm k (by omega) (by omega) (by omega) (by omega) (by omega) (by omega) (by omega)
      have croC : ∀ j, j < 14 → j ≠ i → cRo M MC j := fun j hj e k h1 h2 => (mc k (by omega) (by omega)).trans (m1 k (by omega))
      have croC1 : ∀ j, j < 14 → cRo M1 MC j := fun j hj k h1 h2 => mc k (by omega) (by omega)
      have croR1 : ∀ j, j < 14 → cRo M1 MR j := fun j hj k h1 h2 => (mr k (by omega) (by omega)).trans ((n_ k (by omega)).trans ((ma k (by omega)).trans (mc k (by omega) (by omega))))
      have cRC : ∀ ρ', cR MC ρ' ↔ ∃ j, j < 14 ∧ j ≠ i ∧ ¬ M (12 + 6 * j) 4 = 0 ∧ ρ' = cRu M j := fun ρ' => by
        rw [cR_one hi hW croC ρ']
        have : MC (12 + 6 * i) 4 = 0 := by rw [mc _ (by omega) (by omega)]; exact m1s
        exact ⟨fun z => z.elim id (fun z => absurd this z.1), fun z => Or.inl z⟩
      have rRR : ∀ ρ', rR MR ρ' ↔ ∃ j, j < 14 ∧ j ≠ i ∧ ¬ M 116 j = 0 ∧ ρ' = rRu M (4 * j) (rml M j) := fun ρ' => by
        rw [rR_one hi (fun j hj e => ⟨by rw [mr116]; exact n116 j e, fun huj => ⟨by rw [r_ 117 (by omega) (by omega) (by omega) (by omega)], ro _ _, (hR.lns hj huj).1⟩⟩) ρ']
        have : MR 116 i = 0 := by rw [mr116]; exact n116i
        exact ⟨fun z => z.elim id (fun z => absurd this z.1), fun z => Or.inl z⟩
      have same : ∀ ρ', cR MC ρ' ↔ rR MR ρ' := by
        intro ρ'
        rw [cRC, rRR]
        constructor
        · rintro ⟨j, hj, e, hHj, rfl⟩
          rw [hR.the j hj] at hHj
          exact ⟨j, hj, e, hHj, (hR.rul j hj hHj).ru⟩
        · rintro ⟨j, hj, e, huj, rfl⟩
          exact ⟨j, hj, e, by rw [hR.the j hj]; exact huj, (hR.rul j hj huj).ru.symm⟩
      have rqR : ∀ j, j < 14 → ¬ MR 116 j = 0 → RQ MR j := fun j hj huj => by
        have e : j ≠ i := fun z => huj (by rw [z, mr116]; exact n116i)
        rw [mr116, n116 j e] at huj
        exact (hR.rul j hj huj).c (rln_3 (hW j hj)) (croR j hj e) (by rw [r_ 117 (by omega) (by omega) (by omega) (by omega)]) (ro _ _)
      have rqC : ∀ j, j < 14 → ¬ MC (12 + 6 * j) 4 = 0 → cS MC j ∧ cRd MC j := fun j hj hHj => by
        have e : j ≠ i := fun z => hHj (by rw [z, mc _ (by omega) (by omega)]; exact m1s)
        rw [croC j hj e _ (by omega) (by omega), hR.the j hj] at hHj
        have := (hR.rul j hj hHj).c (M' := MC) (rln_3 (hW j hj)) (croC j hj e) (by rw [mc 117 (by omega) (by omega), m1 117 (by omega)]) (fun y _ _ => ⟨by rw [mc 121 (by omega) (by omega), m1 121 (by omega)], rLi_c (by rw [mc 118 (by omega) (by omega), m1 118 (by omega)]) (by rw [mc 119 (by omega) (by omega), m1 119 (by omega)]) (by rw [mc 120 (by omega) (by omega), m1 120 (by omega)]) (by rw [mc 110 (by omega) (by omega), m1 110 (by omega)])⟩)
        exact ⟨cSf_S this.S, this.rd⟩
      have hokC : cOK MC := ⟨fun j hj => wR_c (croC1 j hj) (hW1 j hj), by rw [mc 104 (by omega) (by omega), m1 104 (by omega)]; exact hR.ci.2.1, rqC⟩
      have q_ : ∀ k, 1 ≤ k → k < 109 → (k < 12 ∨ 98 ≤ k) → MR k = M k := fun k h1 h2 h3 => mrm k (by omega) (by omega) (by omega) (by omega) (by omega) (by omega) (by omega)
      have hP : RP MR := by
        refine RP.mk ?_ ?_ ?_ ?_ ?_ ?_ ?_ ?_ ?_ rqR ?_ ?_ ?_ ?_ ?_ ?_ ?_
        · obtain ⟨⟨w1, w2, g', w3, w4⟩, v, c, m, he, li⟩ := hR.ci
          refine ⟨⟨fun j hj => wR_c (croR1 j hj) (hW1 j hj), fun j hj => fr_wL (q_ _ (by omega) (by omega) (by omega)) (w2 j hj), g', w3, by rw [q_ 10 (by omega) (by omega) (by omega)]; exact w4⟩, by rw [q_ 104 (by omega) (by omega) (by omega)]; exact v, by rw [q_ 5 (by omega) (by omega) (by omega)]; exact c, by rw [q_ 105 (by omega) (by omega) (by omega)]; exact m, by rw [q_ 106 (by omega) (by omega) (by omega)]; exact he, ?_⟩
          rw [q_ 2 (by omega) (by omega) (by omega), q_ 3 (by omega) (by omega) (by omega), q_ 4 (by omega) (by omega) (by omega)]; exact li
        · rw [← hMR]; exact piN.rk
        · rw [r_ 109 (by omega) (by omega) (by omega) (by omega), q_ 5 (by omega) (by omega) (by omega)]; exact hR.cnt
        · rw [q_ 5 (by omega) (by omega) (by omega), q_ 6 (by omega) (by omega) (by omega), r_ 110 (by omega) (by omega) (by omega) (by omega)]; exact hR.ari
        · rw [r_ 110 (by omega) (by omega) (by omega) (by omega)]; exact hR.ar9
        · rw [r_ 109 (by omega) (by omega) (by omega) (by omega), q_ 10 (by omega) (by omega) (by omega)]; exact hR.gvn
        · intro j hj hn
          rw [q_ 10 (by omega) (by omega) (by omega)] at hn
          have := hR.giv j hj hn
          have e9 := q_ (99 + j) (by omega) (by omega) (by omega)
          unfold LQ at this ⊢
          rw [cLi_c e9, e9, (ro (56 + j) 1 (56 + j) (Nat.le_refl _) (by omega)).2, r_ 118 (by omega) (by omega) (by omega) (by omega), r_ 121 (by omega) (by omega) (by omega) (by omega)]
          exact this
        · rw [q_ 10 (by omega) (by omega) (by omega), r_ 121 (by omega) (by omega) (by omega) (by omega), r_ 118 (by omega) (by omega) (by omega) (by omega)]; exact hR.gv0
        · intro j hj
          rw [mr116]
          by_cases e : j = i
          · subst e; rw [mr12, m1s, n116i]
          · rw [croR j hj e _ (by omega) (by omega), n116 j e]; exact hR.the j hj
        · intro s hs
          rw [mr96, mr114 s hs, (k3 s hs).1]
          exact ⟨rfl, g s, (k3 s hs).2.2, rfl⟩
        · intro ρ' hρ
          have hρ' := hρ
          rw [← same ρ', cRC] at hρ
          rw [← cR1] at hρ
          obtain ⟨s1, s2⟩ := k4 ρ' hρ
          have h14 : ∀ s, s < 14 → (MR 114 s).toNatClampNeg = g s := fun s hs => by
            rw [mr114 s hs]
            have := (k3 s hs).2.2
            exact nI_clamp (n := g s) (by omega)
          obtain ⟨j, hj, hHj, rfl⟩ := hρ
          obtain ⟨tp, tn⟩ := tmO_p (hW1 j hj)
          have hh := (rhd_14 (hW1 j hj)).1
          refine ⟨fun p hp => ?_, fun p hp => ?_⟩
          · show (MR 114 p.1).toNatClampNeg ≤ (MR 114 (rhd M1 j)).toNatClampNeg
            rw [h14 _ (tp p hp).1, h14 _ hh]; exact s1 p hp
          · show (MR 114 p.1).toNatClampNeg < (MR 114 (rhd M1 j)).toNatClampNeg
            rw [h14 _ (tn p hp).1, h14 _ hh]; exact s2 p hp
        · rw [q_ 2 (by omega) (by omega) (by omega), q_ 3 (by omega) (by omega) (by omega), q_ 4 (by omega) (by omega) (by omega), r_ 122 (by omega) (by omega) (by omega) (by omega), r_ 123 (by omega) (by omega) (by omega) (by omega), r_ 124 (by omega) (by omega) (by omega) (by omega)]; exact hR.lin
        · rw [q_ 105 (by omega) (by omega) (by omega), r_ 109 (by omega) (by omega) (by omega) (by omega)]; exact hR.mad
        · rw [q_ 106 (by omega) (by omega) (by omega), r_ 125 (by omega) (by omega) (by omega) (by omega)]; exact hR.hel
        · rw [q_ 107 (by omega) (by omega) (by omega), r_ 126 (by omega) (by omega) (by omega) (by omega)]; exact hR.sit
        · rw [q_ 108 (by omega) (by omega) (by omega), r_ 127 (by omega) (by omega) (by omega) (by omega)]; exact hR.fie
      have e110 := r_ 110 (by omega) (by omega) (by omega) (by omega)
      refine fin_RI (MC := MC) (LC := L) (x := xx) (R0 := cR M) (F0 := ipc (L 7)) hP hS hokC (by rw [mc96, mr96]) same (by rw [hxr]; exact B14_one (rhd_14 (hW i hi)).1) hR.sbc (fun _ _ _ _ => Iff.rfl) (fun s hs c z => hs z.1) ?_ hR.c14 ?_ ?_ ?_ ?_ l8 ?_
      · intro ρ' hne
        rw [cRC]
        constructor
        · rintro ⟨j, hj, _, hHj, rfl⟩
          exact ⟨j, hj, hHj, rfl⟩
        · rintro ⟨j, hj, hHj, rfl⟩
          refine ⟨j, hj, fun e => hne ?_, hHj, rfl⟩
          subst e
          rw [hxr]
          show ib (1 <<< (nI (rhd M j) &&& 31)) (rhd M j) = true
          have := (rhd_14 (hW j hj)).1
          rw [ib_one _ (by omega) _ (by omega)]
          simp
      · rw [l_ 111 (by decide) (by decide) (by decide)]; exact EQs_c e110 hR.fct
      · rw [l_ 112 (by decide) (by decide) (by decide)]; exact EQs_c e110 hR.tup
      · rw [r_ 109 (by omega) (by omega) (by omega) (by omega), ipr_c e110, l_ 111 (by decide) (by decide) (by decide)]; exact hR.emf
      · exact l_ 7 (by decide) (by decide) (by decide)
      · rw [mr 0 (by decide) (by decide), n_ 0 (by decide), ← hMA, up2_s]
    · rw [ht] at k1
      cases k1
  · obtain ⟨rfl, rfl⟩ := q1 hc
    refine ⟨_, M, L, rfl, rfl, hR.pi, fun r2 μ2 hq2 => ?_⟩
    have hc2 : ¬ (6 ≤ x0 ∧ x0 < 14 ∧ ¬ M 116 x0.toNatClampNeg = 0) := by
      rintro ⟨z1, z2, z3⟩
      apply hc
      refine ⟨z1, z2, ?_⟩
      obtain ⟨i, hi, rfl⟩ := rng_n (n := 14) (by decide) ⟨Int32.le_trans (by decide) z1, z2⟩
      rw [nI_clamp (n := i) (by omega)] at z3 ⊢
      rw [hR.the i hi]; exact z3
    obtain ⟨rfl, rfl⟩ := hq2.2 hc2
    exact ⟨rfl, M, L, rfl, hR⟩
