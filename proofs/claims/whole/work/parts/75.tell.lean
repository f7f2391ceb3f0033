/-! relation, literal -/
theorem rR_c {M M' : mM} (h116 : ∀ i, i < 14 → M' 116 i = M 116 i) (h : ∀ i, i < 14 → ¬ M 116 i = 0 → M' 117 i = M 117 i ∧ rRo M M' (4 * i) (rml M i) ∧ 1 ≤ rml M i) : rR M' = rR M := by
  have key : ∀ i, i < 14 → ¬ M 116 i = 0 → rRu M' (4 * i) (rml M' i) = rRu M (4 * i) (rml M i) := by
    intro i hi hu
    obtain ⟨a, b, c⟩ := h i hi hu
    have em : rml M' i = rml M i := by unfold rml; rw [a]
    rw [em]
    exact b.ru c
  funext ρ
  apply propext
  constructor
  · rintro ⟨i, hi, hu, rfl⟩
    rw [h116 i hi] at hu
    exact ⟨i, hi, hu, key i hi hu⟩
  · rintro ⟨i, hi, hu, rfl⟩
    exact ⟨i, hi, by rw [h116 i hi]; exact hu, (key i hi hu).symm⟩
theorem RI.rel {M : mM} {L : mL} (h : RI M L) {n : Nat} (hn : M 109 0 = nI n) (hn14 : n ≤ 14) {x : Nat} (hx : x < 60) : (M 118 x).toNatClampNeg < n := by
  obtain ⟨a, b⟩ := h.pi.2.2.2.2.2.1 x hx
  have e := vp_nI a.1
  rw [hn, e] at b
  have := cl_lt a.1
  exact (nI_lt_iff (by omega) (by omega)).mp b
theorem RI.lns {M : mM} {L : mL} (h : RI M L) {i : Nat} (hi : i < 14) (hu : ¬ M 116 i = 0) : 1 ≤ rml M i ∧ rml M i ≤ 4 := by
  have l := (h.rul i hi hu).ln
  have h3 := rln_3 (h.ci.1.1 i hi)
  omega
theorem rel_new {M : mM} {L : mL} (hR : RI M L) {n : Nat} (h9 : 9 ≤ n) (hn14 : n < 14) (e5 : M 5 4 = nI n) {x : Int32} (hx : x = 1 ∨ x = 2) : RI (up2 (up2 (up2 (up2 M 6 n x) 5 4 (nI n + 1)) 110 n x) 109 0 (nI n + 1)) L := by
  have e109 : M 109 0 = nI n := hR.cnt.trans e5
  have ecl : (M 109 0).toNatClampNeg = n := by rw [e109]; exact nI_clamp (n := n) (by omega)
  generalize hM' : up2 (up2 (up2 (up2 M 6 n x) 5 4 (nI n + 1)) 110 n x) 109 0 (nI n + 1) = M'
  have q : ∀ k, k ≠ 5 → k ≠ 6 → k ≠ 109 → k ≠ 110 → M' k = M k := fun k h1 h2 h3 h4 => by
    rw [← hM', up2_k h3, up2_k h4, up2_k h1, up2_k h2]
  have r5 : M' 5 4 = nI (n + 1) := by
    rw [← hM', up2_k (by decide), up2_k (by decide), up2_s, nI_succ]
  have r109 : M' 109 0 = nI (n + 1) := by rw [← hM', up2_s, nI_succ]
  have r109' : ∀ j, j ≠ 0 → M' 109 j = M 109 j := fun j hj => by
    rw [← hM', up2_j hj, up2_k (by decide), up2_k (by decide), up2_k (by decide)]
  have r6 : M' 6 = upd (M 6) n x := by
    rw [← hM', up2_k (by decide), up2_k (by decide), up2_k (by decide), up2_r]
  have r110 : M' 110 = upd (M 110) n x := by
    rw [← hM', up2_k (by decide), up2_r, up2_k (by decide), up2_k (by decide)]
  have r110o : ∀ r, r ≠ n → M' 110 r = M 110 r := fun r hr => by rw [r110, upd_o hr]
  have ro : ∀ a m, a + m ≤ 60 → rRo M M' a m := by
    intro a m ham y h1 h2
    have := hR.rel e109 (by omega) (show y < 60 by omega)
    exact ⟨by rw [q 121 (by decide) (by decide) (by decide) (by decide)], rLi_c (by rw [q 118 (by decide) (by decide) (by decide) (by decide)]) (by rw [q 119 (by decide) (by decide) (by decide) (by decide)]) (by rw [q 120 (by decide) (by decide) (by decide) (by decide)]) (r110o _ (by omega))⟩
  have eR : rR M' = rR M := rR_c (fun i _ => by rw [q 116 (by decide) (by decide) (by decide) (by decide)]) (fun i hi hu => by
    have := hR.lns hi hu
    exact ⟨by rw [q 117 (by decide) (by decide) (by decide) (by decide)], ro _ _ (by omega), this.1⟩)
  have ipE : ∀ (S : Nat → Int64), (∀ c, ¬ ipr M S n c) → ipr M' S = ipr M S := by
    intro S hno
    funext r c
    by_cases e : r = n
    · subst e
      apply propext
      constructor
      · rintro ⟨hr, t, ht, hb, _⟩
        exact absurd ⟨hr, t, ht, hb, rfl⟩ (hno (cel M r t))
      · intro z; exact absurd z (hno c)
    · unfold ipr cel
      rw [r110o r e]
  have rbE : ∀ (S : Nat → Int64), (∀ c, ¬ ipr M S n c) → RB M S → RB M' S := by
    intro S hno hB r hr t ht hb
    by_cases e : r = n
    · subst e
      have := (hB r hr t ht hb).1
      exact absurd ⟨hr, t, this, hb, rfl⟩ (hno (cel M r t))
    · rw [r110o r e]; exact hB r hr t ht hb
  have nf : ∀ c, ¬ ipr M (L 111) n c := hR.emf n (by omega)
  have nt : ∀ c, ¬ ipr M (L 112) n c := hR.emt n (by omega)
  refine RI.mk ?_ ?_ ?_ ?_ ?_ ?_ ?_ ?_ ?_ ?_ ?_ ?_ ?_ ?_ ?_ ?_ ?_ ?_ ?_ ?_ ?_ ?_ ?_
  · obtain ⟨⟨w1, w2, g, w3, w4⟩, v, c, m, he, li⟩ := hR.ci
    refine ⟨⟨fun i hi => wR_c (fun k h1 h2 => q k (by omega) (by omega) (by omega) (by omega)) (w1 i hi), fun j hj => fr_wL (q _ (by omega) (by omega) (by omega) (by omega)) (w2 j hj), g, w3, by rw [q 10 (by omega) (by omega) (by omega) (by omega)]; exact w4⟩, by rw [q 104 (by omega) (by omega) (by omega) (by omega)]; exact v, ⟨n + 1, by omega, by omega, r5⟩, by rw [q 105 (by omega) (by omega) (by omega) (by omega)]; exact m, by rw [q 106 (by omega) (by omega) (by omega) (by omega)]; exact he, ?_⟩
    rw [q 2 (by omega) (by omega) (by omega) (by omega), q 3 (by omega) (by omega) (by omega) (by omega), q 4 (by omega) (by omega) (by omega) (by omega)]; exact li
  · obtain ⟨p1, p2, p3, p4, p5, p6, p7, p8⟩ := hR.pi
    refine ⟨⟨n + 1, by omega, by omega, r109⟩, by rw [r109' 8 (by decide)]; exact p2, by rw [r109' 19 (by decide)]; exact p3, by rw [q 116 (by decide) (by decide) (by decide) (by decide)]; exact p4, ?_, fun i hi => ?_, ?_, ?_⟩
    · rw [q 116 (by decide) (by decide) (by decide) (by decide), q 117 (by decide) (by decide) (by decide) (by decide)]; exact p5
    · obtain ⟨a, b⟩ := p6 i hi
      have hrel := hR.rel e109 (by omega) hi
      unfold rok at a ⊢
      rw [q 118 (by decide) (by decide) (by decide) (by decide), q 119 (by decide) (by decide) (by decide) (by decide), q 120 (by decide) (by decide) (by decide) (by decide), q 121 (by decide) (by decide) (by decide) (by decide), r110o _ (by omega)]
      refine ⟨a, ?_⟩
      rw [r109]
      rw [e109] at b
      exact Int32.lt_trans b (nI_lt (by omega) (by omega))
    · rw [q 125 (by decide) (by decide) (by decide) (by decide)]; exact p7
    · rw [q 122 (by decide) (by decide) (by decide) (by decide), q 123 (by decide) (by decide) (by decide) (by decide), q 124 (by decide) (by decide) (by decide) (by decide)]; exact p8
  · rw [r109, r5]
  · intro r hr hlt
    rw [r5] at hlt
    have hlt := (nI_lt_iff (by omega) (by omega)).mp hlt
    by_cases e : r = n
    · subst e
      rw [r6, r110, upd_s, upd_s]
      exact ⟨rfl, hx⟩
    · rw [r6, r110, upd_o e, upd_o e]
      exact hR.ari r hr (by rw [e5]; exact nI_lt (by omega) (by omega))
  · intro r hr
    rw [r110o r (by omega)]; exact hR.ar9 r hr
  · rw [r109' 8 (by decide), q 10 (by omega) (by omega) (by omega) (by omega)]; exact hR.gvn
  · intro j hj hlt
    rw [q 10 (by omega) (by omega) (by omega) (by omega)] at hlt
    have := hR.giv j hj hlt
    unfold LQ at this ⊢
    rw [cLi_c (q (99 + j) (by omega) (by omega) (by omega) (by omega)), q (99 + j) (by omega) (by omega) (by omega) (by omega), (ro (56 + j) 1 (by omega) (56 + j) (Nat.le_refl _) (by omega)).2, q 118 (by decide) (by decide) (by decide) (by decide), q 121 (by decide) (by decide) (by decide) (by decide)]
    exact this
  · rw [q 10 (by omega) (by omega) (by omega) (by omega), q 121 (by decide) (by decide) (by decide) (by decide), q 118 (by decide) (by decide) (by decide) (by decide)]; exact hR.gv0
  · intro i hi
    rw [q (12 + 6 * i) (by omega) (by omega) (by omega) (by omega), q 116 (by decide) (by decide) (by decide) (by decide)]; exact hR.the i hi
  · intro i hi hu
    rw [q 116 (by decide) (by decide) (by decide) (by decide)] at hu
    have := hR.lns hi hu
    exact (hR.rul i hi hu).c (rln_3 (hR.ci.1.1 i hi)) (fun k h1 h2 => q k (by omega) (by omega) (by omega) (by omega)) (by rw [q 117 (by decide) (by decide) (by decide) (by decide)]) (ro _ _ (by omega))
  · rw [q 96 (by decide) (by decide) (by decide) (by decide), q 114 (by decide) (by decide) (by decide) (by decide)]; exact hR.str
  · rw [eR, q 114 (by decide) (by decide) (by decide) (by decide)]; exact hR.sfr
  · exact ⟨fun r c => by rw [ipE _ nf]; exact hR.fct.1 r c, rbE _ nf hR.fct.2⟩
  · exact ⟨fun r c => by rw [ipE _ nt]; exact hR.tup.1 r c, rbE _ nt hR.tup.2⟩
  · intro r hr
    rw [r109, nI_clamp (n := n + 1) (by omega)] at hr
    rw [ipE _ nf]; exact hR.emf r (by omega)
  · intro r hr
    rw [r109, nI_clamp (n := n + 1) (by omega)] at hr
    rw [ipE _ nt]; exact hR.emt r (by omega)
  · rw [eR, ipE _ nf, ipE _ nt]; exact hR.sbl
  · rw [q 2 (by omega) (by omega) (by omega) (by omega), q 3 (by omega) (by omega) (by omega) (by omega), q 4 (by omega) (by omega) (by omega) (by omega), q 122 (by decide) (by decide) (by decide) (by decide), q 123 (by decide) (by decide) (by decide) (by decide), q 124 (by decide) (by decide) (by decide) (by decide)]; exact hR.lin
  · rw [q 105 (by omega) (by omega) (by omega) (by omega), r109' 19 (by decide)]; exact hR.mad
  · rw [q 106 (by omega) (by omega) (by omega) (by omega), q 125 (by decide) (by decide) (by decide) (by decide)]; exact hR.hel
  · rw [q 107 (by omega) (by omega) (by omega) (by omega), q 126 (by decide) (by decide) (by decide) (by decide)]; exact hR.sit
  · rw [q 108 (by omega) (by omega) (by omega) (by omega), q 127 (by decide) (by decide) (by decide) (by decide)]; exact hR.fie
  · rw [q 0 (by omega) (by omega) (by omega) (by omega), r109' 7 (by decide)]; exact hR.cha
theorem k_relation (x0 : Int32) : Clp RI (po_PF_relation [.ref 0, .int x0]) (po_PM_relation [.ref 109, .int x0]) := by
  intro M L hR r μ1 hq
  obtain ⟨n, h1, h2, h3, h4, h5⟩ := hR.n
  have hq : (r, μ1) = (if (x0 = 1 ∨ x0 = 2) ∧ M 5 4 < 14 then (some (.int (M 5 4 + 1 - 1)), (131, up2 (up2 M 6 (M 5 4).toNatClampNeg x0) 5 4 (M 5 4 + 1), L, TT)) else (some (.int (-1)), (131, M, L, TT))) := hq
  have ecl : (nI n).toNatClampNeg = n := nI_clamp (n := n) (by omega)
  rw [h3, ecl] at hq
  by_cases hc : (x0 = 1 ∨ x0 = 2) ∧ nI n < 14
  · rw [if_pos hc] at hq
    obtain ⟨rfl, rfl⟩ := Prod.mk.inj hq
    have hn : n < 14 := (nI_lt_iff (b := 14) (by omega) (by decide)).mp hc.2
    have k : ∀ k, k ≠ 5 → k ≠ 6 → (up2 (up2 M 6 n x0) 5 4 (nI n + 1)) k = M k := fun k h h' => by rw [up2_k h, up2_k h']
    refine ⟨_, _, L, rfl, rfl, hR.pi.cg (by rw [k 109 (by decide) (by decide)]) (by rw [k 109 (by decide) (by decide)]; exact hR.pi.2.1) (by rw [k 109 (by decide) (by decide)]; exact hR.pi.2.2.1) (fun a h _ _ _ _ _ _ => k a (by omega) (by omega)), fun r2 μ2 hq2 => ?_⟩
    have hq2 : (r2, μ2) = (if (x0 = 1 ∨ x0 = 2) ∧ (up2 (up2 M 6 n x0) 5 4 (nI n + 1)) 109 0 < 14 then (some (.int ((up2 (up2 M 6 n x0) 5 4 (nI n + 1)) 109 0 + 1 - 1)), (131, up2 (up2 (up2 (up2 M 6 n x0) 5 4 (nI n + 1)) 110 ((up2 (up2 M 6 n x0) 5 4 (nI n + 1)) 109 0).toNatClampNeg x0) 109 0 ((up2 (up2 M 6 n x0) 5 4 (nI n + 1)) 109 0 + 1), L, TT)) else (some (.int (-1)), (131, up2 (up2 M 6 n x0) 5 4 (nI n + 1), L, TT))) := hq2
    rw [k 109 (by decide) (by decide), h4, ecl, if_pos hc] at hq2
    obtain ⟨rfl, rfl⟩ := Prod.mk.inj hq2
    exact ⟨rfl, _, L, rfl, rel_new hR h1 hn h3 hc.1⟩
  · rw [if_neg hc] at hq
    obtain ⟨rfl, rfl⟩ := Prod.mk.inj hq
    refine ⟨_, M, L, rfl, rfl, hR.pi, fun r2 μ2 hq2 => ?_⟩
    have hq2 : (r2, μ2) = (if (x0 = 1 ∨ x0 = 2) ∧ M 109 0 < 14 then (some (.int (M 109 0 + 1 - 1)), (131, up2 (up2 M 110 (M 109 0).toNatClampNeg x0) 109 0 (M 109 0 + 1), L, TT)) else (some (.int (-1)), (131, M, L, TT))) := hq2
    rw [h4, if_neg hc] at hq2
    obtain ⟨rfl, rfl⟩ := Prod.mk.inj hq2
    exact ⟨rfl, M, L, rfl, hR⟩
/-! literal -/
theorem tm_n {x : Int32} (h : (0 ≤ x ∧ x < 6) ∨ (10 ≤ x ∧ x ≤ 13)) : ∃ n, x = nI n ∧ (n < 6 ∨ (10 ≤ n ∧ n ≤ 13)) := by
  rcases h with h | ⟨h1, h2⟩
  · obtain ⟨n, hn, rfl⟩ := rng_n (n := 6) (by decide) h
    exact ⟨n, rfl, Or.inl hn⟩
  · obtain ⟨n, hn, rfl⟩ := rng_n (n := 14) (by decide) ⟨Int32.le_trans (by decide) h1, Int32.lt_of_le_of_lt h2 (by decide)⟩
    exact ⟨n, rfl, Or.inr ⟨(nI_le_iff (a := 10) (by decide) (by omega)).mp h1, by omega⟩⟩
theorem lit_LC {M : mM} {L : mL} (hR : RI M L) {x0 x1 x2 x3 : Int32} : lit M x0 x1 x2 x3 ↔ LC M x0 x1 x2 x3 := by
  obtain ⟨n, h1, h2, h3, h4, h5⟩ := hR.n
  obtain ⟨g, hg, eg⟩ := hR.ci.1.2.2
  have eg8 : M 109 8 = nI g := hR.gvn.trans eg
  have g4 : M 10 4 < 4 ↔ ¬ M 109 8 = 4 := by
    rw [eg, eg8]
    rw [show (4 : Int32) = nI 4 from rfl, nI_lt_iff (a := g) (b := 4) (by omega) (by decide), nI_eq (a := g) (b := 4) (by omega) (by decide)]
    omega
  unfold lit LC
  rw [g4, h3, h4, eg, eg8]
  by_cases hx : 0 ≤ x0 ∧ x0 < nI n
  · obtain ⟨r, hr, rfl⟩ := rng_n (by omega) hx
    obtain ⟨a1, a2⟩ := hR.ari r (by omega) (by rw [h3]; exact hx.2)
    rw [nI_clamp (n := r) (by omega), a1]
    have key : trm (sec (M 110 r) x2) ↔ (M 110 r = 2 → isT x2) := by
      rcases a2 with a2 | a2
      · have : sec (M 110 r) x2 = 0 := if_pos a2
        rw [this]
        exact ⟨fun _ z => absurd (a2.symm.trans z) (by decide), fun _ => Or.inl (by decide)⟩
      · have : sec (M 110 r) x2 = x2 := if_neg (fun z => absurd (a2.symm.trans z) (by decide))
        rw [this]
        exact ⟨fun z _ => z, fun z => z a2⟩
    rw [key]
    constructor
    · rintro ⟨a, b, c, d, e⟩
      exact ⟨⟨a, b.1, b.2, d, e⟩, c⟩
    · rintro ⟨⟨a, b, b', d, e⟩, c⟩
      exact ⟨a, ⟨b, b'⟩, c, d, e⟩
  · exact ⟨fun z => absurd z.2.1 hx, fun z => absurd ⟨z.1.2.1, z.1.2.2.1⟩ hx⟩
theorem k_literal (x0 x1 x2 x3 : Int32) (h01 : x3 = 0 ∨ x3 = 1) : Clp RI (po_PF_literal [.ref 0, .int x0, .int x1, .int x2, .int x3]) (po_PM_literal [.ref 109, .int x0, .int x1, .int x2, .int x3]) := by
  intro M L hR r μ1 hq
  obtain ⟨q1, q2⟩ := hq
  by_cases hc : lit M x0 x1 x2 x3
  · obtain ⟨rfl, rfl⟩ := q1 hc
    obtain ⟨n, h1, h2, h3, h4, h5⟩ := hR.n
    obtain ⟨g, hg, eg⟩ := hR.ci.1.2.2
    have eg8 : M 109 8 = nI g := hR.gvn.trans eg
    obtain ⟨c1, c2, c3, c4, c5⟩ := hc
    have hg4 : g < 4 := by
      rw [eg] at c1
      exact (nI_lt_iff (b := 4) (by omega) (by decide)).mp c1
    rw [h3] at c2
    obtain ⟨rr, hrr, rfl⟩ := rng_n (by omega) c2
    have ecr : (nI rr).toNatClampNeg = rr := nI_clamp (n := rr) (by omega)
    obtain ⟨a1, a2⟩ := hR.ari rr (by omega) (by rw [h3]; exact c2.2)
    obtain ⟨m1, em1, tm1⟩ := tm_n c4
    obtain ⟨m2, em2, tm2⟩ := tm_n c5
    have egc : (nI g).toNatClampNeg = g := nI_clamp (n := g) (by omega)
    rw [ecr] at em2
    -- the class's cells
    generalize hM1 : up2 (up2 (up2 (up2 (up2 M (99 + g) 0 (nI rr)) (99 + g) 1 x1) (99 + g) 2 (sec (M 6 rr) x2)) (99 + g) 3 x3) 10 4 (nI g + 1) = M1
    have eG : giv (131, M, L, TT) (nI rr) x1 (sec (M 6 (nI rr).toNatClampNeg) x2) x3 = (131, M1, L, TT) := by
      rw [← hM1]
      show (131, up2 (up2 (up2 (up2 (up2 M (99 + (M 10 4).toNatClampNeg) 0 (nI rr)) (99 + (M 10 4).toNatClampNeg) 1 x1) (99 + (M 10 4).toNatClampNeg) 2 (sec (M 6 (nI rr).toNatClampNeg) x2)) (99 + (M 10 4).toNatClampNeg) 3 x3) 10 4 (M 10 4 + 1), L, TT) = _
      rw [eg, egc, ecr]
    have k1 : ∀ k, k ≠ 10 → k ≠ 99 + g → M1 k = M k := fun k h h' => by
      rw [← hM1, up2_k h, up2_k h', up2_k h', up2_k h', up2_k h']
    have k10 : M1 10 4 = nI (g + 1) := by rw [← hM1, up2_s, nI_succ]
    have l0 : M1 (99 + g) 0 = nI rr := by
      rw [← hM1, up2_k (by omega), up2_j (by decide), up2_j (by decide), up2_j (by decide), up2_s]
    have l1 : M1 (99 + g) 1 = x1 := by
      rw [← hM1, up2_k (by omega), up2_j (by decide), up2_j (by decide), up2_s]
    have l2 : M1 (99 + g) 2 = sec (M 6 rr) x2 := by
      rw [← hM1, up2_k (by omega), up2_j (by decide), up2_s]
    have l3 : M1 (99 + g) 3 = x3 := by rw [← hM1, up2_k (by omega), up2_s]
    have hpi1 : PI M1 := hR.pi.cg (by rw [k1 109 (by omega) (by omega)]) (by rw [k1 109 (by omega) (by omega)]; exact hR.pi.2.1) (by rw [k1 109 (by omega) (by omega)]; exact hR.pi.2.2.1) (fun a h h' _ _ _ _ _ => k1 a (by omega) (by omega))
    refine ⟨_, M1, L, rfl, eG, hpi1, fun r2 μ2 hq2 => ?_⟩
    have LCM : LC M (nI rr) x1 x2 x3 := (lit_LC hR).mp ⟨c1, by rw [h3]; exact c2, c3, c4, c5⟩
    have LC1 : LC M1 (nI rr) x1 x2 x3 := by
      unfold LC at LCM ⊢
      rw [k1 109 (by omega) (by omega), k1 110 (by omega) (by omega)]
      exact LCM
    have e56 : (56 + nI g).toNatClampNeg = 56 + g := by
      rw [show (56 : Int32) = nI 56 from rfl, nI_ad]
      exact nI_clamp (n := 56 + g) (by omega)
    have hq2 : (r2, μ2) = (if LC M1 (nI rr) x1 x2 x3 then (some (.int (M1 109 8 + 1)), (131, up2 (up2 (lat M1 (56 + M1 109 8).toNatClampNeg (nI rr) x1 x2) 121 (56 + M1 109 8).toNatClampNeg x3) 109 8 (M1 109 8 + 1), L, TT)) else (some (.int (-1)), (131, M1, L, TT))) := hq2
    rw [if_pos LC1, k1 109 (by omega) (by omega), eg8, e56] at hq2
    obtain ⟨rfl, rfl⟩ := Prod.mk.inj hq2
    refine ⟨?_, _, L, rfl, ?_⟩
    · show some (Value.int (nI g + 1)) = some (Value.int (M 10 4 + 1))
      rw [eg]
    · generalize hM2 : up2 (up2 (lat M1 (56 + g) (nI rr) x1 x2) 121 (56 + g) x3) 109 8 (nI g + 1) = M2
      have k2 : ∀ k, k ≠ 109 → k ≠ 118 → k ≠ 119 → k ≠ 120 → k ≠ 121 → M2 k = M1 k := fun k a b c d e => by
        rw [← hM2, up2_k a, up2_k e]
        unfold lat
        rw [up2_k e, up2_k d, up2_k c, up2_k b]
      have r118 : M2 118 = upd (M 118) (56 + g) (nI rr) := by
        rw [← hM2, up2_k (by decide), up2_k (by decide)]
        unfold lat
        rw [up2_k (by decide), up2_k (by decide), up2_k (by decide), up2_r, k1 118 (by omega) (by omega)]
      have r119 : M2 119 = upd (M 119) (56 + g) x1 := by
        rw [← hM2, up2_k (by decide), up2_k (by decide)]
        unfold lat
        rw [up2_k (by decide), up2_k (by decide), up2_r, up2_k (by decide), k1 119 (by omega) (by omega)]
      have r120 : M2 120 = upd (M 120) (56 + g) x2 := by
        rw [← hM2, up2_k (by decide), up2_k (by decide)]
        unfold lat
        rw [up2_k (by decide), up2_r, up2_k (by decide), up2_k (by decide), k1 120 (by omega) (by omega)]
      have r121 : ∀ x, M2 121 x = if x = 56 + g then x3 else M 121 x := by
        intro x
        rw [← hM2, up2_k (by decide), up2_r]
        unfold lat
        by_cases e : x = 56 + g
        · rw [if_pos e, e, upd_s]
        · rw [if_neg e, upd_o e, up2_j e, up2_k (by decide), up2_k (by decide), up2_k (by decide), k1 121 (by omega) (by omega)]
      have r109 : M2 109 8 = nI (g + 1) := by rw [← hM2, up2_s, nI_succ]
      have r109' : ∀ j, j ≠ 8 → M2 109 j = M 109 j := fun j hj => by
        rw [← hM2, up2_j hj, up2_k (by decide)]
        unfold lat
        rw [up2_k (by decide), up2_k (by decide), up2_k (by decide), up2_k (by decide), k1 109 (by omega) (by omega)]
      have kk : ∀ k, k ≠ 10 → k ≠ 99 + g → k ≠ 109 → (k < 118 ∨ 121 < k) → M2 k = M k := fun k a b c d => (k2 k c (by omega) (by omega) (by omega) (by omega)).trans (k1 k a b)
      have hS : SC M M2 := SC.mk (fun k h1 h2 => kk k (by omega) (by omega) (by omega) (by omega)) (by rw [kk 5 (by omega) (by omega) (by omega) (by omega)]) (kk 6 (by omega) (by omega) (by omega) (by omega)) (kk 96 (by omega) (by omega) (by omega) (by omega)) (r109' 0 (by decide)) (kk 110 (by omega) (by omega) (by omega) (by omega)) (kk 114 (by omega) (by omega) (by omega) (by omega)) (kk 116 (by omega) (by omega) (by omega) (by omega)) (kk 117 (by omega) (by omega) (by omega) (by omega)) (fun x hx => by
        rw [r118, r119, r120, r121, upd_o (by omega), upd_o (by omega), upd_o (by omega), if_neg (by omega)]
        exact ⟨rfl, rfl, rfl, rfl⟩)
      have k99 : ∀ j, j < 4 → M2 (99 + j) = M1 (99 + j) := fun j hj => k2 (99 + j) (by omega) (by omega) (by omega) (by omega) (by omega)
      have wLg : wL M2 (99 + g) := by
        unfold wL
        rw [k99 g hg4, l0, l1, l2, l3, a1]
        rw [a1] at em2
        exact ⟨vp_in_nI (by omega) (by decide), ⟨m1, em1, tm1⟩, ⟨m2, em2, tm2⟩, h01⟩
      refine RI.sc hS hR ?_ ?_ ?_ ?_ ?_ hR.fct hR.tup hR.emf hR.emt hR.sbl ?_ ?_ ?_ ?_ ?_ ?_
      · obtain ⟨⟨w1, w2, g', w3, w4⟩, v, c, m, he, li⟩ := hR.ci
        refine ⟨⟨fun i hi => wR_c (fun k h1 h2 => kk k (by omega) (by omega) (by omega) (by omega)) (w1 i hi), fun j hj => ?_, g + 1, by omega, ?_⟩, by rw [kk 104 (by omega) (by omega) (by omega) (by omega)]; exact v, by rw [kk 5 (by omega) (by omega) (by omega) (by omega)]; exact c, by rw [kk 105 (by omega) (by omega) (by omega) (by omega)]; exact m, by rw [kk 106 (by omega) (by omega) (by omega) (by omega)]; exact he, ?_⟩
        · by_cases e : j = g
          · subst e; exact wLg
          · exact fr_wL (kk (99 + j) (by omega) (by omega) (by omega) (by omega)) (w2 j hj)
        · rw [k2 10 (by omega) (by omega) (by omega) (by omega) (by omega)]; exact k10
        · rw [kk 2 (by omega) (by omega) (by omega) (by omega), kk 3 (by omega) (by omega) (by omega) (by omega), kk 4 (by omega) (by omega) (by omega) (by omega)]; exact li
      · have hp := PI.put (a := 56 + g) (x := nI rr) (y := x1) (z := x2) (w := x3) hpi1 (vp_in_nI (by omega) (by decide)) (by rw [k1 109 (by omega) (by omega), h4]; exact c2.2) ⟨m1, em1, tm1⟩ (by
          rw [k1 110 (by omega) (by omega), ecr]
          rcases a2 with a2 | a2
          · exact Or.inl a2
          · right
            have : sec (M 6 rr) x2 = x2 := if_neg (fun z => absurd ((a1.symm.trans z).symm.trans a2) (by decide))
            rw [this] at em2
            exact ⟨m2, em2, tm2⟩) h01
        rw [← hM2]
        refine hp.cg (by rw [up2_j (by decide)]) ⟨g + 1, by omega, by rw [up2_s, nI_succ]⟩ ?_ (fun a h h' _ _ _ _ _ => up2_k (by omega))
        rw [up2_j (by decide)]
        exact hp.2.2.1
      · rw [r109, k2 10 (by omega) (by omega) (by omega) (by omega) (by omega), k10]
      · intro j hj hlt
        rw [k2 10 (by omega) (by omega) (by omega) (by omega) (by omega), k10] at hlt
        have hlt := (nI_lt_iff (by omega) (by omega)).mp hlt
        unfold LQ
        by_cases e : j = g
        · subst e
          refine ⟨?_, ?_, ?_⟩
          · rw [k99 j hj, l0, r118, upd_s]
          · unfold cLi rLi tmn una
            rw [k99 j hj, l0, l1, l2, r118, r119, r120, upd_s, upd_s, upd_s, kk 110 (by omega) (by omega) (by omega) (by omega), ecr, a1]
            congr 2
            unfold sec
            split <;> rfl
          · rw [k99 j hj, l3, r121, if_pos rfl]
        · have := hR.giv j hj (by rw [eg]; exact nI_lt (by omega) (by omega))
          unfold LQ at this
          have ek := kk (99 + j) (by omega) (by omega) (by omega) (by omega)
          rw [cLi_c ek, ek, rLi_c (M := M) (M' := M2) (by rw [r118, upd_o (by omega)]) (by rw [r119, upd_o (by omega)]) (by rw [r120, upd_o (by omega)]) (by rw [kk 110 (by omega) (by omega) (by omega) (by omega)]), r118, upd_o (by omega), r121, if_neg (by omega)]
          exact this
      · intro _
        by_cases e : g = 0
        · subst e
          obtain ⟨z1, z2⟩ := c3 eg
          rw [r121, r118, if_pos rfl, upd_s]
          exact ⟨z1, z2⟩
        · rw [r121, r118, if_neg (by omega), upd_o (by omega)]
          exact hR.gv0 (by
            rw [eg]
            intro z
            exact e ((nI_eq (b := 0) (by omega) (by decide)).mp z))
      · rw [kk 2 (by omega) (by omega) (by omega) (by omega), kk 3 (by omega) (by omega) (by omega) (by omega), kk 4 (by omega) (by omega) (by omega) (by omega), kk 122 (by omega) (by omega) (by omega) (by omega), kk 123 (by omega) (by omega) (by omega) (by omega), kk 124 (by omega) (by omega) (by omega) (by omega)]; exact hR.lin
      · rw [kk 105 (by omega) (by omega) (by omega) (by omega), r109' 19 (by decide)]; exact hR.mad
      · rw [kk 106 (by omega) (by omega) (by omega) (by omega), kk 125 (by omega) (by omega) (by omega) (by omega)]; exact hR.hel
      · rw [kk 107 (by omega) (by omega) (by omega) (by omega), kk 126 (by omega) (by omega) (by omega) (by omega)]; exact hR.sit
      · rw [kk 108 (by omega) (by omega) (by omega) (by omega), kk 127 (by omega) (by omega) (by omega) (by omega)]; exact hR.fie
      · rw [kk 0 (by omega) (by omega) (by omega) (by omega), r109' 7 (by decide)]; exact hR.cha
  · obtain ⟨rfl, rfl⟩ := q2 hc
    refine ⟨_, M, L, rfl, rfl, hR.pi, fun r2 μ2 hq2 => ?_⟩
    have hq2 : (r2, μ2) = (if LC M x0 x1 x2 x3 then (some (.int (M 109 8 + 1)), (131, up2 (up2 (lat M (56 + M 109 8).toNatClampNeg x0 x1 x2) 121 (56 + M 109 8).toNatClampNeg x3) 109 8 (M 109 8 + 1), L, TT)) else (some (.int (-1)), (131, M, L, TT))) := hq2
    rw [if_neg (fun z => hc ((lit_LC hR).mpr z))] at hq2
    obtain ⟨rfl, rfl⟩ := Prod.mk.inj hq2
    exact ⟨rfl, M, L, rfl, hR⟩
