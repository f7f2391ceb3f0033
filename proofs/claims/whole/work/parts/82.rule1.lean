/-! rule agrees -/
theorem cvl_c {M M' : mM} {t : Int32} (h0 : M' 110 = M 110) (h8 : M' 118 = M 118) (h9 : M' 119 = M 119) (h20 : M' 120 = M 120) (h21 : M' 121 = M 121) : ∀ (n i : Nat) (b : Int32), cvl M' t n i b = cvl M t n i b
  | 0, _, _ => rfl
  | n + 1, i, b => by
    unfold cvl
    rw [h0, h8, h9, h20, h21]
    exact cvl_c h0 h8 h9 h20 h21 n (i + 1) _
theorem sfl_c {M M' : mM} (hg : M' 109 8 = M 109 8) (h0 : M' 110 = M 110) (h8 : M' 118 = M 118) (h9 : M' 119 = M 119) (h20 : M' 120 = M 120) (h21 : M' 121 = M 121) : ∀ (n i : Nat) (b : Int32), sfl M' n i b = sfl M n i b
  | 0, _, _ => rfl
  | n + 1, i, b => by
    have hc : ∀ t, cvR M' t = cvR M t := by
      intro t
      unfold cvR
      rw [hg, cvl_c h0 h8 h9 h20 h21]
    unfold sfl
    rw [sfl_c hg h0 h8 h9 h20 h21 n (i + 1) _]
    congr 1
    unfold una
    refine b2_x ?_
    rw [h0, h8, h9, h20, h21, hc, hc]
theorem frl_c {M M' : mM} (h : M' 116 = M 116) : ∀ n i, frl M' n i = frl M n i
  | 0, _ => rfl
  | n + 1, i => by
    unfold frl
    rw [h, frl_c h n (i + 1)]
/-- the given literals are dropped; a rule that is not there may have changed -/
theorem RI.drop {M M' : mM} {L : mL} (hR : RI M L) (h1 : ∀ k, k ≠ 10 → k ≠ 97 → k ≠ 109 → k ≠ 115 → (k < 12 ∨ 96 ≤ k) → M' k = M k) (h10 : M' 10 4 = 0) (h109 : ∀ j, j ≠ 8 → M' 109 j = M 109 j) (h8 : M' 109 8 = 0) (hW : ∀ j, j < 14 → wR M' j) (hth : ∀ j, j < 14 → M' (12 + 6 * j) 4 = M (12 + 6 * j) 4) (hro : ∀ j, j < 14 → ¬ M 116 j = 0 → cRo M M' j) : RI M' L := by
  have q : ∀ k, k < 10 → M' k = M k := fun k h => h1 k (by omega) (by omega) (by omega) (by omega) (by omega)
  have q2 : ∀ k, 98 ≤ k → k < 109 → M' k = M k := fun k h h' => h1 k (by omega) (by omega) (by omega) (by omega) (by omega)
  have q3 : ∀ k, 109 < k → k ≠ 115 → M' k = M k := fun k h h' => h1 k (by omega) (by omega) (by omega) (by omega) (by omega)
  have ro : ∀ a m, rRo M M' a m := fun a m y _ _ => ⟨by rw [q3 121 (by omega) (by omega)], rLi_c (by rw [q3 118 (by omega) (by omega)]) (by rw [q3 119 (by omega) (by omega)]) (by rw [q3 120 (by omega) (by omega)]) (by rw [q3 110 (by omega) (by omega)])⟩
  have eR : rR M' = rR M := rR_c (fun i _ => by rw [q3 116 (by omega) (by omega)]) (fun i hi hu => ⟨by rw [q3 117 (by omega) (by omega)], ro _ _, (hR.lns hi hu).1⟩)
  have e110 := q3 110 (by omega) (by omega)
  have eip := ipr_c e110
  refine RI.mk ?_ ?_ ?_ ?_ ?_ ?_ ?_ ?_ ?_ ?_ ?_ ?_ (EQs_c e110 hR.fct) (EQs_c e110 hR.tup) ?_ ?_ ?_ ?_ ?_ ?_ ?_ ?_ ?_
  · obtain ⟨⟨w1, w2, g, w3, w4⟩, v, c, m, he, li⟩ := hR.ci
    refine ⟨⟨hW, fun j hj => fr_wL (q2 _ (by omega) (by omega)) (w2 j hj), 0, by omega, h10⟩, by rw [q2 104 (by omega) (by omega)]; exact v, by rw [q 5 (by omega)]; exact c, by rw [q2 105 (by omega) (by omega)]; exact m, by rw [q2 106 (by omega) (by omega)]; exact he, ?_⟩
    rw [q 2 (by omega), q 3 (by omega), q 4 (by omega)]; exact li
  · exact hR.pi.cg (h109 0 (by decide)) ⟨0, by omega, h8⟩ (by rw [h109 19 (by decide)]; exact hR.pi.2.2.1) (fun a h _ _ _ _ _ h' => q3 a (by omega) h')
  · rw [h109 0 (by decide), q 5 (by omega)]; exact hR.cnt
  · rw [q 5 (by omega), q 6 (by omega), e110]; exact hR.ari
  · rw [e110]; exact hR.ar9
  · rw [h8, h10]
  · intro j hj hn
    rw [h10] at hn
    exact absurd hn (nI_nlt (a := j) (b := 0) (Nat.zero_le _) (by omega))
  · intro z; exact absurd h10 z
  · intro j hj
    rw [hth j hj, q3 116 (by omega) (by omega)]; exact hR.the j hj
  · intro j hj hu
    rw [q3 116 (by omega) (by omega)] at hu
    exact (hR.rul j hj hu).c (rln_3 (hR.ci.1.1 j hj)) (hro j hj hu) (by rw [q3 117 (by omega) (by omega)]) (ro _ _)
  · rw [h1 96 (by omega) (by omega) (by omega) (by omega) (by omega), q3 114 (by omega) (by omega)]; exact hR.str
  · rw [eR, q3 114 (by omega) (by omega)]; exact hR.sfr
  · rw [h109 0 (by decide), eip]; exact hR.emf
  · rw [h109 0 (by decide), eip]; exact hR.emt
  · rw [eR, eip]; exact hR.sbl
  · rw [q 2 (by omega), q 3 (by omega), q 4 (by omega), q3 122 (by omega) (by omega), q3 123 (by omega) (by omega), q3 124 (by omega) (by omega)]; exact hR.lin
  · rw [q2 105 (by omega) (by omega), h109 19 (by decide)]; exact hR.mad
  · rw [q2 106 (by omega) (by omega), q3 125 (by omega) (by omega)]; exact hR.hel
  · rw [q2 107 (by omega) (by omega), q3 126 (by omega) (by omega)]; exact hR.sit
  · rw [q2 108 (by omega) (by omega), q3 127 (by omega) (by omega)]; exact hR.fie
  · rw [q 0 (by omega), h109 7 (by decide)]; exact hR.cha
theorem PI_rcl {j : Nat} : ∀ (n i : Nat) (N : mM), i + n ≤ 4 → PI N → PI (rcl j n i N)
  | 0, _, _, _, h => h
  | n + 1, i, N, hn, h => PI_rcl n (i + 1) (rc1 N j i) (by omega) (h.rc (by omega))
theorem rSf_ru {M M' : mM} {a a' m : Nat} (e : rRu M' a' m = rRu M a m) (h : rSf M a m) : rSf M' a' m := by
  have e1 : rLi M' a' = rLi M a := congrArg (fun x : Ru => x.1) e
  have e2 : rPs M' a' m (m - 1) = rPs M a m (m - 1) := congrArg (fun x : Ru => x.2.1) e
  have e3 : rNs M' a' m = rNs M a m := congrArg (fun x : Ru => x.2.2) e
  unfold rSf at h ⊢
  rw [e1, e2, e3]
  exact h
theorem k_rule : Clp RI (po_PF_rule [.ref 0]) (po_PM_rule [.ref 109]) := by
  intro M L hR r μ1 hq
  obtain ⟨q1, q2⟩ := hq
  obtain ⟨g, hg, eg⟩ := hR.ci.1.2.2
  have eg8 : M 109 8 = nI g := hR.gvn.trans eg
  have egc : (M 10 4).toNatClampNeg = g := by rw [eg]; exact nI_clamp (n := g) (by omega)
  have hW := hR.ci.1.1
  -- a refusal without a rule made: the memory but for the given literals
  have dropA : RI (up2 (up2 M 10 4 0) 109 8 0) L := by
    refine hR.drop (fun k a _ b _ _ => by rw [up2_k b, up2_k a]) (by rw [up2_k (by decide), up2_s]) (fun j hj => by rw [up2_j hj, up2_k (by decide)]) up2_s (fun j hj => wR_c (fun k h1 h2 => by rw [up2_k (by omega), up2_k (by omega)]) (hW j hj)) (fun j hj => by rw [up2_k (by omega), up2_k (by omega)]) (fun j hj _ k h1 h2 => by rw [up2_k (by omega), up2_k (by omega)])
  have piA : PI (up2 M 10 4 0) := hR.pi.cg (by rw [up2_k (by decide)]) (by rw [up2_k (by decide)]; exact hR.pi.2.1) (by rw [up2_k (by decide)]; exact hR.pi.2.2.1) (fun a h _ _ _ _ _ _ => up2_k (by omega))
  have hfr := fnr_frl hR 8 6 rfl
  by_cases hA : M 10 4 = 0 ∨ fnr M 8 6 = -1
  · obtain ⟨rfl, rfl⟩ := q1 hA
    refine ⟨_, up2 M 10 4 0, L, rfl, rfl, piA, fun r2 μ2 hq2 => ?_⟩
    obtain ⟨μ', hRU, rfl⟩ := hq2
    have hx : ((up2 M 10 4 0) 109 8 = 0 ∨ frl (up2 M 10 4 0) 8 6 = 14) := by
      rw [up2_k (show (109 : Nat) ≠ 10 by decide), frl_c (up2_k (show (116 : Nat) ≠ 10 by decide))]
      rcases hA with h | h
      · exact Or.inl (hR.gvn.trans h)
      · rcases hfr with h2 | ⟨j, _, hj, h2, _⟩
        · exact Or.inr h2.2
        · rw [h] at h2; exact absurd h2.symm (nI_nm (by omega))
    obtain ⟨rfl, rfl⟩ := hRU.1 hx
    exact ⟨rfl, _, L, rfl, dropA⟩
  · obtain ⟨q3, q4⟩ := q2 hA
    have hA' := not_or.mp hA
    have hg1 : 1 ≤ g := Nat.not_lt.mp fun z => hA'.1 (by rw [eg, show g = 0 by omega]; rfl)
    obtain ⟨n, hn6, hn, en, en2, hnu⟩ : ∃ j, 6 ≤ j ∧ j < 14 ∧ fnr M 8 6 = nI j ∧ frl M 8 6 = nI j ∧ M 116 j = 0 := by
      rcases hfr with h | h
      · exact absurd h.1 hA'.2
      · exact h
    have ncl : (nI n).toNatClampNeg = n := nI_clamp (n := n) (by omega)
    have q3 : ¬ msafe M → r = some (.int (-2)) ∧ μ1 = (131, up2 M 10 4 0, L, TT) := q3
    have q4 : msafe M → ∀ M1, M1 = bcm M (fnr M 8 6).toNatClampNeg (M 10 4).toNatClampNeg → (∀ t, sty M1 14 (z14 (M1 97)) = some t → r = some (.int (fnr M 8 6)) ∧ ∃ ρ, μ1 = folM (nwr M t) L (1 <<< (nwr M t (13 + 6 * (fnr M 8 6).toNatClampNeg) 0 &&& 31)) ρ) ∧ (sty M1 14 (z14 (M1 97)) = none → r = some (.int (-3)) ∧ ∃ t, μ1 = (131, up2 (up2 (upr M1 97 t) (12 + 6 * (fnr M 8 6).toNatClampNeg) 4 0) 10 4 0, L, TT)) := q4
    rw [en, ncl, egc] at q4
    -- what the reference asks, told of any memory with the same reference's cells
    have notA : ∀ X : mM, X 109 = M 109 → X 116 = M 116 → ¬ (X 109 8 = 0 ∨ frl X 8 6 = 14) := by
      intro X h1 h2
      rw [h1, frl_c h2, eg8, en2]
      rintro (z | z)
      · have := (nI_eq (a := g) (b := 0) (by omega) (by decide)).mp z
        omega
      · have := (nI_eq (a := n) (b := 14) (by omega) (by decide)).mp z
        omega
    have gcl : (nI g).toNatClampNeg = g := nI_clamp (n := g) (by omega)
    by_cases hs : msafe M
    · have gs := (msafe_g hR hg1 hg eg).mp hs
      obtain ⟨s1, s2⟩ := q4 hs _ rfl
      have hw4 := hR.ci.1.2.1
      obtain ⟨b1, b2, b3, b4, b5, b6, b7⟩ := bcm_sp (M := M) (i := n) (g := g) hn hg1 hg (fun j hj => (hw4 j hj).2.2.2)
      have bru := bcm_ru hR hn hg1 hg eg
      have bo : ∀ k, (k < 12 + 6 * n ∨ 18 + 6 * n ≤ k) → (bcm M n g) k = M k := fun k hk => bcm_o hn (fun j hj => (hw4 j hj).2.2.2) k hk
      have bW := (WQ_bcm (i := n) (g := g) ⟨hW, hw4⟩ hn hg1 hg).1
      generalize hM1 : bcm M n g = M1 at s1 s2 b1 b2 b3 b4 b5 b6 b7 bru bo bW
      have b6 := b6 (fun j hj => (hw4 j hj).1)
      have hd9 : 9 ≤ (rLi M 56).1 := by
        have h9 := (hR.gv0 hA'.1).2
        have hv := (hR.pi.2.2.2.2.2.1 56 (by omega)).1.1
        rw [vp_nI hv] at h9
        have := cl_lt hv
        exact (nI_le_iff (a := 9) (b := (M 118 56).toNatClampNeg) (by decide) (by omega)).mp h9
      have ehd : rhd M1 n = (rLi M 56).1 := congrArg (fun x : Ru => x.1.1) bru
      have cro1 : ∀ j, j < 14 → j ≠ n → cRo M M1 j := fun j hj e k h1 h2 => bo k (by omega)
      have hnH : M (12 + 6 * n) 4 = 0 := by rw [hR.the n hn]; exact hnu
      have cR1 : ∀ ρ, cR M1 ρ ↔ (∃ j, j < 14 ∧ j ≠ n ∧ ¬ M (12 + 6 * j) 4 = 0 ∧ ρ = cRu M j) ∨ ρ = rRu M 56 g := fun ρ => by
        rw [cR_one hn hW cro1 ρ, bru]
        exact ⟨fun z => z.imp id (fun z => z.2), fun z => z.imp id (fun z => ⟨by rw [b7]; decide, z⟩)⟩
      have hCok : Cok (cC M1) := Cok_of bW (fun j hj hHj h9 => by
        by_cases e : j = n
        · subst e; rw [ehd] at h9; omega
        · have c := cro1 j hj e
          rw [c _ (by omega) (by omega), hR.the j hj] at hHj
          rw [c.hd] at h9
          intro j' hj'
          rw [c.ln] at hj'
          have h3 := rln_3 (hW j hj)
          have e2 := c (15 + 6 * j + j') (by omega) (by omega)
          rw [cLi_c e2, e2]
          exact (hR.rul j hj hHj).lb h9 j' hj')
      have hCC : ∀ X : mM, (∀ k, 109 ≤ k → X k = M k) → ∀ h b k, cC M1 h b k ↔ rC X (nI n) h b k := by
        intro X hX h b k
        have ro : ∀ a m, rRo M X a m := fun a m y _ _ => ⟨by rw [hX 121 (by omega)], rLi_c (by rw [hX 118 (by omega)]) (by rw [hX 119 (by omega)]) (by rw [hX 120 (by omega)]) (by rw [hX 110 (by omega)])⟩
        have em : ∀ j, rml X j = rml M j := fun j => by unfold rml; rw [hX 117 (by omega)]
        have eX8 : (X 109 8).toNatClampNeg = g := by rw [hX 109 (by omega), eg8]; exact gcl
        have n14 : ¬ 14 ≤ nI n := nI_ge (a := n) (b := 14) hn (by decide)
        rw [cC_R]
        constructor
        · rintro ⟨ρ', hρ, hd⟩
          rcases (cR1 ρ').mp hρ with ⟨j, hj, e, hHj, rfl⟩ | rfl
          · have huj : ¬ M 116 j = 0 := by rw [← hR.the j hj]; exact hHj
            have l := hR.lns hj huj
            rw [(hR.rul j hj huj).ru, ← (ro (4 * j) (rml M j)).ru l.1, ← em j] at hd
            refine Or.inl ⟨j, hj, by rw [hX 116 (by omega)]; exact huj, fun z => e ((nI_eq (by omega) (by omega)).mp z), (rDi_d (by rw [em]; exact l.1)).mpr hd⟩
          · refine Or.inr ⟨n14, ?_⟩
            rw [eX8]
            rw [← (ro 56 g).ru hg1] at hd
            exact (rDi_d hg1).mpr hd
        · rintro (⟨j, hj, huj, e, hd⟩ | ⟨_, hd⟩)
          · rw [hX 116 (by omega)] at huj
            have l := hR.lns hj huj
            rw [rDi_d (by rw [em]; exact l.1), em, (ro (4 * j) (rml M j)).ru l.1, ← (hR.rul j hj huj).ru] at hd
            exact ⟨_, (cR1 _).mpr (Or.inl ⟨j, hj, fun z => e (by rw [z]), by rw [hR.the j hj]; exact huj, rfl⟩), hd⟩
          · rw [eX8, rDi_d hg1, (ro 56 g).ru hg1] at hd
            exact ⟨_, (cR1 _).mpr (Or.inr rfl), hd⟩
      have hrank := fun (X : mM) (hX : ∀ k, 109 ≤ k → X k = M k) => rank_eq (N := X) bW hCok (hCC X hX) (fun k hk => by
        have := (hR.pi.2.2.2.2.2.1 k hk).1
        unfold rok at this ⊢
        rw [hX 118 (by omega), hX 119 (by omega), hX 120 (by omega), hX 121 (by omega), hX 110 (by omega)]
        exact this) (fun j hj hu => by
        rw [hX 116 (by omega)] at hu
        have : rml X j = rml M j := by unfold rml; rw [hX 117 (by omega)]
        rw [this]; exact (hR.lns hj hu).2) (by rw [hX 109 (by omega), eg8, gcl]; exact hg) (M1 97)
      have safe2 : ∀ X : mM, (∀ k, 109 ≤ k → X k = M k) → ¬ sfl X (X 109 8).toNatClampNeg 56 1 = 0 := by
        intro X hX
        rw [sfl_c (by rw [hX 109 (by omega)]) (hX 110 (by omega)) (hX 118 (by omega)) (hX 119 (by omega)) (hX 120 (by omega)) (hX 121 (by omega)), hX 109 (by omega), eg8, gcl]
        exact (sfl_g hR hg1 hg eg8).mpr gs
      cases hst : sty M1 14 (z14 (M1 97)) with
      | none =>
        obtain ⟨rfl, t, rfl⟩ := s2 hst
        generalize hMA : up2 (up2 (upr M1 97 t) (12 + 6 * n) 4 0) 10 4 0 = MA
        have ma : ∀ k, k ≠ 10 → k ≠ 97 → (k < 12 + 6 * n ∨ 18 + 6 * n ≤ k) → MA k = M k := fun k a b c => by
          rw [← hMA, up2_k a, up2_k (by omega), upr_k b]; exact bo k c
        have ma9 : ∀ k, 109 ≤ k → MA k = M k := fun k hk => ma k (by omega) (by omega) (by omega)
        have piMA : PI MA := hR.pi.cg (by rw [ma9 109 (by omega)]) (by rw [ma9 109 (by omega)]; exact hR.pi.2.1) (by rw [ma9 109 (by omega)]; exact hR.pi.2.2.1) (fun a h _ _ _ _ _ _ => ma9 a (by omega))
        refine ⟨_, MA, L, rfl, rfl, piMA, fun r2 μ2 hq2 => ?_⟩
        obtain ⟨μ', hRU, rfl⟩ := hq2
        have hk1 : (rkR MA (nI n)).1 = 0 := by
          rcases hrank MA ma9 with ⟨t', g', k1, _⟩ | ⟨_, k1⟩
          · rw [hst] at k1; cases k1
          · exact k1
        have efr : frl MA 8 6 = nI n := by rw [frl_c (ma9 116 (by omega)), en2]
        have hRU : RU MA L (frl MA 8 6) r2 μ' := hRU
        rw [efr] at hRU
        obtain ⟨rfl, rfl⟩ := hRU.2.2.1 (by rw [← efr]; exact notA MA (ma9 109 (by omega)) (ma9 116 (by omega))) (safe2 MA ma9) hk1
        refine ⟨rfl, _, L, rfl, ?_⟩
        show RI (up2 (rkM MA (nI n)) 109 8 0) L
        have rk : ∀ k, k ≠ 114 → k ≠ 115 → (rkM MA (nI n)) k = MA k := fun k a b => (upr_k a).trans (upr_k b)
        have rk114 : (rkM MA (nI n)) 114 = MA 114 := by
          unfold rkM
          rw [upr_s, if_pos hk1]
        have wn : wR MA n := by
          have hq : WQ (upr M1 97 t) := by
            refine ⟨fun j hj => wR_c (fun k h1 h2 => upr_k (by omega)) (bW j hj), fun j hj => fr_wL ((upr_k (by omega)).trans (bo _ (by omega))) (hw4 j hj)⟩
          have := (WQ_up (j := 4) (x := 0) hq hn (Or.inr (Or.inr ⟨rfl, Or.inl rfl⟩))).1 n hn
          rw [← hMA]
          exact wR_c (fun k h1 h2 => up2_k (by omega)) this
        refine hR.drop (fun k a b c d e => ?_) ?_ (fun j hj => ?_) up2_s (fun j hj => ?_) (fun j hj => ?_) (fun j hj hu k h1 h2 => ?_)
        · rw [up2_k c]
          by_cases h114 : k = 114
          · subst h114; rw [rk114]; exact ma9 114 (by omega)
          · rw [rk k h114 d]; exact ma k a b (by omega)
        · rw [up2_k (by decide), rk 10 (by decide) (by decide), ← hMA, up2_s]
        · rw [up2_j hj, rk 109 (by decide) (by decide), ma9 109 (by omega)]
        · by_cases e : j = n
          · subst e
            exact wR_c (fun k h1 h2 => by rw [up2_k (by omega), rk k (by omega) (by omega)]) wn
          · exact wR_c (fun k h1 h2 => by rw [up2_k (by omega), rk k (by omega) (by omega)]; exact ma k (by omega) (by omega) (by omega)) (hW j hj)
        · rw [up2_k (by omega), rk _ (by omega) (by omega)]
          by_cases e : j = n
          · subst e
            rw [← hMA, up2_k (by omega), up2_s]; exact hnH.symm
          · rw [ma _ (by omega) (by omega) (by omega)]
        · have e : j ≠ n := fun z => hu (z ▸ hnu)
          rw [up2_k (by omega), rk k (by omega) (by omega)]
          exact ma k (by omega) (by omega) (by omega)
      | some t =>
        obtain ⟨rfl, ρ, e1⟩ := s1 t hst
        have enw : nwr M t = up2 (upr (upr M1 97 t) 96 t) 10 4 0 := by
          unfold nwr
          rw [en, ncl, egc, hM1]
        rw [enw] at e1
        generalize hMC : up2 (upr (upr M1 97 t) 96 t) 10 4 0 = MC at e1
        have mc : ∀ k, k ≠ 10 → k ≠ 96 → k ≠ 97 → MC k = M1 k := fun k a b c => by rw [← hMC, up2_k a, upr_k b, upr_k c]
        have mc96 : MC 96 = t := by rw [← hMC, up2_k (by decide), upr_s]
        have mc10 : MC 10 4 = 0 := by rw [← hMC, up2_s]
        have hx0 : MC (13 + 6 * n) 0 = nI (rhd M1 n) := by
          rw [mc _ (by omega) (by omega) (by omega)]; exact (rhd_14 (bW n hn)).2
        rw [hx0] at e1
        have h14n := (rhd_14 (bW n hn)).1
        generalize hxx : (1 : Int32) <<< (nI (rhd M1 n) &&& 31) = xx at e1
        generalize hMA : up2 MC 0 5 (cch (upr (upr L 9 (L 8)) 8 (fll MC L xx)) 14) = MA
        generalize hLA : up2 (upr (upr L 9 (L 8)) 8 (fll MC L xx)) 103 1 ρ = LA
        have e1 : μ1 = (131, MA, LA, TT) := by rw [e1, ← hMA, ← hLA]; rfl
        subst e1
        have ma : ∀ k, k ≠ 0 → MA k = MC k := fun k hk => by rw [← hMA, up2_k hk]
        have l_ : ∀ k, k ≠ 8 → k ≠ 9 → k ≠ 103 → LA k = L k := fun k a b c => by rw [← hLA, up2_k c, upr_k a, upr_k b]
        have l8 : LA 8 = fll MC L xx := by rw [← hLA, up2_k (by decide), upr_s]
        have mam : ∀ k, k ≠ 0 → k ≠ 10 → k ≠ 96 → k ≠ 97 → (k < 12 + 6 * n ∨ 18 + 6 * n ≤ k) → MA k = M k := fun k a b c d e => (ma k a).trans ((mc k b c d).trans (bo k e))
        have ma9 : ∀ k, 109 ≤ k → MA k = M k := fun k hk => mam k (by omega) (by omega) (by omega) (by omega) (by omega)
        have piMA : PI MA := hR.pi.cg (by rw [ma9 109 (by omega)]) (by rw [ma9 109 (by omega)]; exact hR.pi.2.1) (by rw [ma9 109 (by omega)]; exact hR.pi.2.2.1) (fun a h _ _ _ _ _ _ => ma9 a (by omega))
        refine ⟨_, MA, LA, rfl, rfl, piMA, fun r2 μ2 hq2 => ?_⟩
        obtain ⟨μ', hRU, rfl⟩ := hq2
        rcases hrank MA ma9 with ⟨t', gg, k1, k2, k3, k4⟩ | ⟨k1, _⟩
        · rw [hst] at k1
          cases k1
          have efr : frl MA 8 6 = nI n := by rw [frl_c (ma9 116 (by omega)), en2]
          have hRU : RU MA LA (frl MA 8 6) r2 μ' := hRU
          rw [efr] at hRU
          obtain ⟨rfl, M', hS, rfl⟩ := hRU.2.2.2 (by rw [← efr]; exact notA MA (ma9 109 (by omega)) (ma9 116 (by omega))) (safe2 MA ma9) k2
          refine ⟨rfl, _, _, rfl, ?_⟩
          show RI (up2 (up2 M' 109 7 (dct (derL (rul MA (nI n)) LA) 14 0 0)) 109 8 0) (derL (rul MA (nI n)) LA)
          have e8 : MA 109 8 = nI g := by rw [ma9 109 (by omega)]; exact eg8
          have hrul : rul MA (nI n) = rcl n g 0 (up2 (up2 (rkM MA (nI n)) 116 n 1) 117 n (nI g)) := by
            unfold rul
            rw [ncl, e8, gcl]
          generalize hP0 : up2 (up2 (rkM MA (nI n)) 116 n 1) 117 n (nI g) = P0 at hrul
          obtain ⟨c1, c2⟩ := rcl_sp hn g 0 P0 (by omega)
          have piMR : PI (rul MA (nI n)) := by
            rw [hrul, ← hP0]
            exact PI_rcl g 0 _ (by omega) (piMA.rk.u1 hg hg1)
          generalize hMR : rul MA (nI n) = MR at hS hrul piMR ⊢
          rw [← hrul] at c1 c2
          have p0 : ∀ k, k ≠ 114 → k ≠ 115 → k ≠ 116 → k ≠ 117 → P0 k = MA k := fun k a b c d => by
            rw [← hP0, up2_k d, up2_k c]
            exact (upr_k a).trans (upr_k b)
          have mr : ∀ k, k ≠ 114 → k ≠ 115 → k ≠ 116 → k ≠ 117 → (k < 118 ∨ 121 < k) → MR k = MA k := fun k a b c d e => (c1 k e).trans (p0 k a b c d)
          have mr114 : ∀ s, s < 14 → MR 114 s = nI (gg s) := fun s hs' => by
            rw [c1 114 (by omega), ← hP0, up2_k (by decide), up2_k (by decide)]
            unfold rkM
            rw [upr_s, if_neg k2]
            exact (if_pos hs').trans (k3 s hs').2.1
          have mr116 : MR 116 = upd (M 116) n 1 := by
            rw [c1 116 (by omega), ← hP0, up2_k (by decide), up2_r]
            rw [show (rkM MA (nI n)) 116 = MA 116 from (upr_k (by decide)).trans (upr_k (by decide)), ma9 116 (by omega)]
          have mr117 : MR 117 = upd (M 117) n (nI g) := by
            rw [c1 117 (by omega), ← hP0, up2_r, up2_k (by decide)]
            rw [show (rkM MA (nI n)) 117 = MA 117 from (upr_k (by decide)).trans (upr_k (by decide)), ma9 117 (by omega)]
          have lit : ∀ y x, (y = 118 ∨ y = 119 ∨ y = 120 ∨ y = 121) → MR y x = if 4 * n ≤ x ∧ x < 4 * n + g then M y (56 + (x - 4 * n)) else M y x := fun y x hy => by
            rw [c2 y x hy, Nat.add_zero, p0 y (by omega) (by omega) (by omega) (by omega), ma9 y (by omega)]
          have mrm : ∀ k, k ≠ 0 → k ≠ 10 → k ≠ 96 → k ≠ 97 → (k < 12 + 6 * n ∨ 18 + 6 * n ≤ k) → (k < 114 ∨ 121 < k) → MR k = M k := fun k a b c d e f => (mr k (by omega) (by omega) (by omega) (by omega) (by omega)).trans (mam k a b c d e)
          have e110 : MR 110 = M 110 := mrm 110 (by omega) (by omega) (by omega) (by omega) (by omega) (by omega)
          have e109 : MR 109 = M 109 := mrm 109 (by omega) (by omega) (by omega) (by omega) (by omega) (by omega)
          have mr96 : MR 96 = t := (mr 96 (by decide) (by decide) (by decide) (by decide) (by decide)).trans ((ma 96 (by decide)).trans mc96)
          have rowR : ∀ k, 12 ≤ k → k < 96 → MR k = M1 k := fun k h1 h2 => (mr k (by omega) (by omega) (by omega) (by omega) (by omega)).trans ((ma k (by omega)).trans (mc k (by omega) (by omega) (by omega)))
          have croR : ∀ j, j < 14 → j ≠ n → cRo M MR j := fun j hj e k h1 h2 => (rowR k (by omega) (by omega)).trans (bo k (by omega))
          have croR1 : ∀ j, j < 14 → cRo M1 MR j := fun j hj k h1 h2 => rowR k (by omega) (by omega)
          have croC1 : ∀ j, j < 14 → cRo M1 MC j := fun j hj k h1 h2 => mc k (by omega) (by omega) (by omega)
          have croC : ∀ j, j < 14 → j ≠ n → cRo M MC j := fun j hj e k h1 h2 => (mc k (by omega) (by omega) (by omega)).trans (bo k (by omega))
          have ro : ∀ x, (x < 4 * n ∨ 4 * n + g ≤ x) → MR 121 x = M 121 x ∧ rLi MR x = rLi M x := fun x hx => by
            have nl : ∀ y, (y = 118 ∨ y = 119 ∨ y = 120 ∨ y = 121) → MR y x = M y x := fun y hy => by rw [lit y x hy, if_neg (by omega)]
            exact ⟨nl 121 (by omega), rLi_c (nl 118 (by omega)) (nl 119 (by omega)) (nl 120 (by omega)) (by rw [e110])⟩
          have rgR : rRu MR (4 * n) g = rRu M 56 g := by
            refine rRu_sh hg1 (fun k hk => ?_)
            have nl : ∀ y, (y = 118 ∨ y = 119 ∨ y = 120 ∨ y = 121) → MR y (4 * n + k) = M y (56 + k) := fun y hy => by
              rw [lit y _ hy, if_pos (by omega), show 56 + (4 * n + k - 4 * n) = 56 + k by omega]
            refine ⟨nl 121 (by omega), ?_⟩
            unfold rLi una
            rw [nl 118 (by omega), nl 119 (by omega), nl 120 (by omega), e110]
          have rmn : rml MR n = g := by unfold rml; rw [mr117, upd_s]; exact gcl
          have roj : ∀ j, j < 14 → j ≠ n → ¬ M 116 j = 0 → MR 117 j = M 117 j ∧ rRo M MR (4 * j) (rml M j) ∧ 1 ≤ rml M j := fun j hj e hu => by
            have l := hR.lns hj hu
            exact ⟨by rw [mr117, upd_o e], fun x h1 h2 => ro x (by omega), l.1⟩
          have cRC : ∀ ρ', cR MC ρ' ↔ (∃ j, j < 14 ∧ j ≠ n ∧ ¬ M (12 + 6 * j) 4 = 0 ∧ ρ' = cRu M j) ∨ ρ' = rRu M 56 g := fun ρ' => by
            rw [cR_one hn hW croC ρ', (croC1 n hn).ru (rln_3 (bW n hn)), bru, croC1 n hn _ (by omega) (by omega)]
            exact ⟨fun z => z.imp id (fun z => z.2), fun z => z.imp id (fun z => ⟨by rw [b7]; decide, z⟩)⟩
          have rRR : ∀ ρ', rR MR ρ' ↔ (∃ j, j < 14 ∧ j ≠ n ∧ ¬ M 116 j = 0 ∧ ρ' = rRu M (4 * j) (rml M j)) ∨ ρ' = rRu M 56 g := fun ρ' => by
            rw [rR_one hn (fun j hj e => ⟨by rw [mr116, upd_o e], fun hu => roj j hj e hu⟩) ρ', rmn, rgR, mr116, upd_s]
            exact ⟨fun z => z.imp id (fun z => z.2), fun z => z.imp id (fun z => ⟨by decide, z⟩)⟩
          have same : ∀ ρ', cR MC ρ' ↔ rR MR ρ' := by
            intro ρ'
            rw [cRC, rRR]
            constructor
            · rintro (⟨j, hj, e, hHj, rfl⟩ | z)
              · rw [hR.the j hj] at hHj
                exact Or.inl ⟨j, hj, e, hHj, (hR.rul j hj hHj).ru⟩
              · exact Or.inr z
            · rintro (⟨j, hj, e, huj, rfl⟩ | z)
              · exact Or.inl ⟨j, hj, e, by rw [hR.the j hj]; exact huj, (hR.rul j hj huj).ru.symm⟩
              · exact Or.inr z
          have h3n := rln_3 (bW n hn)
          have newQ : RQ MR n := by
            have c := croR1 n hn
            refine RQ.mk ?_ ?_ ?_ ?_ ?_ ?_
            · rw [c.ru h3n, bru, rmn, rgR]
            · rw [c.ln, b2, rmn]; omega
            · obtain ⟨np, a1, a2, a3⟩ := b5
              refine ⟨np, by rw [c.ln]; exact a1, fun j hj => by rw [c _ (by omega) (by omega)]; exact a2 j hj, fun j h1 h2 => ?_⟩
              rw [c.ln] at h2
              rw [c _ (by omega) (by omega)]; exact a3 j h1 h2
            · intro j hj
              rw [c.ln] at hj
              rw [c (12 + 6 * n) (by omega) (by omega), c (15 + 6 * n + j) (by omega) (by omega)]
              exact b6 j hj
            · rw [rmn]
              exact rSf_ru rgR (gSf_r hg1 gs)
            · intro h9
              rw [c.hd, ehd] at h9
              omega
          have rqR : ∀ j, j < 14 → ¬ MR 116 j = 0 → RQ MR j := fun j hj huj => by
            by_cases e : j = n
            · subst e; exact newQ
            · rw [mr116, upd_o e] at huj
              obtain ⟨r1, r2, _⟩ := roj j hj e huj
              exact (hR.rul j hj huj).c (rln_3 (hW j hj)) (croR j hj e) r1 r2
          have hokC : cOK MC := by
            refine ⟨fun j hj => wR_c (croC1 j hj) (bW j hj), by rw [mc 104 (by omega) (by omega) (by omega), bo 104 (by omega)]; exact hR.ci.2.1, fun j hj hHj => ?_⟩
            -- the rows of the class's rule are those of MR
            have cCR : cRo MR MC j := fun k h1 h2 => (mc k (by omega) (by omega) (by omega)).trans (rowR k (by omega) (by omega)).symm
            have huj : ¬ MR 116 j = 0 := by
              by_cases e : j = n
              · subst e; rw [mr116, upd_s]; decide
              · rw [mr116, upd_o e, ← hR.the j hj, ← croC j hj e _ (by omega) (by omega)]; exact hHj
            have q := rqR j hj huj
            have w3 := rln_3 (wR_c (croR1 j hj) (bW j hj))
            refine ⟨?_, ?_⟩
            · have hs' := cSf_S q.S
              unfold cS cTm tmn at hs' ⊢
              rw [cCR.ln, cCR _ (by omega) (by omega)]
              refine ⟨hs'.1.imp id ?_, hs'.2.imp id ?_⟩
              · rintro ⟨j', h1, h2⟩
                exact ⟨j', h1, by rw [cCR _ (by omega) (by omega)]; exact h2⟩
              · rintro ⟨j', h1, h2⟩
                exact ⟨j', h1, by rw [cCR _ (by omega) (by omega)]; exact h2⟩
            · intro j' hj'
              rw [cCR.ln] at hj'
              rw [cCR (12 + 6 * j) (by omega) (by omega), cCR (15 + 6 * j + j') (by omega) (by omega)]
              exact q.rd j' hj'
          have strR : ∀ s, s < 14 → MR 96 s = MR 114 s ∧ ∃ a, a < 6 ∧ MR 114 s = nI a := fun s hs' => by
            rw [mr96, mr114 s hs', (k3 s hs').1]
            exact ⟨rfl, gg s, (k3 s hs').2.2, rfl⟩
          have cRM1 : ∀ ρ', cR M1 ρ' ↔ rR MR ρ' := fun ρ' => by
            rw [← same, cR1, cRC]
          have sfrR : Sf (rR MR) (fun s => (MR 114 s).toNatClampNeg) := by
            intro ρ' hρ
            rw [← cRM1] at hρ
            obtain ⟨z1, z2⟩ := k4 ρ' hρ
            have h14 : ∀ s, s < 14 → (MR 114 s).toNatClampNeg = gg s := fun s hs' => by
              rw [mr114 s hs']
              have := (k3 s hs').2.2
              exact nI_clamp (n := gg s) (by omega)
            obtain ⟨j, hj, hHj, rfl⟩ := hρ
            obtain ⟨tp, tn⟩ := tmO_p (bW j hj)
            have hh := (rhd_14 (bW j hj)).1
            refine ⟨fun p hp => ?_, fun p hp => ?_⟩
            · show (MR 114 p.1).toNatClampNeg ≤ (MR 114 (rhd M1 j)).toNatClampNeg
              rw [h14 _ (tp p hp).1, h14 _ hh]; exact z1 p hp
            · show (MR 114 p.1).toNatClampNeg < (MR 114 (rhd M1 j)).toNatClampNeg
              rw [h14 _ (tn p hp).1, h14 _ hh]; exact z2 p hp
          have wRR : ∀ j, j < 14 → wR MR j := fun j hj => wR_c (croR1 j hj) (bW j hj)
          obtain ⟨z1, z2, z3, z4, z5, z6⟩ := fin_sets (MC := MC) (MR := MR) (LC := L) (LR := LA) (x := xx) (R0 := cR M) (F0 := ipc (L 7)) piMR wRR rqR strR sfrR hokC (by rw [mc96, mr96]) same (by rw [← hxx]; exact B14_one h14n) hR.sbc (fun _ _ _ _ => Iff.rfl) (fun s hs' c z => hs' z.1) (fun ρ' hne => by
            rw [cRC]
            constructor
            · rintro (⟨j, hj, _, hHj, rfl⟩ | rfl)
              · exact ⟨j, hj, hHj, rfl⟩
              · exfalso
                apply hne
                show ib xx (rLi M 56).1 = true
                rw [← hxx, ← ehd, ib_one _ (by omega) _ (by omega)]
                simp
            · rintro ⟨j, hj, hHj, rfl⟩
              exact Or.inl ⟨j, hj, fun e => hHj (e ▸ hnH), hHj, rfl⟩) hR.c14 (by rw [l_ 111 (by decide) (by decide) (by decide)]; exact EQs_c e110 hR.fct) (by rw [l_ 112 (by decide) (by decide) (by decide)]; exact EQs_c e110 hR.tup) (by rw [e109, ipr_c e110, l_ 111 (by decide) (by decide) (by decide)]; exact hR.emf) (l_ 7 (by decide) (by decide) (by decide)) l8
          generalize dct (derL MR LA) 14 0 0 = dd at z6 ⊢
          generalize hM3 : up2 (up2 M' 109 7 dd) 109 8 0 = M3
          have m_ : ∀ k, k ≠ 109 → k ≠ 128 → k ≠ 129 → k ≠ 130 → M3 k = MR k := fun k a b c d => by
            rw [← hM3, up2_k a, up2_k a]; exact hS.1 k b c d
          have m109 : ∀ j, j ≠ 7 → j ≠ 8 → M3 109 j = M 109 j := fun j h7 h8 => by
            rw [← hM3, up2_j h8, up2_j h7, hS.1 109 (by decide) (by decide) (by decide), e109]
          have m8 : M3 109 8 = 0 := by rw [← hM3, up2_s]
          have m7 : M3 109 7 = dd := by rw [← hM3, up2_j (by decide), up2_s]
          have mm : ∀ k, k ≠ 0 → k ≠ 10 → (k < 12 ∨ 98 ≤ k) → k ≠ 109 → (k < 114 ∨ 121 < k) → (k < 128 ∨ 130 < k) → M3 k = M k := fun k a b c d e f => (m_ k d (by omega) (by omega) (by omega)).trans (mrm k a b (by omega) (by omega) (by omega) e)
          have m10 : M3 10 4 = 0 := by
            rw [m_ 10 (by decide) (by decide) (by decide) (by decide), mr 10 (by decide) (by decide) (by decide) (by decide) (by decide), ma 10 (by decide)]; exact mc10
          have cro3 : ∀ j, j < 14 → cRo MR M3 j := fun j hj k h1 h2 => m_ k (by omega) (by omega) (by omega) (by omega)
          have row3 : ∀ k, 109 < k → k < 128 → M3 k = MR k := fun k h1 h2 => m_ k (by omega) (by omega) (by omega) (by omega)
          have ro3 : ∀ a m, rRo MR M3 a m := fun a m y _ _ => ⟨by rw [row3 121 (by omega) (by omega)], rLi_c (by rw [row3 118 (by omega) (by omega)]) (by rw [row3 119 (by omega) (by omega)]) (by rw [row3 120 (by omega) (by omega)]) (by rw [row3 110 (by omega) (by omega)])⟩
          have eR3 : rR M3 = rR MR := rR_c (fun i _ => by rw [row3 116 (by omega) (by omega)]) (fun i hi hu => ⟨by rw [row3 117 (by omega) (by omega)], ro3 _ _, by have := (rqR i hi hu).ln; omega⟩)
          have e110' : M3 110 = MR 110 := row3 110 (by omega) (by omega)
          have eip := ipr_c e110'
          refine RI.mk ?_ ?_ ?_ ?_ ?_ ?_ ?_ ?_ ?_ ?_ ?_ ?_ (EQs_c e110' z1) (EQs_c e110' z2) ?_ ?_ ?_ ?_ ?_ ?_ ?_ ?_ ?_
          · obtain ⟨⟨w1, w2, g', w3, w4⟩, v, c, m, he, li⟩ := hR.ci
            refine ⟨⟨fun j hj => wR_c (cro3 j hj) (wRR j hj), fun j hj => fr_wL (mm _ (by omega) (by omega) (by omega) (by omega) (by omega) (by omega)) (w2 j hj), 0, by omega, m10⟩, by rw [mm 104 (by omega) (by omega) (by omega) (by omega) (by omega) (by omega)]; exact v, by rw [mm 5 (by omega) (by omega) (by omega) (by omega) (by omega) (by omega)]; exact c, by rw [mm 105 (by omega) (by omega) (by omega) (by omega) (by omega) (by omega)]; exact m, by rw [mm 106 (by omega) (by omega) (by omega) (by omega) (by omega) (by omega)]; exact he, ?_⟩
            rw [mm 2 (by omega) (by omega) (by omega) (by omega) (by omega) (by omega), mm 3 (by omega) (by omega) (by omega) (by omega) (by omega) (by omega), mm 4 (by omega) (by omega) (by omega) (by omega) (by omega) (by omega)]; exact li
          · exact piMR.cg (by rw [m109 0 (by decide) (by decide), e109]) ⟨0, by omega, m8⟩ (by rw [m109 19 (by decide) (by decide), ← e109]; exact piMR.2.2.1) (fun a h h' _ _ _ _ _ => row3 a (by omega) (by omega))
          · rw [m109 0 (by decide) (by decide), mm 5 (by omega) (by omega) (by omega) (by omega) (by omega) (by omega)]; exact hR.cnt
          · rw [mm 5 (by omega) (by omega) (by omega) (by omega) (by omega) (by omega), mm 6 (by omega) (by omega) (by omega) (by omega) (by omega) (by omega), e110', e110]; exact hR.ari
          · rw [e110', e110]; exact hR.ar9
          · rw [m8, m10]
          · intro j hj hlt
            rw [m10] at hlt
            exact absurd hlt (nI_nlt (a := j) (b := 0) (Nat.zero_le _) (by omega))
          · intro z; exact absurd m10 z
          · intro j hj
            rw [cro3 j hj _ (by omega) (by omega), row3 116 (by omega) (by omega), mr116]
            by_cases e : j = n
            · subst e; rw [croR1 j hj _ (by omega) (by omega), b7, upd_s]
            · rw [croR j hj e _ (by omega) (by omega), upd_o e]; exact hR.the j hj
          · intro j hj hu
            rw [row3 116 (by omega) (by omega)] at hu
            exact (rqR j hj hu).c (rln_3 (wRR j hj)) (cro3 j hj) (by rw [row3 117 (by omega) (by omega)]) (ro3 _ _)
          · rw [m_ 96 (by decide) (by decide) (by decide) (by decide), row3 114 (by omega) (by omega)]; exact strR
          · rw [eR3, row3 114 (by omega) (by omega)]; exact sfrR
          · rw [m109 0 (by decide) (by decide), eip, ← e109]; exact z3
          · rw [m109 0 (by decide) (by decide), eip, ← e109]; exact z4
          · rw [eR3, eip]; exact z5
          · rw [mm 2 (by omega) (by omega) (by omega) (by omega) (by omega) (by omega), mm 3 (by omega) (by omega) (by omega) (by omega) (by omega) (by omega), mm 4 (by omega) (by omega) (by omega) (by omega) (by omega) (by omega), mm 122 (by omega) (by omega) (by omega) (by omega) (by omega) (by omega), mm 123 (by omega) (by omega) (by omega) (by omega) (by omega) (by omega), mm 124 (by omega) (by omega) (by omega) (by omega) (by omega) (by omega)]; exact hR.lin
          · rw [mm 105 (by omega) (by omega) (by omega) (by omega) (by omega) (by omega), m109 19 (by decide) (by decide)]; exact hR.mad
          · rw [mm 106 (by omega) (by omega) (by omega) (by omega) (by omega) (by omega), mm 125 (by omega) (by omega) (by omega) (by omega) (by omega) (by omega)]; exact hR.hel
          · rw [mm 107 (by omega) (by omega) (by omega) (by omega) (by omega) (by omega), mm 126 (by omega) (by omega) (by omega) (by omega) (by omega) (by omega)]; exact hR.sit
          · rw [mm 108 (by omega) (by omega) (by omega) (by omega) (by omega) (by omega), mm 127 (by omega) (by omega) (by omega) (by omega) (by omega) (by omega)]; exact hR.fie
          · rw [m_ 0 (by decide) (by decide) (by decide) (by decide), mr 0 (by decide) (by decide) (by decide) (by decide) (by decide), ← hMA, up2_s, m7]; exact z6
        · rw [hst] at k1; cases k1
    · obtain ⟨rfl, rfl⟩ := q3 hs
      refine ⟨_, up2 M 10 4 0, L, rfl, rfl, piA, fun r2 μ2 hq2 => ?_⟩
      obtain ⟨μ', hRU, rfl⟩ := hq2
      have hX : ∀ k, 109 ≤ k → (up2 M 10 4 0) k = M k := fun k hk => up2_k (by omega)
      have hs0 : sfl (up2 M 10 4 0) ((up2 M 10 4 0) 109 8).toNatClampNeg 56 1 = 0 := by
        apply Classical.byContradiction
        intro z
        apply hs
        rw [msafe_g hR hg1 hg eg, ← sfl_g hR hg1 hg eg8]
        rw [sfl_c (by rw [hX 109 (by omega)]) (hX 110 (by omega)) (hX 118 (by omega)) (hX 119 (by omega)) (hX 120 (by omega)) (hX 121 (by omega)), hX 109 (by omega), eg8, gcl] at z
        exact z
      obtain ⟨rfl, rfl⟩ := hRU.2.1 (notA _ (hX 109 (by omega)) (hX 116 (by omega))) hs0
      exact ⟨rfl, _, L, rfl, dropA⟩
