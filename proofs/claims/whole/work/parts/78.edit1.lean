/-! edit agrees -/
theorem LV_up {N : mM} {o x y l : Nat} {x1 x2 x3 : Int32} (h : LV N o x y) (hx : x1 = -1 ∨ (vp_in x1 6 ∧ vp_in x2 6 ∧ vp_in x3 6)) {N' : mM} (ho : N' o = upd (N o) l x1) (hxx : N' x = upd (N x) l x2) (hy : N' y = upd (N y) l x3) : LV N' o x y := by
  intro k hk
  rw [ho, hxx, hy]
  by_cases e : k = l
  · subst e; rw [upd_s, upd_s, upd_s]; exact hx
  · rw [upd_o e, upd_o e, upd_o e]; exact h k hk
theorem k_edit (x0 x1 x2 x3 : Int32) : Clp RI (po_PF_edit [.ref 0, .int x0, .int x1, .int x2, .int x3]) (po_PM_edit [.ref 109, .int x0, .int x1, .int x2, .int x3]) := by
  intro M L hR r μ1 hq
  obtain ⟨q1, q2⟩ := hq
  by_cases hc : ((0 ≤ x0 ∧ x0 < 12) ∧ (-1 ≤ x1 ∧ x1 < 6) ∧ (x1 = -1 ∨ ((0 ≤ x2 ∧ x2 < 6) ∧ (0 ≤ x3 ∧ x3 < 6))))
  · obtain ⟨ρ, e1, e2⟩ := q2 hc _ rfl _ rfl
    have hec := ed_cond.mpr hc
    obtain ⟨l, hl, rfl⟩ := rng_n (n := 12) (by decide) hc.1
    have ecl : (nI l).toNatClampNeg = l := nI_clamp (n := l) (by omega)
    have e1 : μ1 = folM (upr (up2 (up2 (up2 (up2 M 2 (nI l).toNatClampNeg x1) 3 (nI l).toNatClampNeg x2) 4 (nI l).toNatClampNeg x3) 105 3 0) 106 (fun j => if j < 6 then -1 else (up2 (up2 (up2 M 2 (nI l).toNatClampNeg x1) 3 (nI l).toNatClampNeg x2) 4 (nI l).toNatClampNeg x3) 106 j)) (rfF (upr (up2 (up2 (up2 (up2 M 2 (nI l).toNatClampNeg x1) 3 (nI l).toNatClampNeg x2) 4 (nI l).toNatClampNeg x3) 105 3 0) 106 (fun j => if j < 6 then -1 else (up2 (up2 (up2 M 2 (nI l).toNatClampNeg x1) 3 (nI l).toNatClampNeg x2) 4 (nI l).toNatClampNeg x3) 106 j)) L 6) (rfC (upr (up2 (up2 (up2 (up2 M 2 (nI l).toNatClampNeg x1) 3 (nI l).toNatClampNeg x2) 4 (nI l).toNatClampNeg x3) 105 3 0) 106 (fun j => if j < 6 then -1 else (up2 (up2 (up2 M 2 (nI l).toNatClampNeg x1) 3 (nI l).toNatClampNeg x2) 4 (nI l).toNatClampNeg x3) 106 j)) L 6) ρ := e1
    have e2 : r = some (.int (cst (upr (up2 (up2 (up2 (up2 M 2 (nI l).toNatClampNeg x1) 3 (nI l).toNatClampNeg x2) 4 (nI l).toNatClampNeg x3) 105 3 0) 106 (fun j => if j < 6 then -1 else (up2 (up2 (up2 M 2 (nI l).toNatClampNeg x1) 3 (nI l).toNatClampNeg x2) 4 (nI l).toNatClampNeg x3) 106 j)) 12)) := e2
    rw [ecl] at e1 e2
    generalize hM2 : upr (up2 (up2 (up2 (up2 M 2 l x1) 3 l x2) 4 l x3) 105 3 0) 106 (fun j => if j < 6 then -1 else (up2 (up2 (up2 M 2 l x1) 3 l x2) 4 l x3) 106 j) = M2 at e1 e2
    have a2 : M2 2 = upd (M 2) l x1 := by
      rw [← hM2, upr_k (by decide), up2_k (by decide), up2_k (by decide), up2_k (by decide), up2_r]
    have a3 : M2 3 = upd (M 3) l x2 := by
      rw [← hM2, upr_k (by decide), up2_k (by decide), up2_k (by decide), up2_r, up2_k (by decide)]
    have a4 : M2 4 = upd (M 4) l x3 := by
      rw [← hM2, upr_k (by decide), up2_k (by decide), up2_r, up2_k (by decide), up2_k (by decide)]
    have a105 : M2 105 3 = 0 := by rw [← hM2, upr_k (by decide), up2_s]
    have a106 : ∀ j, j < 6 → M2 106 j = -1 := fun j hj => by rw [← hM2, upr_s]; exact if_pos hj
    have a_ : ∀ k, k ≠ 2 → k ≠ 3 → k ≠ 4 → k ≠ 105 → k ≠ 106 → M2 k = M k := fun k b c d e f => by
      rw [← hM2, upr_k f, up2_k e, up2_k d, up2_k c, up2_k b]
    have hv : x1 = -1 ∨ (vp_in x1 6 ∧ vp_in x2 6 ∧ vp_in x3 6) := by
      rcases hc.2.2 with h | ⟨h2, h3⟩
      · exact Or.inl h
      · by_cases h0 : x1 = -1
        · exact Or.inl h0
        · right
          have h1 : 0 ≤ x1 := by
            have g := hc.2.1.1
            rw [Int32.le_iff_toInt_le] at g ⊢
            have : (-1 : Int32).toInt = -1 := rfl
            have : (0 : Int32).toInt = 0 := rfl
            have : x1.toInt ≠ -1 := fun z => h0 (Int32.toInt_inj.mp z)
            omega
          obtain ⟨p, hp, rfl⟩ := rng_n (n := 6) (by decide) ⟨h1, hc.2.1.2⟩
          obtain ⟨a, ha, rfl⟩ := rng_n (n := 6) (by decide) h2
          obtain ⟨b, hb, rfl⟩ := rng_n (n := 6) (by decide) h3
          exact ⟨vp_in_nI hp (by decide), vp_in_nI ha (by decide), vp_in_nI hb (by decide)⟩
    have lv2 : LV M2 2 3 4 := LV_up hR.ci.2.2.2.2.2 hv a2 a3 a4
    -- the class's end
    generalize hLF : rfF M2 L 6 = LF at e1
    generalize hxx : rfC M2 L 6 = xx at e1
    have f7 : LF 7 = fun r => if r < 6 then fo M2 (nI r) 12 else L 7 r := by rw [← hLF]; exact upr_s
    have f_ : ∀ k, k ≠ 7 → LF k = L k := fun k hk => by rw [← hLF]; exact upr_k hk
    generalize hMA : up2 M2 0 5 (cch (upr (upr LF 9 (LF 8)) 8 (fll M2 LF xx)) 14) = MA
    generalize hLA : up2 (upr (upr LF 9 (LF 8)) 8 (fll M2 LF xx)) 103 1 ρ = LA
    have e1 : μ1 = (131, MA, LA, TT) := by rw [e1, ← hMA, ← hLA]; rfl
    subst e1; subst e2
    have b_ : ∀ k, k ≠ 0 → MA k = M2 k := fun k hk => by rw [← hMA, up2_k hk]
    have b05 : MA 0 5 = cch (upr (upr LF 9 (LF 8)) 8 (fll M2 LF xx)) 14 := by rw [← hMA, up2_s]
    have c7 : LA 7 = LF 7 := by rw [← hLA, up2_k (by decide), upr_k (by decide), upr_k (by decide)]
    have c8 : LA 8 = fll M2 LF xx := by rw [← hLA, up2_k (by decide), upr_s]
    have c_ : ∀ k, k ≠ 8 → k ≠ 9 → k ≠ 103 → LA k = LF k := fun k a b c => by rw [← hLA, up2_k c, upr_k a, upr_k b]
    have bm : ∀ k, 109 ≤ k → MA k = M k := fun k hk => (b_ k (by omega)).trans (a_ k (by omega) (by omega) (by omega) (by omega) (by omega))
    have hpi1 : PI MA := hR.pi.cg (by rw [bm 109 (by omega)]) (by rw [bm 109 (by omega)]; exact hR.pi.2.1) (by rw [bm 109 (by omega)]; exact hR.pi.2.2.1) (fun a h _ _ _ _ _ _ => bm a (by omega))
    refine ⟨_, MA, LA, rfl, rfl, hpi1, fun r2 μ2 hq2 => ?_⟩
    obtain ⟨er, M', hS, rfl⟩ := hq2.1 hec
    have er : r2 = some (.int (edF (edM MA (nI l).toNatClampNeg x1 x2 x3) LA).1) := er
    have hS : Sm (edM MA (nI l).toNatClampNeg x1 x2 x3) M' := hS
    show r2 = _ ∧ ∃ M2' L2', (131, upr (up2 (up2 M' 109 7 (dct (derL (edM MA (nI l).toNatClampNeg x1 x2 x3) (edF (edM MA (nI l).toNatClampNeg x1 x2 x3) LA).2) 14 0 0)) 109 19 0) 125 (stc (M' 125) (fun _ => -1) 6), derL (edM MA (nI l).toNatClampNeg x1 x2 x3) (edF (edM MA (nI l).toNatClampNeg x1 x2 x3) LA).2, TT) = ((131, M2', L2', TT) : Mm) ∧ RI M2' L2'
    rw [ecl] at er hS ⊢
    subst er
    generalize hN : edM MA l x1 x2 x3 = N at hS ⊢
    have n122 : N 122 = upd (M 122) l x1 := by
      rw [← hN]
      unfold edM
      rw [up2_k (by decide), up2_k (by decide), up2_r, bm 122 (by omega)]
    have n123 : N 123 = upd (M 123) l x2 := by
      rw [← hN]
      unfold edM
      rw [up2_k (by decide), up2_r, up2_k (by decide), bm 123 (by omega)]
    have n124 : N 124 = upd (M 124) l x3 := by
      rw [← hN]
      unfold edM
      rw [up2_r, up2_k (by decide), up2_k (by decide), bm 124 (by omega)]
    have n_ : ∀ k, k ≠ 122 → k ≠ 123 → k ≠ 124 → N k = MA k := fun k a b c => by
      rw [← hN]
      unfold edM
      rw [up2_k c, up2_k b, up2_k a]
    have nm : ∀ k, k ≠ 0 → k ≠ 2 → k ≠ 3 → k ≠ 4 → k ≠ 105 → k ≠ 106 → k ≠ 122 → k ≠ 123 → k ≠ 124 → N k = M k := fun k z0 z2 z3 z4 z5 z6 z7 z8 z9 => (n_ k z7 z8 z9).trans ((b_ k z0).trans (a_ k z2 z3 z4 z5 z6))
    have lvM : LV M 122 123 124 := hR.pi.2.2.2.2.2.2.2
    have lvN : LV N 122 123 124 := LV_up lvM hv n122 n123 n124
    have lines : ∀ k, k < 12 → M2 2 k = N 122 k ∧ M2 3 k = N 123 k ∧ M2 4 k = N 124 k := by
      intro k hk
      obtain ⟨g1, g2, g3⟩ := hR.lin k hk
      rw [a2, a3, a4, n122, n123, n124]
      by_cases e : k = l
      · subst e; rw [upd_s, upd_s, upd_s, upd_s, upd_s, upd_s]; exact ⟨rfl, rfl, rfl⟩
      · rw [upd_o e, upd_o e, upd_o e, upd_o e, upd_o e, upd_o e]; exact ⟨g1, g2, g3⟩
    obtain ⟨d1, d2, d3⟩ := edl_lb lvN 12 0 (0, upr LA 111 (stg (LA 111) (fun _ => 0) 6)) rfl
    have hct := edl_ct (M := M2) lvN (fun k hk => (lines k hk).1) 12 0 (0, upr LA 111 (stg (LA 111) (fun _ => 0) 6)) rfl rfl
    have hct : (edF N LA).1 = cst M2 12 := hct
    generalize hLR : (edF N LA).2 = LR
    have r_ : ∀ k, k ≠ 111 → LR k = LA k := fun k hk => by rw [← hLR]; exact (d1 k hk).trans (upr_k hk)
    have r6 : ∀ s, ¬ s < 6 → LR 111 s = L 111 s := fun s hs => by
      rw [← hLR]
      refine (d2 s hs).trans ?_
      show (upr LA 111 (stg (LA 111) (fun _ => 0) 6)) 111 s = _
      rw [upr_s]
      unfold stg
      rw [if_neg hs, c_ 111 (by decide) (by decide) (by decide), f_ 111 (by decide)]
    have rp : ∀ p, p < 6 → ∀ c, c < 64 → (lb (LR 111 p) c = true ↔ ∃ k a b, k < 12 ∧ N 122 k = nI p ∧ a < 6 ∧ b < 6 ∧ N 123 k = nI a ∧ N 124 k = nI b ∧ c = 6 * a + b) := by
      intro p hp c hc'
      rw [← hLR]
      refine (d3 p hp c hc').trans ?_
      have z : (upr LA 111 (stg (LA 111) (fun _ => 0) 6)) 111 p = 0 := by rw [upr_s]; exact if_pos hp
      show (lb ((upr LA 111 (stg (LA 111) (fun _ => 0) 6)) 111 p) c = true ∨ _) ↔ _
      rw [z, lb_0]
      constructor
      · rintro (y | ⟨k, a, b, _, y⟩)
        · cases y
        · exact ⟨k, a, b, y⟩
      · rintro ⟨k, a, b, y⟩
        exact Or.inr ⟨k, a, b, Nat.zero_le _, y⟩
    have e110 : N 110 = M 110 := nm 110 (by decide) (by decide) (by decide) (by decide) (by decide) (by decide) (by decide) (by decide) (by decide)
    have hsame : ∀ p, p < 6 → ∀ c, c < 64 → lb (LF 7 p) c = lb (LR 111 p) c := by
      intro p hp c hc'
      rw [Bool.eq_iff_iff, rp p hp c hc', f7]
      show lb (if p < 6 then fo M2 (nI p) 12 else L 7 p) c = true ↔ _
      rw [if_pos hp, fo_lb lv2 hp 12 (Nat.le_refl _) c hc']
      constructor
      · rintro ⟨k, a, b, h1, h2, h3, h4, h5, h6, h7⟩
        obtain ⟨g1, g2, g3⟩ := lines k h1
        exact ⟨k, a, b, h1, by rw [← g1]; exact h2, h3, h4, by rw [← g2]; exact h5, by rw [← g3]; exact h6, h7⟩
      · rintro ⟨k, a, b, h1, h2, h3, h4, h5, h6, h7⟩
        obtain ⟨g1, g2, g3⟩ := lines k h1
        exact ⟨k, a, b, h1, by rw [g1]; exact h2, h3, h4, by rw [g2]; exact h5, by rw [g3]; exact h6, h7⟩
    have hEF : EQs N (LF 7) (LR 111) := by
      refine EQs_c e110 ⟨fun s c => ?_, fun s hs t ht hb => ?_⟩
      · by_cases h6 : s < 6
        · have hu : ¬ M 110 s = 1 := by rw [hR.ar9 s (by omega)]; decide
          constructor
          · rintro ⟨g, hb⟩
            have h64 : c < 64 := Nat.not_le.mp fun z => by rw [lb_big z] at hb; cases hb
            rw [hsame s h6 c h64] at hb
            obtain ⟨_, a, b, _, _, ha, hb', _, _, ec⟩ := (rp s h6 c h64).mp hb
            exact ⟨g, c, by omega, hb, by unfold cel; rw [if_neg hu]⟩
          · rintro ⟨g, t, ht, hb, e⟩
            unfold cel at e
            rw [if_neg hu] at e
            subst e
            exact ⟨g, by rw [hsame s h6 c (by omega)]; exact hb⟩
        · have e7 : LF 7 s = L 7 s := by rw [f7]; exact if_neg h6
          unfold ipc
          rw [e7, ipr_r (r6 s h6)]
          exact hR.fct.1 s c
      · by_cases h6 : s < 6
        · obtain ⟨_, a, b, _, _, ha, hb', _, _, ec⟩ := (rp s h6 t ht).mp hb
          refine ⟨by omega, fun z => ?_⟩
          rw [hR.ar9 s (by omega)] at z
          exact absurd z (by decide)
        · rw [r6 s h6] at hb
          exact hR.fct.2 s hs t ht hb
    have sc2 : SC M M2 := SC.of (fun k _ _ _ _ _ h6 _ h8 => a_ k (by omega) (by omega) (by omega) (by omega) (by omega)) (by rw [a_ 109 (by decide) (by decide) (by decide) (by decide) (by decide)])
    have scN : SC M N := SC.of (fun k h0 _ _ _ _ h6 h7 h8 => nm k h0 (by omega) (by omega) (by omega) (by omega) (by omega) (by omega) (by omega) (by omega)) (by rw [nm 109 (by decide) (by decide) (by decide) (by decide) (by decide) (by decide) (by decide) (by decide) (by decide)])
    obtain ⟨s1, s2, s3, s4, s5, s6, s7⟩ := sc2.core hR
    obtain ⟨t1, t2, t3, t4, t5, t6, t7⟩ := scN.core hR
    have ciM : ∀ X : mM, (∀ k, 5 ≤ k → k < 105 → X k = M k) → LV X 2 3 4 → X 105 3 = 0 → (∀ j, j < 6 → X 106 j = -1) → CI X := by
      intro X hX hlv h5 h6
      obtain ⟨⟨w1, w2, g, w3, w4⟩, v, c, m, he, li⟩ := hR.ci
      exact ⟨⟨fun i hi => wR_c (fun k h1 h2 => hX k (by omega) (by omega)) (w1 i hi), fun j hj => fr_wL (hX _ (by omega) (by omega)) (w2 j hj), g, w3, by rw [hX 10 (by omega) (by omega)]; exact w4⟩, by rw [hX 104 (by omega) (by omega)]; exact v, by rw [hX 5 (by omega) (by omega)]; exact c, ⟨0, by omega, h5⟩, fun j hj => Or.inl (h6 j hj), hlv⟩
    have ci2 : CI M2 := ciM M2 (fun k h1 h2 => a_ k (by omega) (by omega) (by omega) (by omega) (by omega)) lv2 a105 a106
    have eN : ∀ k, 5 ≤ k → k < 105 → N k = M k := fun k h1 h2 => nm k (by omega) (by omega) (by omega) (by omega) (by omega) (by omega) (by omega) (by omega) (by omega)
    have eRR : ∀ ρ', cR M2 ρ' ↔ cR M ρ' := fun ρ' => by
      rw [cR_rR s3 s4, s7]
      exact (cR_rR hR.the hR.rul ρ').symm
    have piN : PI N := by
      rw [← hN]
      exact hpi1.ed hec.2.2.1 hec.2.2.2.1 hec.2.2.2.2
    have e109N : N 109 = M 109 := nm 109 (by decide) (by decide) (by decide) (by decide) (by decide) (by decide) (by decide) (by decide) (by decide)
    obtain ⟨z1, z2, z3, z4, z5, z6⟩ := fin_sets (MC := M2) (MR := N) (LC := LF) (LR := LR) (x := xx) (R0 := cR M) (F0 := ipc (L 7)) piN (fun i hi => wR_c (fun k h1 h2 => eN k (by omega) (by omega)) (hR.ci.1.1 i hi)) t4 t5 t6 (cOK_of ci2 s3 s4) (by rw [a_ 96 (by decide) (by decide) (by decide) (by decide) (by decide), eN 96 (by omega) (by omega)]) (fun ρ' => by rw [cR_rR s3 s4, s7, t7]) (fun s h1 h2 => by
      apply ts_nt
      intro z
      rw [← hxx] at z
      have := ((rfC_ib 6 (Nat.le_refl _) s h2).mp z).1
      omega) (by rw [f_ 8 (by decide)]; exact hR.sbc) (fun s hs hne c => by
      unfold ipc
      rw [f7]
      show (s < 14 ∧ lb (if s < 6 then fo M2 (nI s) 12 else L 7 s) c = true) ↔ _
      by_cases h6 : s < 6
      · have : fo M2 (nI s) 12 = L 7 s := Classical.byContradiction fun z => hne (by rw [← hxx]; exact (rfC_ib 6 (Nat.le_refl _) s (by omega)).mpr ⟨h6, z⟩)
        rw [if_pos h6, this]
      · rw [if_neg h6]) (fun s hs c z => hs z.1) (fun ρ' _ => eRR ρ') hR.c14 hEF (by
      rw [f_ 8 (by decide), r_ 112 (by decide), c_ 112 (by decide) (by decide) (by decide), f_ 112 (by decide)]
      exact EQs_c e110 hR.tup) (fun s hs c z => by
      rw [e109N] at hs
      obtain ⟨n', h9, _, _, _, h5⟩ := hR.n
      rw [ipr_c e110, ipr_r (r6 s (by omega))] at z
      exact hR.emf s hs c z) ((r_ 7 (by decide)).trans c7) ((r_ 8 (by decide)).trans c8)
    refine ⟨by rw [hct], _, _, rfl, ?_⟩
    generalize hD : dct (derL N LR) 14 0 0 = dd at z6
    generalize hM3 : upr (up2 (up2 M' 109 7 dd) 109 19 0) 125 (stc (M' 125) (fun _ => -1) 6) = M3
    have m_ : ∀ k, k ≠ 109 → k ≠ 125 → k ≠ 128 → k ≠ 129 → k ≠ 130 → M3 k = N k := fun k a b c d e => by
      rw [← hM3, upr_k b, up2_k a, up2_k a]; exact hS.1 k c d e
    have m109 : ∀ j, j ≠ 7 → j ≠ 19 → M3 109 j = M 109 j := fun j h7 h19 => by
      rw [← hM3, upr_k (by decide), up2_j h19, up2_j h7, hS.1 109 (by decide) (by decide) (by decide), e109N]
    have m19 : M3 109 19 = 0 := by rw [← hM3, upr_k (by decide), up2_s]
    have m7 : M3 109 7 = dd := by rw [← hM3, upr_k (by decide), up2_j (by decide), up2_s]
    have m125 : ∀ j, j < 6 → M3 125 j = -1 := fun j hj => by rw [← hM3, upr_s]; exact if_pos hj
    have mm : ∀ k, k ≠ 0 → k ≠ 2 → k ≠ 3 → k ≠ 4 → k ≠ 105 → k ≠ 106 → k ≠ 109 → (k < 122 ∨ (125 < k ∧ k < 128) ∨ 130 < k) → M3 k = M k := fun k w0 w2 w3 w4 w5 w6 w9 w => (m_ k w9 (by omega) (by omega) (by omega) (by omega)).trans (nm k w0 w2 w3 w4 w5 w6 (by omega) (by omega) (by omega))
    have sc3 : SC M M3 := SC.of (fun k h0 _ h9 _ _ h6 h7 h8 => mm k h0 (by omega) (by omega) (by omega) (by omega) (by omega) h9 (by omega)) (m109 0 (by decide) (by decide))
    have row2 : ∀ k, k = 2 ∨ k = 3 ∨ k = 4 ∨ k = 105 ∨ k = 106 → M3 k = M2 k := fun k hk => (m_ k (by omega) (by omega) (by omega) (by omega) (by omega)).trans ((n_ k (by omega) (by omega) (by omega)).trans (b_ k (by omega)))
    have q10 : M3 10 = M 10 := mm 10 (by decide) (by decide) (by decide) (by decide) (by decide) (by decide) (by decide) (by decide)
    have qr : ∀ k, 110 ≤ k → k < 122 → M3 k = M k := fun k h1 h2 => mm k (by omega) (by omega) (by omega) (by omega) (by omega) (by omega) (by omega) (by omega)
    have eip := ipr_c e110
    rw [eip, e109N] at z3
    rw [eip, e109N] at z4
    rw [eip, t7] at z5
    refine RI.sc sc3 hR (ciM M3 (fun k h1 h2 => mm k (by omega) (by omega) (by omega) (by omega) (by omega) (by omega) (by omega) (by omega)) ?_ ?_ ?_) ?_ ?_ ?_ ?_ (EQs_c e110.symm z1) (EQs_c e110.symm z2) z3 z4 z5 ?_ ?_ ?_ ?_ ?_ ?_
    · intro k hk
      rw [row2 2 (by omega), row2 3 (by omega), row2 4 (by omega)]
      exact lv2 k hk
    · rw [row2 105 (by omega)]; exact a105
    · intro j hj
      rw [row2 106 (by omega)]; exact a106 j hj
    · obtain ⟨p1, p2, p3, p4, p5, p6, p7, p8⟩ := hR.pi
      refine ⟨by rw [m109 0 (by decide) (by decide)]; exact p1, by rw [m109 8 (by decide) (by decide)]; exact p2, ⟨0, by omega, m19⟩, by rw [qr 116 (by omega) (by omega)]; exact p4, ?_, fun i hi => ?_, fun j hj => Or.inl (m125 j hj), ?_⟩
      · rw [qr 116 (by omega) (by omega), qr 117 (by omega) (by omega)]; exact p5
      · have := p6 i hi
        unfold rok at this ⊢
        rw [qr 118 (by omega) (by omega), qr 119 (by omega) (by omega), qr 120 (by omega) (by omega), qr 121 (by omega) (by omega), qr 110 (by omega) (by omega), m109 0 (by decide) (by decide)]
        exact this
      · rw [m_ 122 (by decide) (by decide) (by decide) (by decide) (by decide), m_ 123 (by decide) (by decide) (by decide) (by decide) (by decide), m_ 124 (by decide) (by decide) (by decide) (by decide) (by decide)]
        exact lvN
    · rw [m109 8 (by decide) (by decide), q10]; exact hR.gvn
    · intro j hj hn
      rw [q10] at hn
      have := hR.giv j hj hn
      have e9 : M3 (99 + j) = M (99 + j) := mm (99 + j) (by omega) (by omega) (by omega) (by omega) (by omega) (by omega) (by omega) (by omega)
      unfold LQ at this ⊢
      rw [cLi_c e9, e9, rLi_c (M := M) (M' := M3) (by rw [qr 118 (by omega) (by omega)]) (by rw [qr 119 (by omega) (by omega)]) (by rw [qr 120 (by omega) (by omega)]) (by rw [qr 110 (by omega) (by omega)]), qr 118 (by omega) (by omega), qr 121 (by omega) (by omega)]
      exact this
    · rw [q10, qr 121 (by omega) (by omega), qr 118 (by omega) (by omega)]; exact hR.gv0
    · intro k hk
      rw [row2 2 (by omega), row2 3 (by omega), row2 4 (by omega), m_ 122 (by decide) (by decide) (by decide) (by decide) (by decide), m_ 123 (by decide) (by decide) (by decide) (by decide) (by decide), m_ 124 (by decide) (by decide) (by decide) (by decide) (by decide)]
      exact lines k hk
    · rw [row2 105 (by omega), a105, m19]
    · intro j hj
      rw [row2 106 (by omega), a106 j hj, m125 j hj]
    · rw [mm 107 (by decide) (by decide) (by decide) (by decide) (by decide) (by decide) (by decide) (by decide), mm 126 (by decide) (by decide) (by decide) (by decide) (by decide) (by decide) (by decide) (by decide)]; exact hR.sit
    · rw [mm 108 (by decide) (by decide) (by decide) (by decide) (by decide) (by decide) (by decide) (by decide), mm 127 (by decide) (by decide) (by decide) (by decide) (by decide) (by decide) (by decide) (by decide)]; exact hR.fie
    · rw [m_ 0 (by decide) (by decide) (by decide) (by decide) (by decide), n_ 0 (by decide) (by decide) (by decide), b05, m7]; exact z6
  · obtain ⟨rfl, rfl⟩ := q1 hc
    refine ⟨_, M, L, rfl, rfl, hR.pi, fun r2 μ2 hq2 => ?_⟩
    obtain ⟨rfl, rfl⟩ := hq2.2 (fun z => hc (ed_cond.mp z))
    exact ⟨rfl, M, L, rfl, hR⟩
