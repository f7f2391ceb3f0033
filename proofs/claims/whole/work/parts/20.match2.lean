theorem fr_wR3 {M M' : mM} {i : Nat} (h : ∀ k, k < 103 → M' k = M k) (hi : i < 14) (hw : wR M i) : wR M' i := by
  obtain ⟨h1, h2, h3, h4⟩ := hw
  refine ⟨?_, ?_, fr_wL (h _ (by omega)) h3, fun j hj => fr_wL (h _ (by omega)) (h4 j hj)⟩
  · rw [h _ (show 12 + 6 * i < 103 by omega)]; exact h1
  · rw [h _ (show 12 + 6 * i < 103 by omega)]; exact h2
theorem up104 {M : mM} {v : Nat → Int32} : ∀ k, k < 103 → upr M 104 v k = M k := fun k hk => upr_k (by omega)
theorem rstM {M : mM} {v1 v : Nat → Int32} {k : Nat} (hk : k < 103) : up2 (up2 (upr M 104 v1) 104 (upr M 104 v1 k 1).toNatClampNeg (v (M k 1).toNatClampNeg)) 104 (up2 (upr M 104 v1) 104 (upr M 104 v1 k 1).toNatClampNeg (v (M k 1).toNatClampNeg) k 2).toNatClampNeg (v (M k 2).toNatClampNeg) = upr M 104 (upd (upd v1 (M k 1).toNatClampNeg (v (M k 1).toNatClampNeg)) (M k 2).toNatClampNeg (v (M k 2).toNatClampNeg)) := by
  rw [up2_k (show k ≠ 104 by omega), up104 k hk, up2_upr, up2_upr, upr_s, upr_s, upr_upr, upr_upr]

set_option maxRecDepth 100000 in
set_option maxHeartbeats 4000000 in
theorem c_mlS (xr d : Nat) (H : Cn y_DV_matchFrom b_DV_matchFrom 4 (some .int) (rmm (1 + 2 * d + xr) 0 0) (3 + 1) 0 0 (pr_mf d) (po_mf d)) : Cn y_DV_matchLiteral b_DV_matchLiteral 15 (some .int) (rmm (2 + 2 * d + xr) 0 0) (3 + 1) 0 0 (pr_ml d) (po_ml d) := cv_RRI (ci := 6) (f := f_ml d) (g := g_ml d) fun l k x0 x1 x2 μ hk h => by
  obtain ⟨hm, h⟩ := h
  obtain ⟨M, L, rfl⟩ := hm.e
  obtain ⟨rfl, rfl, hv, i, len, p, hi, rfl, hw, hlen, hp, rfl⟩ := h
  have hv : vok (M 104) := hv
  have hw : wR M i := hw
  have hlen : rln M i = len := hlen
  have hl3 : len ≤ 3 := by rw [← hlen]; exact wR_ln hw
  obtain ⟨-, ⟨n, hn3, hne⟩, hwh, hwb⟩ := id hw
  have hnl : n = len := by rw [← hlen]; unfold rln; rw [hne]; exact (nI_clamp (n := n) (by omega)).symm
  subst hnl
  have post : ∀ (r : Option Value) (μ' : Mm), r = some (.int (mmt M L i n (d + 1) (M 104) (L 103 1)).1) → μ' = (131, M, up2 L 103 1 (mmt M L i n (d + 1) (M 104) (L 103 1)).2, TT) → ∀ i', i' < 14 → 12 + 6 * i = 12 + 6 * i' → r = some (.int (mmt M L i' (rln M i') (d + 1) (M 104) (L 103 1)).1) ∧ μ' = (131, M, up2 L 103 1 (mmt M L i' (rln M i') (d + 1) (M 104) (L 103 1)).2, TT) := by
    intro r μ' h1 h2 i' _ hi'
    have : i' = i := by omega
    subst this
    rw [hlen]
    exact ⟨h1, h2⟩
  refine ky_met (own := R_DV) (ini := 0) (rb := 0) (nE := 131) (cd := k_DV_matchLiteral) (C := (C_ml d)) (by decide) rfl (fun h => by cases h) (Nat.le_of_ble_eq_true rfl) ⟨rfl, rfl⟩ (Or.inl ⟨rfl, rfl⟩) rfl rfl (by decide) ok_DV_matchLiteral (cs_ml xr d l H) rt_DV_matchLiteral (fun K hs => ?_)
  have hp3 : p < 3 := by omega
  have hpn : n - (d + 1) = p := by omega
  have hb := hwb p hp3
  have hk103 : 15 + 6 * i + p < 103 := by omega
  have hf := tm_in hb.2.1
  have hsn := tm_in hb.2.2.1
  have hio : ∀ (N : mM) (L' : mL), isO (131, N, L', TT) (15 + 6 * i + p) 5 = true := fun N L' => ioL hi hp3
  have hpcl : (nI p).toNatClampNeg = p := nI_clamp (n := p) (by omega)
  have hmm : ∀ ρ, mmt M L i n (d + 1) (M 104) ρ = mml (mmt M L i n d) (hld M L (15 + 6 * i + p)) (M 104) (M (15 + 6 * i + p) 1).toNatClampNeg (M (15 + 6 * i + p) 2).toNatClampNeg (cnv (M 104) (M (15 + 6 * i + p) 1).toNatClampNeg) (c0v (M 104) (M (15 + 6 * i + p) 1).toNatClampNeg) (0, ρ) := by
    intro ρ
    simp only [mmt, tmn, hpn]
  have rst : ∀ (q0 q1 c : Nat) (v1 : Nat → Int32) (cnt : Int32) (ρ : Int64), upd (upd v1 (M (15 + 6 * i + p) 1).toNatClampNeg (M 104 (M (15 + 6 * i + p) 1).toNatClampNeg)) (M (15 + 6 * i + p) 2).toNatClampNeg (M 104 (M (15 + 6 * i + p) 2).toNatClampNeg) = M 104 → K 108 [some (.ref 103), some (.ref 5), some (.ref (12 + 6 * i)), some (.int (nI p)), some (.ref (15 + 6 * i + p)), some (.long (L 8 (M (15 + 6 * i + p) 0).toNatClampNeg)), none, some (.long (hld M L (15 + 6 * i + p))), none, some (.int (M 104 (M (15 + 6 * i + p) 1).toNatClampNeg)), some (.int (M 104 (M (15 + 6 * i + p) 2).toNatClampNeg)), some (.int (nI q0)), some (.int (nI q1)), some (.int cnt), some (.int (nI c + 1))] [] (131, M, up2 L 103 1 ρ, TT) → K 175 [some (.ref 103), some (.ref 5), some (.ref (12 + 6 * i)), some (.int (nI p)), some (.ref (15 + 6 * i + p)), some (.long (L 8 (M (15 + 6 * i + p) 0).toNatClampNeg)), none, some (.long (hld M L (15 + 6 * i + p))), none, some (.int (M 104 (M (15 + 6 * i + p) 1).toNatClampNeg)), some (.int (M 104 (M (15 + 6 * i + p) 2).toNatClampNeg)), some (.int (nI q0)), some (.int (nI q1)), some (.int cnt), some (.int (nI c))] [] (131, upr M 104 v1, up2 L 103 1 ρ, TT) := by
    intro q0 q1 c v1 cnt ρ hv1 hK
    refine hs.go [108, 175] 60 _ _ _ _ ⟨rfl, _, rfl, hio _ _, rfl, ?_, rfl, _, rfl, hio _ _, rfl, ?_, ?_⟩
    · show vp_in (upr M 104 v1 (15 + 6 * i + p) 1) 14
      rw [up104 _ hk103]
      exact hf.1
    · show vp_in (up2 (upr M 104 v1) 104 _ _ (15 + 6 * i + p) 2) 14
      rw [up2_k (show 15 + 6 * i + p ≠ 104 by omega), up104 _ hk103]
      exact hsn.1
    · show K 108 _ _ (131, up2 (up2 (upr M 104 v1) 104 (upr M 104 v1 (15 + 6 * i + p) 1).toNatClampNeg (M 104 (M (15 + 6 * i + p) 1).toNatClampNeg)) 104 (up2 (upr M 104 v1) 104 (upr M 104 v1 (15 + 6 * i + p) 1).toNatClampNeg (M 104 (M (15 + 6 * i + p) 1).toNatClampNeg) (15 + 6 * i + p) 2).toNatClampNeg (M 104 (M (15 + 6 * i + p) 2).toNatClampNeg), up2 L 103 1 ρ, TT)
      rw [rstM (v := M 104) hk103, hv1, upr_id]
      exact hK
  have loop : ∀ (q0 q1 : Nat), q1 ≤ 36 → ∀ (m c : Nat) (a : Int32 × Int64), c + m = q1 → mml (mmt M L i n d) (hld M L (15 + 6 * i + p)) (M 104) (M (15 + 6 * i + p) 1).toNatClampNeg (M (15 + 6 * i + p) 2).toNatClampNeg m c a = mmt M L i n (d + 1) (M 104) (L 103 1) → K 108 [some (.ref 103), some (.ref 5), some (.ref (12 + 6 * i)), some (.int (nI p)), some (.ref (15 + 6 * i + p)), some (.long (L 8 (M (15 + 6 * i + p) 0).toNatClampNeg)), none, some (.long (hld M L (15 + 6 * i + p))), none, some (.int (M 104 (M (15 + 6 * i + p) 1).toNatClampNeg)), some (.int (M 104 (M (15 + 6 * i + p) 2).toNatClampNeg)), some (.int (nI q0)), some (.int (nI q1)), some (.int a.1), some (.int (nI c))] [] (131, M, up2 L 103 1 a.2, TT) := by
    intro q0 q1 hq1 m
    induction m with
    | zero =>
      intro c a hc hr
      rw [show c = q1 by omega]
      exact hs.go [108, 175] 60 _ _ _ _ ⟨fun _ => ⟨rfl, fun z => (by cases z), post _ _ (by rw [← hr]; rfl) (by rw [← hr]; rfl)⟩, fun z => absurd (Int32.le_refl _) z⟩
    | succ m ih =>
      intro c a hc hr
      have hc36 : c < 36 := by omega
      have sk : (if ub (hld M L (15 + 6 * i + p)) (nI c) = 0 then a else if bdv (M 104) (M (15 + 6 * i + p) 1).toNatClampNeg (c6 c) (M (15 + 6 * i + p) 1).toNatClampNeg = c6 c then (if b6 (M 104) (M (15 + 6 * i + p) 1).toNatClampNeg (M (15 + 6 * i + p) 2).toNatClampNeg c (M (15 + 6 * i + p) 2).toNatClampNeg = r6 c then (a.1 + (mmt M L i n d (b6 (M 104) (M (15 + 6 * i + p) 1).toNatClampNeg (M (15 + 6 * i + p) 2).toNatClampNeg c) a.2).1, (mmt M L i n d (b6 (M 104) (M (15 + 6 * i + p) 1).toNatClampNeg (M (15 + 6 * i + p) 2).toNatClampNeg c) a.2).2) else a) else a) = a → K 108 [some (.ref 103), some (.ref 5), some (.ref (12 + 6 * i)), some (.int (nI p)), some (.ref (15 + 6 * i + p)), some (.long (L 8 (M (15 + 6 * i + p) 0).toNatClampNeg)), none, some (.long (hld M L (15 + 6 * i + p))), none, some (.int (M 104 (M (15 + 6 * i + p) 1).toNatClampNeg)), some (.int (M 104 (M (15 + 6 * i + p) 2).toNatClampNeg)), some (.int (nI q0)), some (.int (nI q1)), some (.int a.1), some (.int (nI c + 1))] [] (131, M, up2 L 103 1 a.2, TT) := by
        intro he
        have h9 := ih (c + 1) a (by omega) (by rw [← hr]; simp only [mml, he])
        rw [nI_succ] at h9
        exact h9
      refine hs.go [108, 175] 60 _ _ _ _ ⟨fun z => absurd z (nI_ge (a := c) (b := q1) (by omega) (by omega)), fun _ => ⟨fun h1 => sk (if_pos (cmp0.mp h1)), fun h1 => ⟨hio _ _, (by decide), ⟨rfl, ⟨rfl, rfl⟩, rfl, hf.1⟩, rfl, rfl, ?_⟩⟩⟩
      have h1 : ¬ ub (hld M L (15 + 6 * i + p)) (nI c) = 0 := fun z => h1 (cmp0.mpr z)
      intro r μ' hq
      have e1 : r = some (.int (b2 (bdv (M 104) (M (15 + 6 * i + p) 1).toNatClampNeg (c6 c) (M (15 + 6 * i + p) 1).toNatClampNeg = c6 c))) := hq.1
      have e2 : μ' = (131, upr M 104 (bdv (M 104) (M (15 + 6 * i + p) 1).toNatClampNeg (c6 c)), up2 L 103 1 a.2, TT) := hq.2
      rw [e1, e2]
      by_cases hb1 : bdv (M 104) (M (15 + 6 * i + p) 1).toNatClampNeg (c6 c) (M (15 + 6 * i + p) 1).toNatClampNeg = c6 c
      · rw [show b2 (bdv (M 104) (M (15 + 6 * i + p) 1).toNatClampNeg (c6 c) (M (15 + 6 * i + p) 1).toNatClampNeg = c6 c) = 1 from b2_t hb1]
        have eM : upr M 104 (bdv (M 104) (M (15 + 6 * i + p) 1).toNatClampNeg (c6 c)) (15 + 6 * i + p) = M (15 + 6 * i + p) := up104 _ hk103
        refine ⟨fun z => absurd z (by decide), fun _ => ⟨hio _ _, (by decide), ⟨rfl, ⟨rfl, rfl⟩, rfl, ?_⟩, rfl, rfl, ?_⟩⟩
        · show vp_in (upr M 104 (bdv (M 104) (M (15 + 6 * i + p) 1).toNatClampNeg (c6 c)) (15 + 6 * i + p) 2) 14
          rw [eM]
          exact hsn.1
        intro r μ' hq
        have f1 : r = some (.int (b2 (b6 (M 104) (M (15 + 6 * i + p) 1).toNatClampNeg (M (15 + 6 * i + p) 2).toNatClampNeg c (M (15 + 6 * i + p) 2).toNatClampNeg = r6 c))) := by
          refine hq.1.trans ?_
          show some (Value.int (b2 (bdv (upr M 104 (bdv (M 104) (M (15 + 6 * i + p) 1).toNatClampNeg (c6 c)) 104) (upr M 104 (bdv (M 104) (M (15 + 6 * i + p) 1).toNatClampNeg (c6 c)) (15 + 6 * i + p) 2).toNatClampNeg (r6 c) (upr M 104 (bdv (M 104) (M (15 + 6 * i + p) 1).toNatClampNeg (c6 c)) (15 + 6 * i + p) 2).toNatClampNeg = r6 c))) = _
          rw [eM, upr_s]
          rfl
        have f2 : μ' = (131, upr M 104 (b6 (M 104) (M (15 + 6 * i + p) 1).toNatClampNeg (M (15 + 6 * i + p) 2).toNatClampNeg c), up2 L 103 1 a.2, TT) := by
          refine hq.2.trans ?_
          show (131, upr (upr M 104 (bdv (M 104) (M (15 + 6 * i + p) 1).toNatClampNeg (c6 c))) 104 (bdv (upr M 104 (bdv (M 104) (M (15 + 6 * i + p) 1).toNatClampNeg (c6 c)) 104) (upr M 104 (bdv (M 104) (M (15 + 6 * i + p) 1).toNatClampNeg (c6 c)) (15 + 6 * i + p) 2).toNatClampNeg (r6 c)), up2 L 103 1 a.2, TT) = _
          rw [eM, upr_s, upr_upr]
          rfl
        rw [f1, f2]
        by_cases hb2 : b6 (M 104) (M (15 + 6 * i + p) 1).toNatClampNeg (M (15 + 6 * i + p) 2).toNatClampNeg c (M (15 + 6 * i + p) 2).toNatClampNeg = r6 c
        · rw [show b2 (b6 (M 104) (M (15 + 6 * i + p) 1).toNatClampNeg (M (15 + 6 * i + p) 2).toNatClampNeg c (M (15 + 6 * i + p) 2).toNatClampNeg = r6 c) = 1 from b2_t hb2]
          have hv2 : vok (b6 (M 104) (M (15 + 6 * i + p) 1).toNatClampNeg (M (15 + 6 * i + p) 2).toNatClampNeg c) := bdv_ok (bdv_ok hv ⟨c / 6, by omega, c6_e hc36⟩) ⟨c % 6, by omega, r6_e hc36⟩
          have hvo : vok (upr M 104 (b6 (M 104) (M (15 + 6 * i + p) 1).toNatClampNeg (M (15 + 6 * i + p) 2).toNatClampNeg c) 104) := by rw [upr_s]; exact hv2
          have hln2 : rln (upr M 104 (b6 (M 104) (M (15 + 6 * i + p) 1).toNatClampNeg (M (15 + 6 * i + p) 2).toNatClampNeg c)) i = n := by
            unfold rln
            rw [up104 _ (show 12 + 6 * i < 103 by omega)]
            exact hlen
          refine ⟨fun z => absurd z (by decide), fun _ => ⟨⟨rfl, ⟨rfl, rfl⟩, rfl, rfl, hvo, i, n, p + 1, hi, rfl, fr_wR3 up104 hi hw, hln2, by omega, (nI_succ p).symm⟩, rfl, rfl, ?_⟩⟩
          intro r μ' hq
          have ecg : mmt (upr M 104 (b6 (M 104) (M (15 + 6 * i + p) 1).toNatClampNeg (M (15 + 6 * i + p) 2).toNatClampNeg c)) (up2 L 103 1 a.2) i n d (b6 (M 104) (M (15 + 6 * i + p) 1).toNatClampNeg (M (15 + 6 * i + p) 2).toNatClampNeg c) a.2 = mmt M L i n d (b6 (M 104) (M (15 + 6 * i + p) 1).toNatClampNeg (M (15 + 6 * i + p) 2).toNatClampNeg c) a.2 := mmt_cg (fun k hk => up104 k (by omega)) up2L_8 hi hn3 d (by omega) _ _
          have g1 : r = some (.int (mmt M L i n d (b6 (M 104) (M (15 + 6 * i + p) 1).toNatClampNeg (M (15 + 6 * i + p) 2).toNatClampNeg c) a.2).1) := by
            refine ((hq i hi rfl).1).trans ?_
            show some (Value.int (mmt (upr M 104 (b6 (M 104) (M (15 + 6 * i + p) 1).toNatClampNeg (M (15 + 6 * i + p) 2).toNatClampNeg c)) (up2 L 103 1 a.2) i (rln (upr M 104 (b6 (M 104) (M (15 + 6 * i + p) 1).toNatClampNeg (M (15 + 6 * i + p) 2).toNatClampNeg c)) i) d (upr M 104 (b6 (M 104) (M (15 + 6 * i + p) 1).toNatClampNeg (M (15 + 6 * i + p) 2).toNatClampNeg c) 104) (up2 L 103 1 a.2 103 1)).1) = _
            rw [hln2, upr_s, up2_s, ecg]
          have g2 : μ' = (131, upr M 104 (b6 (M 104) (M (15 + 6 * i + p) 1).toNatClampNeg (M (15 + 6 * i + p) 2).toNatClampNeg c), up2 L 103 1 (mmt M L i n d (b6 (M 104) (M (15 + 6 * i + p) 1).toNatClampNeg (M (15 + 6 * i + p) 2).toNatClampNeg c) a.2).2, TT) := by
            refine ((hq i hi rfl).2).trans ?_
            show (131, upr M 104 (b6 (M 104) (M (15 + 6 * i + p) 1).toNatClampNeg (M (15 + 6 * i + p) 2).toNatClampNeg c), up2 (up2 L 103 1 a.2) 103 1 (mmt (upr M 104 (b6 (M 104) (M (15 + 6 * i + p) 1).toNatClampNeg (M (15 + 6 * i + p) 2).toNatClampNeg c)) (up2 L 103 1 a.2) i (rln (upr M 104 (b6 (M 104) (M (15 + 6 * i + p) 1).toNatClampNeg (M (15 + 6 * i + p) 2).toNatClampNeg c)) i) d (upr M 104 (b6 (M 104) (M (15 + 6 * i + p) 1).toNatClampNeg (M (15 + 6 * i + p) 2).toNatClampNeg c) 104) (up2 L 103 1 a.2 103 1)).2, TT) = _
            rw [hln2, upr_s, up2_s, ecg, up2_up2]
          rw [g1, g2]
          refine rst q0 q1 c _ _ _ res2 ?_
          have h9 := ih (c + 1) (a.1 + (mmt M L i n d (b6 (M 104) (M (15 + 6 * i + p) 1).toNatClampNeg (M (15 + 6 * i + p) 2).toNatClampNeg c) a.2).1, (mmt M L i n d (b6 (M 104) (M (15 + 6 * i + p) 1).toNatClampNeg (M (15 + 6 * i + p) 2).toNatClampNeg c) a.2).2) (by omega) (by rw [← hr]; simp only [mml, if_neg h1, if_pos hb1, if_pos hb2])
          rw [nI_succ] at h9
          exact h9
        · rw [show b2 (b6 (M 104) (M (15 + 6 * i + p) 1).toNatClampNeg (M (15 + 6 * i + p) 2).toNatClampNeg c (M (15 + 6 * i + p) 2).toNatClampNeg = r6 c) = 0 from b2_f hb2]
          exact ⟨fun _ => rst q0 q1 c _ _ _ res2 (sk (by rw [if_neg h1, if_pos hb1, if_neg hb2])), fun z => absurd rfl z⟩
      · rw [show b2 (bdv (M 104) (M (15 + 6 * i + p) 1).toNatClampNeg (c6 c) (M (15 + 6 * i + p) 1).toNatClampNeg = c6 c) = 0 from b2_f hb1]
        exact ⟨fun _ => rst q0 q1 c _ _ _ res1 (sk (by rw [if_neg h1, if_neg hb1])), fun z => absurd rfl z⟩
  have s39 : ∀ x : Int64, x = hld M L (15 + 6 * i + p) → K 39 [some (.ref 103), some (.ref 5), some (.ref (12 + 6 * i)), some (.int (nI p)), some (.ref (15 + 6 * i + p)), some (.long (L 8 (M (15 + 6 * i + p) 0).toNatClampNeg)), none, none, none, none, none, none, none, none, none] [.long x] (131, M, L, TT) := by
    intro x hx
    rw [hx]
    refine hs.go [39, 108] 60 _ _ _ _ ⟨rfl, rfl, _, rfl, hio _ _, rfl, hf.1, rfl, _, rfl, hio _ _, rfl, hsn.1, fun h1 => ⟨⟨⟨rfl, rfl⟩, trivial⟩, rfl, rfl, ?_⟩, fun h1 => ⟨fun z => absurd h1 z, fun _ => ?_⟩⟩
    · have h1 : ¬ M 104 (M (15 + 6 * i + p) 1).toNatClampNeg = -1 := h1
      rintro _ _ ⟨rfl, rfl⟩
      refine ⟨fun _ => ?_, fun z => absurd z h1⟩
      obtain ⟨a, ha, hae⟩ := (hv _ hf.2).resolve_left h1
      have e0 : (M 104 (M (15 + 6 * i + p) 1).toNatClampNeg * 6 + 0 : Int32) = nI (a * 6) := by
        rw [hae, Int32.add_zero]
        exact pk_mul a 6
      have e1 : (M 104 (M (15 + 6 * i + p) 1).toNatClampNeg * 6 + 0 + 6 : Int32) = nI (a * 6 + 6) := by
        rw [e0]
        exact nI_add (a * 6) 6
      have ec : c0v (M 104) (M (15 + 6 * i + p) 1).toNatClampNeg = a * 6 := by
        unfold c0v
        rw [if_neg h1, hae, nI_clamp (n := a) (by omega)]
      have en : cnv (M 104) (M (15 + 6 * i + p) 1).toNatClampNeg = 6 := if_neg h1
      have h9 := loop (a * 6) (a * 6 + 6) (by omega) 6 (a * 6) (0, L 103 1) rfl (by rw [hmm, ec, en])
      have e2 : up2 L 103 1 ((0 : Int32), L 103 1).2 = L := up2_id
      rw [e2] at h9
      show K 108 [some (.ref 103), some (.ref 5), some (.ref (12 + 6 * i)), some (.int (nI p)), some (.ref (15 + 6 * i + p)), some (.long (L 8 (M (15 + 6 * i + p) 0).toNatClampNeg)), none, some (.long (hld M L (15 + 6 * i + p))), none, some (.int (M 104 (M (15 + 6 * i + p) 1).toNatClampNeg)), some (.int (M 104 (M (15 + 6 * i + p) 2).toNatClampNeg)), some (.int (M 104 (M (15 + 6 * i + p) 1).toNatClampNeg * 6 + 0)), some (.int (M 104 (M (15 + 6 * i + p) 1).toNatClampNeg * 6 + 0 + 6)), some (.int 0), some (.int (M 104 (M (15 + 6 * i + p) 1).toNatClampNeg * 6 + 0))] [] (131, M, L, TT)
      rw [e1, e0]
      exact h9
    · have h1 : M 104 (M (15 + 6 * i + p) 1).toNatClampNeg = -1 := h1
      have ec : c0v (M 104) (M (15 + 6 * i + p) 1).toNatClampNeg = 0 := if_pos h1
      have en : cnv (M 104) (M (15 + 6 * i + p) 1).toNatClampNeg = 36 := if_pos h1
      have h9 := loop 0 36 (by omega) 36 0 (0, L 103 1) rfl (by rw [hmm, ec, en])
      have e2 : up2 L 103 1 ((0 : Int32), L 103 1).2 = L := up2_id
      rw [e2] at h9
      exact h9
  refine hs.go [39, 108] 60 _ _ _ _ ⟨ioR hi, _, TTb i hi, iaB hi, ?_, 15 + 6 * i + p, ?_, rfl, _, rfl, hio _ _, rfl, hb.1, rfl, hio _ _, fun h1 => ?_, fun h1 => ?_⟩
  · show vp_in (nI p) (kd (14 + 6 * i)).2
    rw [kdB3 i hi]
    exact vp_in_nI hp3 (by decide)
  · show TT (14 + 6 * i) (nI p).toNatClampNeg = _
    rw [hpcl]
    exact TTl i hi p hp3
  · exact s39 _ (if_pos h1).symm
  · exact s39 _ (if_neg h1).symm
theorem c_mfall (xr : Nat) : ∀ d, Cn y_DV_matchFrom b_DV_matchFrom 4 (some .int) (rmm (1 + 2 * d + xr) 0 0) (3 + 1) 0 0 (pr_mf d) (po_mf d)
  | 0 => c_mf0 xr
  | d + 1 => c_mfS xr d (c_mlS xr d (c_mfall xr d))
