/-! ways, step -/
theorem RI.sc {M M' : mM} {L L' : mL} (h : SC M M') (hR : RI M L) (ci : CI M') (pi : PI M') (gvn : M' 109 8 = M' 10 4) (giv : ∀ j, j < 4 → nI j < M' 10 4 → LQ M' (99 + j) (56 + j)) (gv0 : ¬ M' 10 4 = 0 → M' 121 56 = 0 ∧ 9 ≤ M' 118 56) (fct : EQs M (L' 7) (L' 111)) (tup : EQs M (L' 8) (L' 112)) (emf : ∀ r, (M 109 0).toNatClampNeg ≤ r → ∀ c, ¬ ipr M (L' 111) r c) (emt : ∀ r, (M 109 0).toNatClampNeg ≤ r → ∀ c, ¬ ipr M (L' 112) r c) (sbl : Sb (rR M) (ipr M (L' 111)) (ipr M (L' 112)))
    (lin : ∀ l, l < 12 → M' 2 l = M' 122 l ∧ M' 3 l = M' 123 l ∧ M' 4 l = M' 124 l) (mad : M' 105 3 = M' 109 19) (hel : ∀ j, j < 6 → M' 106 j = M' 125 j) (sit : ∀ j, j < 20 → M' 107 j = M' 126 j) (fie : ∀ j, j < 40 → M' 108 j = M' 127 j ∧ hok (M' 108 j)) (cha : M' 0 5 = M' 109 7) : RI M' L' := by
  obtain ⟨c1, c2, c3, c4, c5, c6, c7⟩ := h.core hR
  have e := ipr_c h.r110
  refine RI.mk ci pi c1 c2 (fun r hr => by rw [h.r110]; exact hR.ar9 r hr) gvn giv gv0 c3 c4 c5 c6 (EQs_c h.r110 fct) (EQs_c h.r110 tup) ?_ ?_ ?_ lin mad hel sit fie cha
  · rw [e, h.r0]; exact emf
  · rw [e, h.r0]; exact emt
  · rw [e, c7]; exact sbl
/-- nothing that the invariant speaks of has changed -/
theorem RI.same {M M' : mM} {L L' : mL} (hR : RI M L) (hM : ∀ k, k ≠ 128 → k ≠ 129 → k ≠ 130 → M' k = M k) (h7 : L' 7 = L 7) (h8 : L' 8 = L 8) (h111 : L' 111 = L 111) (h112 : L' 112 = L 112) : RI M' L' := by
  have q : ∀ k, k < 128 → M' k = M k := fun k hk => hM k (by omega) (by omega) (by omega)
  have hS : SC M M' := SC.of (fun k _ _ _ _ _ _ _ _ => by
    by_cases hk : k < 128
    · exact q k hk
    · exact hM k (by omega) (by omega) (by omega)) (by rw [q 109 (by omega)])
  refine RI.sc hS hR (hR.ci.c (fun k _ _ => q k (by omega))) (hR.pi.cg (by rw [q 109 (by omega)]) (by rw [q 109 (by omega)]; exact hR.pi.2.1) (by rw [q 109 (by omega)]; exact hR.pi.2.2.1) (fun a _ _ _ _ _ _ _ => q a (by omega))) ?_ ?_ ?_ ?_ ?_ ?_ ?_ ?_ ?_ ?_ ?_ ?_ ?_ ?_
  · rw [q 109 (by omega), q 10 (by omega)]; exact hR.gvn
  · intro j hj hn
    rw [q 10 (by omega)] at hn
    have := hR.giv j hj hn
    unfold LQ at this ⊢
    rw [cLi_c (q (99 + j) (by omega)), q (99 + j) (by omega), rLi_c (M := M) (M' := M') (by rw [q 118 (by omega)]) (by rw [q 119 (by omega)]) (by rw [q 120 (by omega)]) (by rw [q 110 (by omega)]), q 118 (by omega), q 121 (by omega)]
    exact this
  · rw [q 10 (by omega), q 121 (by omega), q 118 (by omega)]; exact hR.gv0
  · rw [h7, h111]; exact hR.fct
  · rw [h8, h112]; exact hR.tup
  · rw [h111]; exact hR.emf
  · rw [h112]; exact hR.emt
  · rw [h111, h112]; exact hR.sbl
  · rw [q 2 (by omega), q 3 (by omega), q 4 (by omega), q 122 (by omega), q 123 (by omega), q 124 (by omega)]; exact hR.lin
  · rw [q 105 (by omega), q 109 (by omega)]; exact hR.mad
  · rw [q 106 (by omega), q 125 (by omega)]; exact hR.hel
  · rw [q 107 (by omega), q 126 (by omega)]; exact hR.sit
  · rw [q 108 (by omega), q 127 (by omega)]; exact hR.fie
  · rw [q 0 (by omega), q 109 (by omega)]; exact hR.cha
/-- a rule's instances with one head: both sides count the same -/
theorem cin_rin {M : mM} {L L' : mL} (hR : RI M L) (h112 : L' 112 = L 112) {i t : Nat} (hi : i < 14) (hu : ¬ M 116 i = 0) (ht : t < 36) (hc : cel M (rhd M i) t < 36) : cin M L i (cel M (rhd M i) t) = (rin M (4 * i) (rml M i) (nI t) (rml M i - 1) (bnl M 4) (0, L')).1 := by
  have q := hR.rul i hi hu
  have hW := hR.ci.1.1 i hi
  have h3 := rln_3 hW
  have hV := hR.ci.2.1
  have l := q.ln
  have e := q.ru
  have e1 : cLi M (13 + 6 * i) = rLi M (4 * i) := congrArg (fun x : Ru => x.1) e
  have e2 : cPos M i = rPs M (4 * i) (rml M i) (rml M i - 1) := congrArg (fun x : Ru => x.2.1) e
  have e3 : cNeg M i = rNs M (4 * i) (rml M i) := congrArg (fun x : Ru => x.2.2) e
  have ehd : rhd M i = (rLi M (4 * i)).1 := congrArg (fun x : Li => x.1) e1
  have rk := fun k (hk : k < 60) => (hR.pi.2.2.2.2.2.1 k hk).1
  have hS : ∀ r, r < 14 → ∀ c, c < 36 → ((fun r c => lb (L 8 r) c) r c = true ↔ ipr M (L' 112) r c) := by
    intro r hr c _
    rw [h112, ← hR.tup.1 r c]
    exact ⟨fun z => ⟨hr, z⟩, fun z => z.2⟩
  rw [cin_len hW hV q.S q.so hc, rin_len (S := fun r c => lb (L 8 r) c) (rk _ (by omega)) (fun k h1 h2 => rk k (by omega)) (by rw [h112]; exact hR.tup.2) hS (fun r hr c hc' => hR.tup.big hr hc') ht (rml M i - 1) (bnl M 4) 0 (by omega) bnl_WV (fun x hx u hu' => by
    rcases q.sf x hx u hu' with g | g
    · exact Or.inl (by rw [fw_lo (by omega)]; exact nI_nm (by omega))
    · exact Or.inr g)]
  show _ = (0 : Int32) + _
  rw [Int32.zero_add, e1, e2, e3, ehd]
  congr 1
  obtain ⟨tp, tn⟩ := tmO_p hW
  rw [e2] at tp
  rw [e3] at tn
  refine en_len (fun p hp => ?_) (fun u hu' => ?_) (fun γ γ' hg => Pnh_c ?_ (fun x hx => (tn x hx).2) hg)
  · obtain ⟨x, hx, rfl⟩ := List.mem_map.mp hp
    exact (tp x hx).2
  · rcases hu' with h | ⟨h1, h2⟩
    · rw [hV.1 u h, fw_lo (by omega)]
    · rw [hV.2 u h1 h2, fw_hi h1 h2]
      exact (if_pos (by omega)).symm
  · exact (rLi_tm (rk (4 * i) (by omega))).2
theorem wys_wyl {M : mM} {L L' : mL} (hR : RI M L) (h112 : L' 112 = L 112) {r t : Nat} (hr : r < 14) (ht : t < 36) (hc : cel M r t < 36) {z : Int32} : ∀ (n j : Nat), j + n = 14 → wyl M L' (nI t) (nI r) n j (wys M L (nI r) (nI (cel M r t)) z j) = wys M L (nI r) (nI (cel M r t)) z (j + n)
  | 0, _, _ => rfl
  | n + 1, j, hj => by
    have hW := hR.ci.1.1 j (by omega)
    have hj14 : j < 14 := by omega
    have ih := wys_wyl hR h112 hr ht hc (z := z) n (j + 1) (by omega)
    rw [show j + 1 + n = j + (n + 1) by omega] at ih
    unfold wyl
    rw [← ih]
    congr 1
    show _ = (if ¬ M (12 + 6 * j) 4 = 0 ∧ M (13 + 6 * j) 0 = nI r then wys M L (nI r) (nI (cel M r t)) z j + cin M L j (nI (cel M r t)).toNatClampNeg else wys M L (nI r) (nI (cel M r t)) z j)
    rw [hR.the j hj14]
    by_cases hu : M 116 j = 0
    · rw [if_pos hu, if_neg (fun y => y.1 hu)]
    · rw [if_neg hu]
      have q := hR.rul j hj14 hu
      have e1 : cLi M (13 + 6 * j) = rLi M (4 * j) := congrArg (fun x : Ru => x.1) q.ru
      have ehd : rhd M j = (rLi M (4 * j)).1 := congrArg (fun x : Li => x.1) e1
      have h1 : M (13 + 6 * j) 0 = nI (rhd M j) := (rhd_14 hW).2
      have h2 : M 118 (4 * j) = nI (rhd M j) := by
        rw [ehd]
        exact vp_nI (hR.pi.2.2.2.2.2.1 (4 * j) (by omega)).1.1
      rw [h1, h2]
      by_cases hh : nI (rhd M j) = nI r
      · have e : rhd M j = r := (nI_eq (by have := (rhd_14 hW).1; omega) (by omega)).mp hh
        rw [if_pos hh, if_pos ⟨hu, hh⟩, nI_clamp (n := cel M r t) (by omega)]
        have := cin_rin hR h112 hj14 hu ht (by rw [e]; exact hc)
        rw [e] at this
        rw [this]
      · rw [if_neg hh, if_neg (fun y => hh y.2)]
theorem k_ways (x0 x1 x2 : Int32) : Clp RI (po_PF_ways [.ref 0, .int x0, .int x1, .int x2]) (po_PM_ways [.ref 109, .int x0, .int x1, .int x2]) := by
  intro M L hR r μ1 hq
  obtain ⟨q1, q2⟩ := hq
  rcases hR.pl x0 x1 x2 with ⟨e1, e2⟩ | ⟨n, r', t, g1, g2, g3, g4, g5, g6, g7, g8, e1, e2⟩
  · obtain ⟨rfl, rfl⟩ := q1 e1
    refine ⟨_, M, L, rfl, rfl, hR.pi, fun r2 μ2 hq2 => ?_⟩
    obtain ⟨rfl, M', hS, rfl⟩ := hq2
    refine ⟨?_, M', L, rfl, hR.same hS.1 rfl rfl rfl rfl⟩
    show some (Value.int (if plM M x0 x1 x2 < 0 then -1 else _)) = _
    rw [if_pos (by rw [e2]; decide)]
  · obtain ⟨rfl, ρ, rfl⟩ := q2 (by
      show ¬ cof (M 5 4) (M 6 x0.toNatClampNeg) x0 x1 x2 = -1
      rw [e1]; exact nI_nm (by omega))
    refine ⟨_, M, up2 L 103 1 ρ, rfl, rfl, hR.pi, fun r2 μ2 hq2 => ?_⟩
    obtain ⟨rfl, M', hS, rfl⟩ := hq2
    have k7 : (up2 L 103 1 ρ) 7 = L 7 := up2_k (by decide)
    have k8 : (up2 L 103 1 ρ) 8 = L 8 := up2_k (by decide)
    have k111 : (up2 L 103 1 ρ) 111 = L 111 := up2_k (by decide)
    have k112 : (up2 L 103 1 ρ) 112 = L 112 := up2_k (by decide)
    refine ⟨?_, M', up2 L 103 1 ρ, rfl, hR.same hS.1 k7 k8 k111 k112⟩
    show some (Value.int (if plM M x0 x1 x2 < 0 then -1 else wyl M (up2 L 103 1 ρ) (plM M x0 x1 x2) x0 14 0 (b2 (sb ((up2 L 103 1 ρ) 111 x0.toNatClampNeg) (plM M x0 x1 x2) = 1)))) = some (Value.int (wys M L x0 (cof (M 5 4) (M 6 x0.toNatClampNeg) x0 x1 x2) (b2 (¬ ub (L 7 x0.toNatClampNeg) (cof (M 5 4) (M 6 x0.toNatClampNeg) x0 x1 x2) = 0)) 14))
    have hr14 : r' < 14 := by omega
    rw [e1, e2, g5, k111, if_neg (show ¬ nI t < 0 from nI_nlt (a := t) (b := 0) (Nat.zero_le _) (by omega)), g4]
    have hb := hR.fct.bit hr14 g6
    have hbb : b2 (sb (L 111 r') (nI t) = 1) = b2 (¬ ub (L 7 r') (nI (cel M r' t)) = 0) := by
      unfold b2
      by_cases hl : lb (L 111 r') t = true
      · rw [if_pos ((lb_sb1 (by omega)).mpr hl), if_pos (fun z => by rw [(lb_ub (by omega)).mp z] at hb; rw [← hb] at hl; cases hl)]
      · rw [if_neg (fun z => hl ((lb_sb1 (by omega)).mp z)), if_neg (fun z => z ((lb_ub (by omega)).mpr (by rw [hb]; exact ts_nt hl)))]
    rw [hbb]
    have := wys_wyl hR k112 hr14 g6 g8 (z := b2 (¬ ub (L 7 r') (nI (cel M r' t)) = 0)) 14 0 rfl
    rw [show wys M L (nI r') (nI (cel M r' t)) (b2 (¬ ub (L 7 r') (nI (cel M r' t)) = 0)) 0 = b2 (¬ ub (L 7 r') (nI (cel M r' t)) = 0) from rfl] at this
    rw [this]
