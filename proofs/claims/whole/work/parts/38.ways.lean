theorem PI.cg {M M' : mM} (h : PI M) (h0 : M' 109 0 = M 109 0) (h8 : ∃ g, g ≤ 4 ∧ M' 109 8 = nI g) (h19 : ∃ m, m ≤ 20 ∧ M' 109 19 = nI m) (hr : ∀ a, 110 ≤ a → a ≤ 125 → a ≠ 111 → a ≠ 112 → a ≠ 113 → a ≠ 114 → a ≠ 115 → M' a = M a) : PI M' := by
  obtain ⟨p1, p2, p3, p4, p5, p6, p7, p8⟩ := h
  refine ⟨by rw [h0]; exact p1, h8, h19, ?_, ?_, ?_, ?_, ?_⟩
  · rw [hr 116 (by decide) (by decide) (by decide) (by decide) (by decide) (by decide) (by decide)]; exact p4
  · rw [hr 117 (by decide) (by decide) (by decide) (by decide) (by decide) (by decide) (by decide), hr 116 (by decide) (by decide) (by decide) (by decide) (by decide) (by decide) (by decide)]; exact p5
  · intro i hi
    unfold rok
    rw [h0, hr 110 (by decide) (by decide) (by decide) (by decide) (by decide) (by decide) (by decide), hr 118 (by decide) (by decide) (by decide) (by decide) (by decide) (by decide) (by decide), hr 119 (by decide) (by decide) (by decide) (by decide) (by decide) (by decide) (by decide), hr 120 (by decide) (by decide) (by decide) (by decide) (by decide) (by decide) (by decide), hr 121 (by decide) (by decide) (by decide) (by decide) (by decide) (by decide) (by decide)]
    exact p6 i hi
  · rw [hr 125 (by decide) (by decide) (by decide) (by decide) (by decide) (by decide) (by decide)]; exact p7
  · rw [hr 122 (by decide) (by decide) (by decide) (by decide) (by decide) (by decide) (by decide), hr 123 (by decide) (by decide) (by decide) (by decide) (by decide) (by decide) (by decide), hr 124 (by decide) (by decide) (by decide) (by decide) (by decide) (by decide) (by decide)]; exact p8
theorem PI.rk {M : mM} {q : Int32} (h : PI M) : PI (rkM M q) := h.cg rfl h.2.1 h.2.2.1 (fun a h1 h2 h3 h4 h5 h6 h7 => (upr_k h6).trans (upr_k h7))
theorem PI.sm {M M' : mM} {y : Int32} (h : PI M) (hS : Sm M M') : PI (up2 M' 109 7 y) := by
  have e : M' 109 = M 109 := hS.1 109 (by decide) (by decide) (by decide)
  refine h.cg ?_ ?_ ?_ (fun a h1 h2 h3 h4 h5 h6 h7 => (up2_k (by omega)).trans (hS.1 a (by omega) (by omega) (by omega)))
  · rw [up2_j (by decide), e]
  · rw [up2_j (by decide), e]; exact h.2.1
  · rw [up2_j (by decide), e]; exact h.2.2.1
/-- the memory once all has been derived anew -/
def DM (M M' : mM) (L : mL) : Mm := (131, up2 M' 109 7 (dct (derL M L) 14 0 0), derL M L, TT)
def wyl (M : mM) (L : mL) (q x : Int32) : Nat → Nat → Int32 → Int32
  | 0, _, y => y
  | n + 1, j, y => wyl M L q x n (j + 1) (if M 116 j = 0 then y else if M 118 (4 * j) = x then y + (rin M (4 * j) (M 117 j).toNatClampNeg q ((M 117 j).toNatClampNeg - 1) (bnl M 4) (0, L)).1 else y)
abbrev plM (M : mM) (x0 x1 x2 : Int32) : Int32 := plc (M 109 0) (M 110 x0.toNatClampNeg) x0 x1 x2

theorem dn_PM_ways : y_PM_ways.cls ≠ "java/lang/invoke/MethodHandle" ∧ y_PM_ways.cls ≠ "java/lang/invoke/VarHandle" ∧ (parseMethodDescriptor y_PM_ways.desc).map (fun d => d.parameters.length) = some 3 := by decide +kernel
abbrev pr_PM_ways : List Value → Mm → Prop := preV 8 (fun k => a_III (fun x0 x1 x2 μ => FM μ ∧ (k = 109 ∧ PI μ.2.1)))
abbrev po_PM_ways : List Value → Mm → Option Value → Mm → Prop := qV (fun k => b_III (fun x0 x1 x2 μ r μ' => r = some (.int (if plM μ.2.1 x0 x1 x2 < 0 then -1 else wyl μ.2.1 μ.2.2.1 (plM μ.2.1 x0 x1 x2) x0 14 0 (b2 (sb (μ.2.2.1 111 x0.toNatClampNeg) (plM μ.2.1 x0 x1 x2) = 1)))) ∧ ∃ M', Sm μ.2.1 M' ∧ μ' = (131, M', μ.2.2.1, TT)))
theorem ft_PM_ways : ∀ as μ, pr_PM_ways as μ → μ.1 + 0 ≤ 131 ∧ cz μ.1 + 0 ≤ cz 131 := hf_S (n := 131) (Nat.le_refl _) (fun as μ h => by
  obtain ⟨k, r, rfl, hk, h⟩ := preV_e h
  obtain ⟨x0, x1, x2, rfl, h⟩ := a_III_e h
  exact h.1.1)
def C_PM_ways : Cf := fun id => match id with
  | 0 => trF (3 + 1) pr_PM_place po_PM_place
  | 1 => trF (3 + 1) pr_PM_instances po_PM_instances
  | _ => fun _ _ _ => False
set_option maxRecDepth 100000 in
theorem cs_PM_ways (l : Launch) : ∀ x ∈ k_PM_ways, CS l R_PM b_PM_ways 8 (rmm 4 0 0) 131 131 C_PM_ways x := fc (CS.no rfl) (fc (CS.no rfl) (fc (CS.no rfl) (fc (CS.no rfl) (fc (CS.V c_PM_place wk_PM_place wl_PM_144 wm_PM_place we_PM_place rfl rfl wi_PM dn_PM_place ⟨rfl, rfl⟩ ⟨by decide, by decide⟩ ft_PM_place rfl (e_PM_ways_4).1) (fc (CS.no rfl) (fc (CS.no rfl) (fc (CS.no rfl) (fc (CS.no rfl) (fc (CS.no rfl) (fc (CS.no rfl) (fc (CS.no rfl) (fc (CS.no rfl) (fc (CS.no rfl) (fc (CS.no rfl) (fc (CS.no rfl) (fc (CS.no rfl) (fc (CS.no rfl) (fc (CS.no rfl) (fc (CS.no rfl) (fc (CS.no rfl) (fc (CS.no rfl) (fc (CS.no rfl) (fc (CS.no rfl) (fc (CS.no rfl) (fc (CS.no rfl) (fc (CS.no rfl) (fc (CS.no rfl) (fc (CS.no rfl) (fc (CS.no rfl) (fc (CS.no rfl) (fc (CS.no rfl) (fc (CS.no rfl) (fc (CS.no rfl) (fc (CS.no rfl) (fc (CS.no rfl) (fc (CS.no rfl) (fc (CS.no rfl) (fc (CS.no rfl) (fc (CS.no rfl) (fc (CS.no rfl) (fc (CS.no rfl) (fc (CS.no rfl) (fc (CS.no rfl) (fc (CS.no rfl) (fc (CS.no rfl) (fc (CS.no rfl) (fc (CS.no rfl) (fc (CS.no rfl) (fc (CS.no rfl) (fc (CS.no rfl) (fc (CS.no rfl) (fc (CS.V c_PM_instances wk_PM_instances wl_PM_134 wm_PM_instances we_PM_instances rfl rfl wi_PM dn_PM_instances ⟨rfl, rfl⟩ ⟨by decide, by decide⟩ ft_PM_instances rfl (e_PM_ways_86).1) (fc (CS.no rfl) (fc (CS.no rfl) (fc (CS.no rfl) (fc (CS.no rfl) (fc (CS.no rfl) (fc (CS.no rfl) (fc (CS.no rfl) (fc (CS.no rfl) (fc (CS.no rfl) (fun _ h => absurd h List.not_mem_nil))))))))))))))))))))))))))))))))))))))))))))))))))))))))))))))
set_option maxRecDepth 100000 in
set_option maxHeartbeats 4000000 in
theorem c_PM_ways : Cn y_PM_ways b_PM_ways 8 (some .int) (rmm 4 0 0) (3 + 1) 0 0 pr_PM_ways po_PM_ways := cv_III (ci := 8) (f := fun k => fun x0 x1 x2 μ => FM μ ∧ (k = 109 ∧ PI μ.2.1)) (g := fun k => fun x0 x1 x2 μ r μ' => r = some (.int (if plM μ.2.1 x0 x1 x2 < 0 then -1 else wyl μ.2.1 μ.2.2.1 (plM μ.2.1 x0 x1 x2) x0 14 0 (b2 (sb (μ.2.2.1 111 x0.toNatClampNeg) (plM μ.2.1 x0 x1 x2) = 1)))) ∧ ∃ M', Sm μ.2.1 M' ∧ μ' = (131, M', μ.2.2.1, TT)) fun l k x0 x1 x2 μ hk h => by
  obtain ⟨hm, h⟩ := h
  obtain ⟨M, L, rfl⟩ := hm.e
  refine ky_met (own := R_PM) (ini := 0) (rb := 0) (nE := 131) (cd := k_PM_ways) (C := C_PM_ways) (by decide) rfl (fun h => by cases h) (Nat.le_of_ble_eq_true rfl) ⟨rfl, rfl⟩ (Or.inl ⟨rfl, rfl⟩) rfl rfl (by decide) ok_PM_ways (cs_PM_ways l) rt_PM_ways (fun K hs => ?_)
  obtain ⟨rfl, hp⟩ := h
  have hp : PI M := hp
  have hof : ∀ i, i < 60 → vp_in (M 118 i) 14 := fun i hi => (hp.2.2.2.2.2.1 i hi).1.1
  refine hs.go [42] 60 _ _ _ _ ⟨⟨rfl, ⟨rfl, rfl⟩, rfl, hp.c14⟩, rfl, rfl, ?_⟩
  intro r μ' hq
  have g1 : r = some (Value.int (plM M x0 x1 x2)) := hq.1
  have g2 : μ' = (131, M, L, TT) := hq.2
  rw [g1, g2]
  have refl : Sm M M := ⟨fun _ _ _ _ => rfl, fun _ _ => rfl⟩
  refine ⟨fun h1 => ?_, fun h1 => ⟨rfl, fun z => (by cases z), congrArg (fun v => some (Value.int v)) (if_pos (Int32.not_le.mp h1)).symm, M, refl, rfl⟩⟩
  have h1 : ¬ plM M x0 x1 x2 < 0 := Int32.not_lt.mpr h1
  have hx := hp.in14 (plc_in h1).1 (plc_in h1).2
  have loop : ∀ (n j : Nat), j + n = 14 → ∀ (y : Int32) (M' : mM) (l7 : Option Value), Sm M M' → wyl M L (plM M x0 x1 x2) x0 n j y = wyl M L (plM M x0 x1 x2) x0 14 0 (b2 (sb (L 111 x0.toNatClampNeg) (plM M x0 x1 x2) = 1)) → K 42 [some (.ref 109), some (.int x0), some (.int x1), some (.int x2), some (.int (plM M x0 x1 x2)), some (.int y), some (.int (nI j)), l7] [] (131, M', L, TT) := by
    intro n
    induction n with
    | zero =>
      intro j hj y M' l7 hS he
      have hj : j = 14 := by omega
      subst hj
      have he : y = wyl M L (plM M x0 x1 x2) x0 14 0 (b2 (sb (L 111 x0.toNatClampNeg) (plM M x0 x1 x2) = 1)) := he
      refine hs.go [42] 40 _ _ _ _ ⟨fun _ => ⟨rfl, fun z => (by cases z), ?_, M', hS, rfl⟩, fun z => absurd (Int32.le_refl _) z⟩
      rw [he]
      exact congrArg (fun v => some (Value.int v)) (if_neg h1).symm
    | succ n ih =>
      intro j hj y M' l7 hS he
      obtain ⟨e0, e1, e2, e3, e4⟩ := hS.e
      have e116 : M' 116 = M 116 := hS.1 116 (by decide) (by decide) (by decide)
      have e117 : M' 117 = M 117 := hS.1 117 (by decide) (by decide) (by decide)
      have ij : vp_in (nI j) 14 := vp_in_nI (by omega) (by decide)
      have ej : (nI j).toNatClampNeg = j := nI_clamp (n := j) (by omega)
      have e4j : 4 * nI j = nI (4 * j) := pk_mul 4 j
      have e4c : (4 * nI j).toNatClampNeg = 4 * j := by rw [e4j]; exact nI_clamp (n := 4 * j) (by omega)
      have i60 : vp_in (4 * nI j) 60 := by rw [e4j]; exact vp_in_nI (by omega) (by decide)
      obtain ⟨lt, hlt4, elt, hlt1⟩ := hp.2.2.2.2.1 j (by omega)
      have eltc : (M 117 j).toNatClampNeg = lt := by rw [elt]; exact nI_clamp (n := lt) (by omega)
      have s98 : ∀ (y' : Int32) (M' : mM) (l7 : Option Value), Sm M M' → y' = (if M 116 j = 0 then y else if M 118 (4 * j) = x0 then y + (rin M (4 * j) (M 117 j).toNatClampNeg (plM M x0 x1 x2) ((M 117 j).toNatClampNeg - 1) (bnl M 4) (0, L)).1 else y) → K 98 [some (.ref 109), some (.int x0), some (.int x1), some (.int x2), some (.int (plM M x0 x1 x2)), some (.int y'), some (.int (nI j)), l7] [] (131, M', L, TT) := by
        intro y' M' l7 hS hy
        have h9 := ih (j + 1) (by omega) y' M' l7 hS (by rw [hy]; exact he)
        rw [nI_succ] at h9
        exact hs.go [98, 42] 10 _ _ _ _ h9
      refine hs.go [42, 98] 60 _ _ _ _ ⟨fun z => absurd z (nI_ge (a := j) (b := 14) (by omega) (by decide)), fun _ => ⟨rfl, _, rfl, rfl, ij, ?_⟩⟩
      show (M' 116 (nI j).toNatClampNeg = 0 → _) ∧ (¬ M' 116 (nI j).toNatClampNeg = 0 → _)
      rw [e116, ej]
      refine ⟨fun h2 => s98 y M' _ hS (if_pos h2).symm, fun h2 => ⟨rfl, _, rfl, rfl, i60, ?_⟩⟩
      show (¬ M' 118 (4 * nI j).toNatClampNeg = x0 → _) ∧ (M' 118 (4 * nI j).toNatClampNeg = x0 → _)
      rw [e1, e4c]
      refine ⟨fun h3 => s98 y M' _ hS ((if_neg h2).trans (if_neg h3)).symm, fun h3 => ⟨rfl, _, rfl, rfl, ij, ⟨rfl, ⟨rfl, rfl⟩, rfl, 4 * j, lt, e4j, ?_, by omega, hlt1 h2, hlt4, fun i h4 h5 => rok_c hS (hp.2.2.2.2.2.1 i (by omega)).1⟩, rfl, rfl, ?_⟩⟩
      · show M' 117 (nI j).toNatClampNeg = nI lt
        rw [e117, ej]; exact elt
      · intro r μ' hq
        obtain ⟨g1, M2, hS2, g2⟩ := hq (4 * j) lt (by omega) e4j (show M' 117 (nI j).toNatClampNeg = nI lt by rw [e117, ej]; exact elt)
        have g2 : μ' = (131, M2, L, TT) := by
          rw [g2]
          show (131, M2, (rin M' (4 * j) lt (plM M x0 x1 x2) (lt - 1) (bnl M' 4) (0, L)).2, TT) = _
          rw [rin_q h1]
        have g1 : r = some (Value.int (rin M (4 * j) lt (plM M x0 x1 x2) (lt - 1) (bnl M 4) (0, L)).1) := by
          rw [g1]
          show some (Value.int (rin M' (4 * j) lt (plM M x0 x1 x2) (lt - 1) (bnl M' 4) (0, L)).1) = _
          rw [bnl_c hS, rin_c hS]
        rw [g1, g2]
        refine s98 _ M2 _ (hS.tr hS2) ?_
        rw [if_neg h2, if_pos h3, eltc]
  refine ⟨rfl, _, rfl, rfl, hx, fun h2 => ?_, fun h2 => ?_⟩
  · exact loop 14 0 rfl 0 M _ refl (by rw [show b2 (sb (L 111 x0.toNatClampNeg) (plM M x0 x1 x2) = 1) = 0 from b2_f (fun z => h2 (cmpE.mpr z))])
  · exact loop 14 0 rfl 1 M _ refl (by rw [show b2 (sb (L 111 x0.toNatClampNeg) (plM M x0 x1 x2) = 1) = 1 from b2_t (cmpE.mp h2)])

theorem dn_PM_fact : y_PM_fact.cls ≠ "java/lang/invoke/MethodHandle" ∧ y_PM_fact.cls ≠ "java/lang/invoke/VarHandle" ∧ (parseMethodDescriptor y_PM_fact.desc).map (fun d => d.parameters.length) = some 4 := by decide +kernel
abbrev pr_PM_fact : List Value → Mm → Prop := preV 8 (fun k => a_IIII (fun x0 x1 x2 x3 μ => FM μ ∧ (k = 109 ∧ PI μ.2.1 ∧ (x3 = 0 ∨ x3 = 1))))
abbrev po_PM_fact : List Value → Mm → Option Value → Mm → Prop := qV (fun k => b_IIII (fun x0 x1 x2 x3 μ r μ' => ((9 ≤ x0 ∧ ¬ plM μ.2.1 x0 x1 x2 < 0 ∧ ¬ b2 (sb (μ.2.2.1 111 x0.toNatClampNeg) (plM μ.2.1 x0 x1 x2) = 1) = x3) → r = some (.int 1) ∧ ∃ M', Sm μ.2.1 M' ∧ μ' = DM μ.2.1 M' (up2 μ.2.2.1 111 x0.toNatClampNeg (μ.2.2.1 111 x0.toNatClampNeg ^^^ (1 <<< ((plM μ.2.1 x0 x1 x2).toInt64 &&& 63))))) ∧ (¬ (9 ≤ x0 ∧ ¬ plM μ.2.1 x0 x1 x2 < 0 ∧ ¬ b2 (sb (μ.2.2.1 111 x0.toNatClampNeg) (plM μ.2.1 x0 x1 x2) = 1) = x3) → r = some (.int 0) ∧ μ' = μ)))
theorem ft_PM_fact : ∀ as μ, pr_PM_fact as μ → μ.1 + 0 ≤ 131 ∧ cz μ.1 + 0 ≤ cz 131 := hf_S (n := 131) (Nat.le_refl _) (fun as μ h => by
  obtain ⟨k, r, rfl, hk, h⟩ := preV_e h
  obtain ⟨x0, x1, x2, x3, rfl, h⟩ := a_IIII_e h
  exact h.1.1)
def C_PM_fact : Cf := fun id => match id with
  | 0 => trF (3 + 1) pr_PM_place po_PM_place
  | 1 => trF (0 + 1) pr_PM_derive po_PM_derive
  | _ => fun _ _ _ => False
set_option maxRecDepth 100000 in
theorem cs_PM_fact (l : Launch) : ∀ x ∈ k_PM_fact, CS l R_PM b_PM_fact 6 (rmm 5 0 0) 131 131 C_PM_fact x := fc (CS.no rfl) (fc (CS.no rfl) (fc (CS.no rfl) (fc (CS.no rfl) (fc (CS.V c_PM_place wk_PM_place wl_PM_144 wm_PM_place we_PM_place rfl rfl wi_PM dn_PM_place ⟨rfl, rfl⟩ ⟨by decide, by decide⟩ ft_PM_place rfl (e_PM_fact_4).1) (fc (CS.no rfl) (fc (CS.no rfl) (fc (CS.no rfl) (fc (CS.no rfl) (fc (CS.no rfl) (fc (CS.no rfl) (fc (CS.no rfl) (fc (CS.no rfl) (fc (CS.no rfl) (fc (CS.no rfl) (fc (CS.no rfl) (fc (CS.no rfl) (fc (CS.no rfl) (fc (CS.no rfl) (fc (CS.no rfl) (fc (CS.no rfl) (fc (CS.no rfl) (fc (CS.no rfl) (fc (CS.no rfl) (fc (CS.no rfl) (fc (CS.no rfl) (fc (CS.no rfl) (fc (CS.no rfl) (fc (CS.no rfl) (fc (CS.no rfl) (fc (CS.no rfl) (fc (CS.no rfl) (fc (CS.no rfl) (fc (CS.no rfl) (fc (CS.no rfl) (fc (CS.no rfl) (fc (CS.no rfl) (fc (CS.no rfl) (fc (CS.no rfl) (fc (CS.no rfl) (fc (CS.V c_PM_derive wk_PM_derive wl_PM_147 wm_PM_derive we_PM_derive rfl rfl wi_PM dn_PM_derive ⟨rfl, rfl⟩ ⟨by decide, by decide⟩ ft_PM_derive rfl (e_PM_fact_62).1) (fc (CS.no rfl) (fc (CS.no rfl) (fun _ h => absurd h List.not_mem_nil)))))))))))))))))))))))))))))))))))))))))))
set_option maxRecDepth 100000 in
set_option maxHeartbeats 4000000 in
theorem c_PM_fact : Cn y_PM_fact b_PM_fact 6 (some .boolean) (rmm 5 0 0) (4 + 1) 0 0 pr_PM_fact po_PM_fact := cv_IIII (ci := 8) (f := fun k => fun x0 x1 x2 x3 μ => FM μ ∧ (k = 109 ∧ PI μ.2.1 ∧ (x3 = 0 ∨ x3 = 1))) (g := fun k => fun x0 x1 x2 x3 μ r μ' => ((9 ≤ x0 ∧ ¬ plM μ.2.1 x0 x1 x2 < 0 ∧ ¬ b2 (sb (μ.2.2.1 111 x0.toNatClampNeg) (plM μ.2.1 x0 x1 x2) = 1) = x3) → r = some (.int 1) ∧ ∃ M', Sm μ.2.1 M' ∧ μ' = DM μ.2.1 M' (up2 μ.2.2.1 111 x0.toNatClampNeg (μ.2.2.1 111 x0.toNatClampNeg ^^^ (1 <<< ((plM μ.2.1 x0 x1 x2).toInt64 &&& 63))))) ∧ (¬ (9 ≤ x0 ∧ ¬ plM μ.2.1 x0 x1 x2 < 0 ∧ ¬ b2 (sb (μ.2.2.1 111 x0.toNatClampNeg) (plM μ.2.1 x0 x1 x2) = 1) = x3) → r = some (.int 0) ∧ μ' = μ)) fun l k x0 x1 x2 x3 μ hk h => by
  obtain ⟨hm, h⟩ := h
  obtain ⟨M, L, rfl⟩ := hm.e
  refine ky_met (own := R_PM) (ini := 0) (rb := 1) (nE := 131) (cd := k_PM_fact) (C := C_PM_fact) (by decide) rfl (fun h => by cases h) (Nat.le_of_ble_eq_true rfl) ⟨rfl, rfl⟩ (Or.inr (Or.inl ⟨rfl, rfl⟩)) rfl rfl (by decide) ok_PM_fact (cs_PM_fact l) rt_PM_fact (fun K hs => ?_)
  obtain ⟨rfl, hp, h3⟩ := h
  have hp : PI M := hp
  refine hs.go [46, 48] 60 _ _ _ _ ⟨⟨rfl, ⟨rfl, rfl⟩, rfl, hp.c14⟩, rfl, rfl, ?_⟩
  intro r μ' hq
  have g1 : r = some (Value.int (plM M x0 x1 x2)) := hq.1
  have g2 : μ' = (131, M, L, TT) := hq.2
  rw [g1, g2]
  have no : ¬ (9 ≤ x0 ∧ ¬ plM M x0 x1 x2 < 0 ∧ ¬ b2 (sb (L 111 x0.toNatClampNeg) (plM M x0 x1 x2) = 1) = x3) → K 46 [some (.ref 109), some (.int x0), some (.int x1), some (.int x2), some (.int x3), some (.int (plM M x0 x1 x2))] [] (131, M, L, TT) := by
    intro h
    exact hs.go [46] 10 _ _ _ _ ⟨rfl, fun _ => Or.inl rfl, fun z => absurd z h, fun _ => ⟨rfl, rfl⟩⟩
  refine ⟨fun h1 => no (fun z => Int32.not_lt.mpr z.1 h1), fun h1 => ⟨fun h2 => no (fun z => z.2.1 h2), fun h2 => ?_⟩⟩
  have h2 : ¬ plM M x0 x1 x2 < 0 := h2
  have hx := hp.in14 (plc_in h2).1 (plc_in h2).2
  have yes : ¬ b2 (sb (L 111 x0.toNatClampNeg) (plM M x0 x1 x2) = 1) = x3 → K 48 [some (.ref 109), some (.int x0), some (.int x1), some (.int x2), some (.int x3), some (.int (plM M x0 x1 x2))] [] (131, M, L, TT) := by
    intro h
    refine hs.go [48] 40 _ _ _ _ ⟨rfl, _, rfl, rfl, hx, rfl, hx, ⟨rfl, ⟨rfl, rfl⟩, rfl, hp⟩, rfl, rfl, ?_⟩
    rintro _ _ ⟨rfl, M', hS, rfl⟩
    exact ⟨rfl, fun _ => Or.inr rfl, fun _ => ⟨rfl, M', hS, rfl⟩, fun z => absurd ⟨Int32.not_lt.mp h1, h2, h⟩ z⟩
  refine ⟨rfl, _, rfl, rfl, hx, fun h4 => ⟨fun h5 => yes ?_, fun h5 => no ?_⟩, fun h4 => ⟨fun h5 => yes ?_, fun h5 => no ?_⟩⟩
  · rw [show b2 (sb (L 111 x0.toNatClampNeg) (plM M x0 x1 x2) = 1) = 0 from b2_f (fun z => h4 (cmpE.mpr z))]
    exact h5
  · rw [show b2 (sb (L 111 x0.toNatClampNeg) (plM M x0 x1 x2) = 1) = 0 from b2_f (fun z => h4 (cmpE.mpr z))]
    exact fun z => z.2.2 h5
  · rw [show b2 (sb (L 111 x0.toNatClampNeg) (plM M x0 x1 x2) = 1) = 1 from b2_t (cmpE.mp h4)]
    exact h5
  · rw [show b2 (sb (L 111 x0.toNatClampNeg) (plM M x0 x1 x2) = 1) = 1 from b2_t (cmpE.mp h4)]
    exact fun z => z.2.2 h5
