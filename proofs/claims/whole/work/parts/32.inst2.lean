theorem dn_PM_instances : y_PM_instances.cls ≠ "java/lang/invoke/MethodHandle" ∧ y_PM_instances.cls ≠ "java/lang/invoke/VarHandle" ∧ (parseMethodDescriptor y_PM_instances.desc).map (fun d => d.parameters.length) = some 3 := by decide +kernel
abbrev pr_PM_instances : List Value → Mm → Prop := preV 8 (fun k => a_III (fun x0 x1 x2 μ => FM μ ∧ (k = 109 ∧ ∃ a m, x0 = nI a ∧ x1 = nI m ∧ a + m ≤ 60 ∧ 1 ≤ m ∧ m ≤ 4 ∧ (∀ i, a ≤ i → i < a + m → rok μ.2.1 i))))
abbrev po_PM_instances : List Value → Mm → Option Value → Mm → Prop := qV (fun k => b_III (fun x0 x1 x2 μ r μ' => ∀ a m, a + m ≤ 60 → x0 = nI a → x1 = nI m → r = some (.int (rin μ.2.1 a m x2 (m - 1) (bnl μ.2.1 4) (0, μ.2.2.1)).1) ∧ ∃ M', Sm μ.2.1 M' ∧ μ' = (131, M', (rin μ.2.1 a m x2 (m - 1) (bnl μ.2.1 4) (0, μ.2.2.1)).2, TT)))
theorem ft_PM_instances : ∀ as μ, pr_PM_instances as μ → μ.1 + 0 ≤ 131 ∧ cz μ.1 + 0 ≤ cz 131 := hf_S (n := 131) (Nat.le_refl _) (fun as μ h => by
  obtain ⟨k, r, rfl, hk, h⟩ := preV_e h
  obtain ⟨x0, x1, x2, rfl, h⟩ := a_III_e h
  exact h.1.1)
def C_PM_instances : Cf := fun id => match id with
  | 0 => trF (1 + 1) pr_PM_keep po_PM_keep
  | 1 => trF (1 + 1) pr_PM_tupleOf po_PM_tupleOf
  | 2 => trF (2 + 1) pr_PM_negatedHold po_PM_negatedHold
  | 3 => trF (2 + 1) pr_PM_next po_PM_next
  | _ => fun _ _ _ => False
set_option maxRecDepth 100000 in
theorem cs_PM_instances (l : Launch) : ∀ x ∈ k_PM_instances, CS l R_PM b_PM_instances 9 (rmm 3 0 0) 131 131 C_PM_instances x := fc (CS.no rfl) (fc (CS.no rfl) (fc (CS.no rfl) (fc (CS.no rfl) (fc (CS.no rfl) (fc (CS.no rfl) (fc (CS.no rfl) (fc (CS.no rfl) (fc (CS.no rfl) (fc (CS.no rfl) (fc (CS.no rfl) (fc (CS.no rfl) (fc (CS.no rfl) (fc (CS.no rfl) (fc (CS.no rfl) (fc (CS.no rfl) (fc (CS.no rfl) (fc (CS.no rfl) (fc (CS.V c_PM_keep wk_PM_keep wl_PM_115 wm_PM_keep we_PM_keep rfl rfl wi_PM dn_PM_keep ⟨rfl, rfl⟩ ⟨by decide, by decide⟩ ft_PM_keep rfl (e_PM_instances_31).1) (fc (CS.no rfl) (fc (CS.no rfl) (fc (CS.no rfl) (fc (CS.no rfl) (fc (CS.no rfl) (fc (CS.no rfl) (fc (CS.no rfl) (fc (CS.no rfl) (fc (CS.no rfl) (fc (CS.no rfl) (fc (CS.no rfl) (fc (CS.no rfl) (fc (CS.no rfl) (fc (CS.no rfl) (fc (CS.no rfl) (fc (CS.no rfl) (fc (CS.no rfl) (fc (CS.no rfl) (fc (CS.no rfl) (fc (CS.V c_PM_tupleOf wk_PM_tupleOf wl_PM_112 wm_PM_tupleOf we_PM_tupleOf rfl rfl wi_PM dn_PM_tupleOf ⟨rfl, rfl⟩ ⟨by decide, by decide⟩ ft_PM_tupleOf rfl (e_PM_instances_66).1) (fc (CS.no rfl) (fc (CS.no rfl) (fc (CS.no rfl) (fc (CS.no rfl) (fc (CS.V c_PM_negatedHold wk_PM_negatedHold wl_PM_119 wm_PM_negatedHold we_PM_negatedHold rfl rfl wi_PM dn_PM_negatedHold ⟨rfl, rfl⟩ ⟨by decide, by decide⟩ ft_PM_negatedHold rfl (e_PM_instances_74).1) (fc (CS.no rfl) (fc (CS.no rfl) (fc (CS.no rfl) (fc (CS.no rfl) (fc (CS.no rfl) (fc (CS.no rfl) (fc (CS.no rfl) (fc (CS.no rfl) (fc (CS.no rfl) (fc (CS.no rfl) (fc (CS.no rfl) (fc (CS.no rfl) (fc (CS.no rfl) (fc (CS.no rfl) (fc (CS.no rfl) (fc (CS.no rfl) (fc (CS.no rfl) (fc (CS.no rfl) (fc (CS.no rfl) (fc (CS.no rfl) (fc (CS.no rfl) (fc (CS.no rfl) (fc (CS.no rfl) (fc (CS.no rfl) (fc (CS.no rfl) (fc (CS.no rfl) (fc (CS.no rfl) (fc (CS.no rfl) (fc (CS.no rfl) (fc (CS.no rfl) (fc (CS.no rfl) (fc (CS.no rfl) (fc (CS.no rfl) (fc (CS.no rfl) (fc (CS.V c_PM_next wk_PM_next wl_PM_122 wm_PM_next we_PM_next rfl rfl wi_PM dn_PM_next ⟨rfl, rfl⟩ ⟨by decide, by decide⟩ ft_PM_next rfl (e_PM_instances_138).1) (fc (CS.no rfl) (fc (CS.no rfl) (fc (CS.no rfl) (fc (CS.no rfl) (fun _ h => absurd h List.not_mem_nil)))))))))))))))))))))))))))))))))))))))))))))))))))))))))))))))))))))))))))))))))))
set_option maxRecDepth 100000 in
set_option maxHeartbeats 4000000 in
theorem c_PM_instances : Cn y_PM_instances b_PM_instances 9 (some .int) (rmm 3 0 0) (3 + 1) 0 0 pr_PM_instances po_PM_instances := cv_III (ci := 8) (f := fun k => fun x0 x1 x2 μ => FM μ ∧ (k = 109 ∧ ∃ a m, x0 = nI a ∧ x1 = nI m ∧ a + m ≤ 60 ∧ 1 ≤ m ∧ m ≤ 4 ∧ (∀ i, a ≤ i → i < a + m → rok μ.2.1 i))) (g := fun k => fun x0 x1 x2 μ r μ' => ∀ a m, a + m ≤ 60 → x0 = nI a → x1 = nI m → r = some (.int (rin μ.2.1 a m x2 (m - 1) (bnl μ.2.1 4) (0, μ.2.2.1)).1) ∧ ∃ M', Sm μ.2.1 M' ∧ μ' = (131, M', (rin μ.2.1 a m x2 (m - 1) (bnl μ.2.1 4) (0, μ.2.2.1)).2, TT)) fun l k x0 x1 x2 μ hk h => by
  obtain ⟨hm, h⟩ := h
  obtain ⟨M, L, rfl⟩ := hm.e
  refine ky_met (own := R_PM) (ini := 0) (rb := 0) (nE := 131) (cd := k_PM_instances) (C := C_PM_instances) (by decide) rfl (fun h => by cases h) (Nat.le_of_ble_eq_true rfl) ⟨rfl, rfl⟩ (Or.inl ⟨rfl, rfl⟩) rfl rfl (by decide) ok_PM_instances (cs_PM_instances l) rt_PM_instances (fun K hs => ?_)
  obtain ⟨rfl, a, m, rfl, rfl, ham, hm1, hm4, hro⟩ := h
  have hro : ∀ i, a ≤ i → i < a + m → rok M i := hro
  have ea : (nI a).toNatClampNeg = a := nI_clamp (n := a) (by omega)
  have ia : vp_in (nI a) 60 := vp_in_nI (by omega) (by decide)
  have leaf : ∀ (M' : mM) (L' : mL) (cnt : Int32) (l6 l7 l8 : Option Value) (v : Nat → Int32), Sm M M' → M' 128 = v → (∀ l6 l7 l8 : Option Value, K 41 [some (.ref 109), some (.int (nI a)), some (.int (nI m)), some (.int x2), some (.int (rlf M a m x2 v (cnt, L')).1), some (.int (nI (m - 1))), l6, l7, l8] [] (131, M', (rlf M a m x2 v (cnt, L')).2, TT)) → K 41 [some (.ref 109), some (.int (nI a)), some (.int (nI m)), some (.int x2), some (.int cnt), some (.int (nI m)), l6, l7, l8] [] (131, M', L', TT) := by
    intro M' L' cnt l6 l7 l8 v hS hv ct
    obtain ⟨e0, e1, e2, e3, e4⟩ := hS.e
    have em : nI m + (-1) = nI (m - 1) := by
      obtain ⟨m', rfl⟩ : ∃ m', m = m' + 1 := ⟨m - 1, by omega⟩
      exact pk_m1 m'
    have i14 : vp_in (M' 118 (nI a).toNatClampNeg) 14 := by rw [e1, ea]; exact (hro a (by omega) (by omega)).1
    refine hs.go [41] 90 _ _ _ _ ⟨fun z => absurd z (nI_nle (n := m) (by omega) (by omega)), fun _ => ⟨fun _ => ⟨⟨rfl, ⟨rfl, rfl⟩, rfl, ia, ?_⟩, rfl, rfl, ?_⟩, fun z => absurd rfl z⟩⟩
    · show rok M' (nI a).toNatClampNeg
      rw [ea]
      exact rok_c hS (hro a (by omega) (by omega))
    · intro r μ' hq
      have g1 : r = some (Value.int (tpo M' (M' 128) (nI a).toNatClampNeg)) := hq.1
      have g2 : μ' = (131, M', L', TT) := hq.2
      rw [ea, hv, tpo_c hS] at g1
      rw [g1, g2]
      refine ⟨⟨rfl, ⟨rfl, rfl⟩, rfl, a, m, rfl, rfl, ham, hm1, fun i h1 h2 => rok_c hS (hro i (by omega) h2)⟩, rfl, rfl, ?_⟩
      intro r μ' hq
      have g1 : r = some (Value.int (b2 (ngl M' L' (M' 128) (m - 1) (a + 1) = true))) := (hq a m ham rfl rfl).1
      have g2 : μ' = (131, M', L', TT) := (hq a m ham rfl rfl).2
      rw [hv, ngl_c hS] at g1
      rw [g1, g2]
      unfold rlf at ct
      by_cases hok : ngl M L' v (m - 1) (a + 1) = true
      · rw [show b2 (ngl M L' v (m - 1) (a + 1) = true) = 1 from b2_t hok]
        have two : ∀ (y : Int32) (l6 l7 l8 : Option Value), y = cnt + b2 (ngl M L' v (m - 1) (a + 1) = true ∧ tpo M v a = x2) → x2 < 0 → K 41 [some (.ref 109), some (.int (nI a)), some (.int (nI m)), some (.int x2), some (.int y), some (.int (nI m + (-1))), l6, l7, l8] [] (131, M', up2 L' 112 (M' 118 (nI a).toNatClampNeg).toNatClampNeg (L' 112 (M' 118 (nI a).toNatClampNeg).toNatClampNeg ||| (1 <<< ((tpo M v a).toInt64 &&& 63))), TT) := by
          intro y l6 l7 l8 hy hx
          have h9 := ct l6 l7 l8
          rw [if_pos ⟨hok, hx⟩] at h9
          rw [hy, em, e1, ea]
          exact h9
        have one : ∀ (y : Int32) (l6 l7 l8 : Option Value), y = cnt + b2 (ngl M L' v (m - 1) (a + 1) = true ∧ tpo M v a = x2) → ¬ x2 < 0 → K 41 [some (.ref 109), some (.int (nI a)), some (.int (nI m)), some (.int x2), some (.int y), some (.int (nI m + (-1))), l6, l7, l8] [] (131, M', L', TT) := by
          intro y l6 l7 l8 hy hx
          have h9 := ct l6 l7 l8
          rw [if_neg (fun z => hx z.2)] at h9
          rw [hy, em]
          exact h9
        refine ⟨fun z => absurd z (by decide), fun _ => ⟨fun h1 => ⟨fun z => absurd z (by decide), fun _ => ⟨fun h2 => one _ _ _ _ ?_ (Int32.not_lt.mpr h2), fun h2 => ⟨rfl, _, rfl, rfl, _, rfl, rfl, ia, rfl, i14, rfl, i14, two _ _ _ _ ?_ (Int32.not_le.mp h2)⟩⟩⟩, fun h1 => ⟨fun z => absurd z (by decide), fun _ => ⟨fun h2 => one _ _ _ _ ?_ (Int32.not_lt.mpr h2), fun h2 => ⟨rfl, _, rfl, rfl, _, rfl, rfl, ia, rfl, i14, rfl, i14, two _ _ _ _ ?_ (Int32.not_le.mp h2)⟩⟩⟩⟩⟩
        · rw [b2_f (fun z => h1 z.2)]
        · rw [b2_f (fun z => h1 z.2)]
        · rw [b2_t ⟨hok, h1⟩]
        · rw [b2_t ⟨hok, h1⟩]
      · rw [show b2 (ngl M L' v (m - 1) (a + 1) = true) = 0 from b2_f hok]
        refine ⟨fun _ => ⟨fun _ => ?_, fun z => absurd rfl z⟩, fun z => absurd rfl z⟩
        have h9 := ct (some (.int (nI a + nI m))) (some (.int (tpo M v a))) (some (.int 0))
        rw [if_neg (fun z => hok z.1), b2_f (fun z => hok z.1), ← em] at h9
        exact h9
  have main : ∀ (D d : Nat), d + D = m → 1 ≤ d → ∀ (M' : mM) (L' : mL) (cnt : Int32) (l6 l7 l8 : Option Value) (v : Nat → Int32) (c : Nat), Sm M M' → (∀ j, 4 ≤ j → v j = M 128 j) → (D = 0 → M' 128 = v) → (1 ≤ D → M' 130 d = nI c ∧ c ≤ 36 ∧ ∀ j, j < 4 → M' 129 (4 * d + j) = v j) → (∀ (M'' : mM) (l6 l7 l8 : Option Value), Sm M M'' → Lo d M' M'' → K 41 [some (.ref 109), some (.int (nI a)), some (.int (nI m)), some (.int x2), some (.int (rW M a m x2 D v c (cnt, L')).1), some (.int (nI (d - 1))), l6, l7, l8] [] (131, M'', (rW M a m x2 D v c (cnt, L')).2, TT)) → K 41 [some (.ref 109), some (.int (nI a)), some (.int (nI m)), some (.int x2), some (.int cnt), some (.int (nI d)), l6, l7, l8] [] (131, M', L', TT) := by
    intro D
    induction D with
    | zero =>
      intro d hd hd1 M' L' cnt l6 l7 l8 v c hS hv4 hv _ ct
      have hd : d = m := by omega
      subst hd
      exact leaf M' L' cnt l6 l7 l8 v hS (hv rfl) (fun l6 l7 l8 => ct M' l6 l7 l8 hS (fun e he => ⟨rfl, fun j hj => rfl⟩))
    | succ D ih =>
      intro d hd hd1 M' L' cnt l6 l7 l8 v c hS hv4 _ hc ct
      obtain ⟨hc1, hc2, hc3⟩ := hc (by omega)
      have inner : ∀ (N c : Nat), 36 - c = N → c ≤ 36 → ∀ (M' : mM) (L' : mL) (cnt : Int32) (l6 l7 l8 : Option Value), Sm M M' → M' 130 d = nI c → (∀ j, j < 4 → M' 129 (4 * d + j) = v j) → (∀ (M'' : mM) (l6 l7 l8 : Option Value), Sm M M'' → Lo d M' M'' → K 41 [some (.ref 109), some (.int (nI a)), some (.int (nI m)), some (.int x2), some (.int (rst M a m x2 D v c (cnt, L')).1), some (.int (nI (d - 1))), l6, l7, l8] [] (131, M'', (rst M a m x2 D v c (cnt, L')).2, TT)) → K 41 [some (.ref 109), some (.int (nI a)), some (.int (nI m)), some (.int x2), some (.int cnt), some (.int (nI d)), l6, l7, l8] [] (131, M', L', TT) := by
        intro N
        induction N using Nat.strongRecOn with
        | ind N IH =>
          intro c hN hc36 M' L' cnt l6 l7 l8 hS hcd hsv ct
          obtain ⟨e0, e1, e2, e3, e4⟩ := hS.e
          have hv' : ∀ j, 4 ≤ j → v j = M' 128 j := fun j hj => (hv4 j hj).trans (hS.2 j hj).symm
          have ersv : rsv M' d 4 = v := rsv_e hsv hv'
          have hrow : a + (m - (D + 1)) = a + d := by omega
          have hrk : rok M (a + d) := hro (a + d) (by omega) (by omega)
          have ep : nI d - 1 = nI (d - 1) := by
            obtain ⟨d', rfl⟩ : ∃ d', d = d' + 1 := ⟨d - 1, by omega⟩
            exact nI_pred d'
          refine hs.go [41] 90 _ _ _ _ ⟨fun z => absurd z (nI_nle (n := d) (by omega) (by omega)), fun _ => ⟨fun z => absurd ((nI_eq (a := d) (b := m) (by omega) (by omega)).mp z) (by omega), fun _ => ⟨fun _ => ⟨⟨rfl, ⟨rfl, rfl⟩, rfl, a + d, d, c, by omega, by omega, hd1, hc36, nI_add a d, rfl, hcd, rok_c hS hrk⟩, rfl, rfl, ?_⟩, fun z => absurd ((nI_eq (a := d) (b := 4) (by omega) (by decide)).mp z) (by omega)⟩⟩⟩
          intro r μ' hq
          have hN' : NX M' L' (a + d) d c r μ' := hq (a + d) d c (by omega) (by omega) hc36 (nI_add a d) rfl hcd
          have go : ∀ (w : Nat → Int32) (c' : Nat) (l6 l7 l8 : Option Value), c < c' → c' ≤ 36 → (∀ j, 4 ≤ j → w j = M 128 j) → rst M a m x2 D v c (cnt, L') = rst M a m x2 D v c' (rin M a m x2 D w (cnt, L')) → K 41 [some (.ref 109), some (.int (nI a)), some (.int (nI m)), some (.int x2), some (.int cnt), some (.int (nI d + 1)), l6, l7, l8] [] (131, dpr (up2 (upr M' 128 w) 130 d (nI c')) d, L', TT) := by
            intro w c' l6 l7 l8 hcc hc'36 hw he
            obtain ⟨f1, f2, f3, f4, f5, f6⟩ := dpr_f (M' := M') (d := d) (v := w) (y := nI c') (by omega) (fun j hj => (hw j hj).trans (hS.2 j hj).symm)
            rw [← nI_succ]
            refine ih (d + 1) (by omega) (by omega) _ L' cnt l6 l7 l8 w 0 (hS.tr f1) hw (fun _ => f3) (fun hD => ⟨(f6 (by omega)).1, by omega, (f6 (by omega)).2⟩) ?_
            intro M'' l6 l7 l8 hS2 hL2
            rw [rW_0]
            refine IH (36 - c') (by omega) c' rfl hc'36 M'' _ _ l6 l7 l8 hS2 ((hL2 d (by omega)).1.trans f4) (fun j hj => ((hL2 d (by omega)).2 j hj).trans ((f5 j hj).trans (hsv j hj))) ?_
            intro M3 l6 l7 l8 hS3 hL3
            have h9 := ct M3 l6 l7 l8 hS3 ((f2.tr (hL2.mono (by omega))).tr hL3)
            rw [he] at h9
            exact h9
          by_cases hn : M 121 (a + d) = 0
          · have hn' : M' 121 (a + d) = 0 := by rw [e4]; exact hn
            have er : ∀ c s, rst M a m x2 D v c s = ril (rin M a m x2 D) M (a + d) v (36 - c) c s := by
              intro c s
              unfold rst
              rw [hrow, if_pos hn]
            have ef : nxF M' L' (a + d) d c = fnd M (L' 112 (M 118 (a + d)).toNatClampNeg) v (a + d) (36 - c) c := by
              unfold nxF
              rw [ersv, e1, fnd_c hS]
            cases hf : nxF M' L' (a + d) d c with
            | none =>
              obtain ⟨g1, w, hw, g2⟩ := (hN'.2 hn').2 hf
              rw [g1, g2]
              rw [ef] at hf
              have hr0 : rst M a m x2 D v c (cnt, L') = (cnt, L') := (er c _).trans (ril_no (36 - c) c (cnt, L') hf)
              have h9 := ct (upr M' 128 w) (some (.int (nI a + nI d))) l7 l8 ⟨fun x h1 h2 h3 => (upr_k h1).trans (hS.1 x h1 h2 h3), fun j hj => (hw j hj).trans (hS.2 j hj)⟩ (fun e he => ⟨rfl, fun j hj => rfl⟩)
              rw [hr0, ← ep] at h9
              exact h9
            | some c' =>
              obtain ⟨g1, g2⟩ := (hN'.2 hn').1 c' hf
              rw [ersv, agv_c hS] at g2
              rw [g1, g2]
              rw [ef] at hf
              obtain ⟨z1, z2, z3⟩ := ril_yes (g := rin M a m x2 D) (36 - c) c (cnt, L') hf
              have hr0 : rst M a m x2 D v c (cnt, L') = rst M a m x2 D v (c' + 1) (rin M a m x2 D (agv M v (a + d) (nI c')) (cnt, L')) := by
                rw [er, er, z3, show 36 - c + c - (c' + 1) = 36 - (c' + 1) by omega]
              exact go (agv M v (a + d) (nI c')) (c' + 1) _ _ _ (by omega) (by omega) (fun j hj => (agv_hi hrk hj).trans (hv4 j hj)) hr0
          · have hn' : ¬ M' 121 (a + d) = 0 := by rw [e4]; exact hn
            have er : ∀ c s, rst M a m x2 D v c s = if c = 0 then rin M a m x2 D v s else s := by
              intro c s
              unfold rst
              rw [hrow, if_neg hn]
            by_cases hc0 : c = 0
            · obtain ⟨g1, g2⟩ := (hN'.1 hn').2 hc0
              rw [ersv] at g2
              rw [g1, g2]
              exact go v 36 _ _ _ (by omega) (by omega) hv4 (by rw [er, er, if_pos hc0, if_neg (by decide)])
            · obtain ⟨g1, g2⟩ := (hN'.1 hn').1 (by omega)
              rw [ersv] at g2
              rw [g1, g2]
              have hr0 : rst M a m x2 D v c (cnt, L') = (cnt, L') := by rw [er, if_neg hc0]
              have h9 := ct (up2 (upr M' 128 v) 130 d 36) (some (.int (nI a + nI d))) l7 l8 ⟨fun x h1 h2 h3 => ((up2_k h3).trans (upr_k h1)).trans (hS.1 x h1 h2 h3), fun j hj => (show v j = _ from hv4 j hj)⟩ (fun e he => ⟨up2_j (by omega), fun j hj => rfl⟩)
              rw [hr0, ← ep] at h9
              exact h9
      exact inner (36 - c) c rfl hc2 M' L' cnt l6 l7 l8 hS hc1 hc3 ct
  have first : ∀ (n c : Nat), c + n = 4 → K 9 [some (.ref 109), some (.int (nI a)), some (.int (nI m)), some (.int x2), some (.int 0), some (.int 1), some (.int (nI c)), none, none] [] (131, upr M 128 (bnl M c), L, TT) := by
    intro n
    induction n with
    | zero =>
      intro c hc
      have hc : c = 4 := by omega
      subst hc
      refine hs.go [9, 41] 60 _ _ _ _ ⟨fun _ => ⟨⟨rfl, ⟨rfl, rfl⟩, rfl, (vp_in_nI (n := 1) (N := 4) (by decide) (by decide))⟩, rfl, rfl, ?_⟩, fun z => absurd (Int32.le_refl _) z⟩
      intro r μ' hq
      have g2 : μ' = (131, upr (upr M 128 (bnl M 4)) 129 (kpv (upr M 128 (bnl M 4)) 1 4), L, TT) := hq.2
      rw [hq.1, g2]
      refine ⟨rfl, _, rfl, rfl, (vp_in_nI (n := 1) (N := 4) (by decide) (by decide)), ?_⟩
      show K 41 [some (.ref 109), some (.int (nI a)), some (.int (nI m)), some (.int x2), some (.int 0), some (.int (nI 1)), some (.int 4), none, none] [] (131, up2 (upr (upr M 128 (bnl M 4)) 129 (kpv (upr M 128 (bnl M 4)) 1 4)) 130 1 0, L, TT)
      have hb4 : ∀ j, 4 ≤ j → bnl M 4 j = M 128 j := fun j hj => if_neg (by omega)
      refine main (m - 1) 1 (by omega) (Nat.le_refl _) _ L 0 _ _ _ (bnl M 4) 0 ⟨fun x h1 h2 h3 => (up2_k h3).trans ((upr_k h2).trans (upr_k h1)), fun j hj => (show bnl M 4 j = _ from hb4 j hj)⟩ hb4 (fun _ => rfl) (fun _ => ⟨up2_s, by decide, fun j hj => ?_⟩) ?_
      · show kpv (upr M 128 (bnl M 4)) 1 4 (4 * 1 + j) = _
        unfold kpv
        rw [if_pos (by omega), show 4 * 1 + j - 4 * 1 = j by omega]
        rfl
      · intro M'' l6 l7 l8 hS _
        rw [rW_0]
        refine hs.go [41] 20 _ _ _ _ ⟨fun _ => ⟨rfl, fun z => (by cases z), ?_⟩, fun z => absurd (Int32.le_refl _) z⟩
        intro a' m' h1 h2 h3
        have e1 : a = a' := (nI_eq (by omega) (by omega)).mp h2
        have e2 : m = m' := (nI_eq (by omega) (by omega)).mp h3
        subst e1; subst e2
        exact ⟨rfl, M'', hS, rfl⟩
    | succ n ih =>
      intro c hc
      have h9 := ih (c + 1) (by omega)
      rw [nI_succ] at h9
      have e : upr M 128 (bnl M (c + 1)) = up2 (upr M 128 (bnl M c)) 128 c (-1) := by
        funext x y
        unfold up2 upr bnl
        by_cases hx : x = 128
        · subst hx
          by_cases hy : y = c
          · subst hy
            simp
          · have : (y < c + 1) ↔ (y < c) := by omega
            simp only [this, hy, and_false, if_false, if_true]
        · simp [hx]
      rw [e] at h9
      have i1 : vp_in (nI c) 4 := vp_in_nI (by omega) (by decide)
      refine hs.go [9, 41] 40 _ _ _ _ ⟨fun z => absurd z (nI_ge (a := c) (b := 4) (by omega) (by decide)), fun _ => ⟨rfl, _, rfl, rfl, i1, ?_⟩⟩
      show K 9 _ _ (131, up2 (upr M 128 (bnl M c)) 128 (nI c).toNatClampNeg (-1), L, TT)
      rw [nI_clamp (n := c) (by omega)]
      exact h9
  have h0 := first 4 0 rfl
  have e0 : upr M 128 (bnl M 0) = M := by
    have : bnl M 0 = M 128 := by
      funext t
      exact if_neg (by omega)
    rw [this, upr_id]
  rw [e0] at h0
  exact hs.go [9, 41] 40 _ _ _ _ h0
