def wys (M : mM) (L : mL) (x v : Int32) (z : Int32) : Nat → Int32
  | 0 => z
  | n + 1 => if ¬ M (12 + 6 * n) 4 = 0 ∧ M (13 + 6 * n) 0 = x then wys M L x v z n + cin M L n v.toNatClampNeg else wys M L x v z n
theorem mmt_ρ {M : mM} {L : mL} {i len : Nat} : ∀ (d : Nat) (v : Nat → Int32) (ρ ρ' : Int64), (mmt M L i len d v ρ).1 = (mmt M L i len d v ρ').1 := by
  intro d
  induction d with
  | zero => intro v ρ ρ'; rfl
  | succ d ih =>
    intro v ρ ρ'
    have key : ∀ (h : Int64) (f s n c : Nat) (a a' : Int32 × Int64), a.1 = a'.1 → (mml (mmt M L i len d) h v f s n c a).1 = (mml (mmt M L i len d) h v f s n c a').1 := by
      intro h f s n
      induction n with
      | zero => intro c a a' e; exact e
      | succ n ihn =>
        intro c a a' e
        simp only [mml]
        refine ihn _ _ _ ?_
        split
        · exact e
        · split
          · split
            · show a.1 + _ = a'.1 + _
              rw [e, ih _ a.2 a'.2]
            · exact e
          · exact e
    exact key _ _ _ _ _ _ _ rfl
theorem cin_cg {M : mM} {L : mL} {ρ : Int64} {i c : Nat} (hi : i < 14) (hw : wR M i) : cin M (up2 L 103 1 ρ) i c = cin M L i c := by
  unfold cin
  split
  · rw [mmt_cg (M := M) (M' := M) (L := L) (L' := up2 L 103 1 ρ) (fun _ _ => rfl) up2L_8 hi (wR_ln hw) _ (Nat.le_refl _)]
    exact mmt_ρ _ _ _ _
  · rfl
theorem cof_v {cnt a x0 x1 x2 : Int32} (h : ¬ cof cnt a x0 x1 x2 = -1) : ∃ c, c < 36 ∧ cof cnt a x0 x1 x2 = nI c := by
  unfold cof at h ⊢
  by_cases h1 : 0 ≤ x0 ∧ x0 < cnt ∧ (0 ≤ x1 ∧ x1 < 6) ∧ (0 ≤ sec a x2 ∧ sec a x2 < 6)
  · rw [if_pos h1]
    obtain ⟨j, hj, e1⟩ := vp_in_of (in_6 h1.2.2.1.1 h1.2.2.1.2) (by decide)
    obtain ⟨m, hm, e2⟩ := vp_in_of (in_6 h1.2.2.2.1 h1.2.2.2.2) (by decide)
    refine ⟨j * 6 + m, by omega, ?_⟩
    rw [e1, e2, ← nI_add, ← pk_mul]
    rfl
  · rw [if_neg h1] at h
    exact absurd rfl h

theorem dn_PF_ways : y_PF_ways.cls ≠ "java/lang/invoke/MethodHandle" ∧ y_PF_ways.cls ≠ "java/lang/invoke/VarHandle" ∧ (parseMethodDescriptor y_PF_ways.desc).map (fun d => d.parameters.length) = some 3 := by decide +kernel
abbrev pr_PF_ways : List Value → Mm → Prop := preV 0 (fun k => a_III (fun x0 x1 x2 μ => FM μ ∧ (k = 0 ∧ CI μ.2.1)))
abbrev po_PF_ways : List Value → Mm → Option Value → Mm → Prop := qV (fun k => b_III (fun x0 x1 x2 μ r μ' => (cof (μ.2.1 5 4) (μ.2.1 6 x0.toNatClampNeg) x0 x1 x2 = -1 → r = some (.int (-1)) ∧ μ' = μ) ∧ (¬ cof (μ.2.1 5 4) (μ.2.1 6 x0.toNatClampNeg) x0 x1 x2 = -1 → r = some (.int (wys μ.2.1 μ.2.2.1 x0 (cof (μ.2.1 5 4) (μ.2.1 6 x0.toNatClampNeg) x0 x1 x2) (b2 (¬ ub (μ.2.2.1 7 x0.toNatClampNeg) (cof (μ.2.1 5 4) (μ.2.1 6 x0.toNatClampNeg) x0 x1 x2) = 0)) 14)) ∧ ∃ ρ, μ' = (131, μ.2.1, up2 μ.2.2.1 103 1 ρ, TT))))
theorem ft_PF_ways : ∀ as μ, pr_PF_ways as μ → μ.1 + 0 ≤ 131 ∧ cz μ.1 + 0 ≤ cz 131 := hf_S (n := 131) (Nat.le_refl _) (fun as μ h => by
  obtain ⟨k, r, rfl, hk, h⟩ := preV_e h
  obtain ⟨x0, x1, x2, rfl, h⟩ := a_III_e h
  exact h.1.1)
def C_PF_ways : Cf := fun id => match id with
  | 0 => trF (3 + 1) pr_RS_cellOf po_RS_cellOf
  | 1 => trF (2 + 1) pr_RS_isFact po_RS_isFact
  | 2 => trF (3 + 1) pr_DV_countInstances po_DV_countInstances
  | _ => fun _ _ _ => False
set_option maxRecDepth 100000 in
theorem cs_PF_ways (l : Launch) : ∀ x ∈ k_PF_ways, CS l R_PF b_PF_ways 8 (rmm 9 0 0) 131 131 C_PF_ways x := fc (CS.no rfl) (fc (CS.no rfl) (fc (CS.no rfl) (fc (CS.no rfl) (fc (CS.no rfl) (fc (CS.V c_RS_cellOf wk_RS_cellOf wl_PF_62 wm_RS_cellOf we_RS_cellOf rfl rfl wi_RS dn_RS_cellOf ⟨rfl, rfl⟩ ⟨by decide, by decide⟩ ft_RS_cellOf rfl (e_PF_ways_7).1) (fc (CS.no rfl) (fc (CS.no rfl) (fc (CS.no rfl) (fc (CS.no rfl) (fc (CS.no rfl) (fc (CS.no rfl) (fc (CS.no rfl) (fc (CS.no rfl) (fc (CS.no rfl) (fc (CS.no rfl) (fc (CS.V c_RS_isFact wk_RS_isFact wl_PF_66 wm_RS_isFact we_RS_isFact rfl rfl wi_RS dn_RS_isFact ⟨rfl, rfl⟩ ⟨by decide, by decide⟩ ft_RS_isFact rfl (e_PF_ways_27).1) (fc (CS.no rfl) (fc (CS.no rfl) (fc (CS.no rfl) (fc (CS.no rfl) (fc (CS.no rfl) (fc (CS.no rfl) (fc (CS.no rfl) (fc (CS.no rfl) (fc (CS.no rfl) (fc (CS.no rfl) (fc (CS.no rfl) (fc (CS.no rfl) (fc (CS.no rfl) (fc (CS.no rfl) (fc (CS.no rfl) (fc (CS.no rfl) (fc (CS.no rfl) (fc (CS.no rfl) (fc (CS.no rfl) (fc (CS.no rfl) (fc (CS.no rfl) (fc (CS.no rfl) (fc (CS.no rfl) (fc (CS.no rfl) (fc (CS.no rfl) (fc (CS.no rfl) (fc (CS.no rfl) (fc (CS.no rfl) (fc (CS.no rfl) (fc (CS.no rfl) (fc (CS.no rfl) (fc (CS.V c_DV_countInstances wk_DV_countInstances wl_PF_171 wm_DV_countInstances we_DV_countInstances rfl rfl wi_DV dn_DV_countInstances ⟨rfl, rfl⟩ ⟨by decide, by decide⟩ ft_DV_countInstances rfl (e_PF_ways_96).1) (fc (CS.no rfl) (fc (CS.no rfl) (fc (CS.no rfl) (fc (CS.no rfl) (fc (CS.no rfl) (fc (CS.no rfl) (fun _ h => absurd h List.not_mem_nil)))))))))))))))))))))))))))))))))))))))))))))))))))))))
set_option maxRecDepth 100000 in
set_option maxHeartbeats 4000000 in
theorem c_PF_ways : Cn y_PF_ways b_PF_ways 8 (some .int) (rmm 9 0 0) (3 + 1) 0 0 pr_PF_ways po_PF_ways := cv_III (ci := 0) (f := fun k => fun x0 x1 x2 μ => FM μ ∧ (k = 0 ∧ CI μ.2.1)) (g := fun k => fun x0 x1 x2 μ r μ' => (cof (μ.2.1 5 4) (μ.2.1 6 x0.toNatClampNeg) x0 x1 x2 = -1 → r = some (.int (-1)) ∧ μ' = μ) ∧ (¬ cof (μ.2.1 5 4) (μ.2.1 6 x0.toNatClampNeg) x0 x1 x2 = -1 → r = some (.int (wys μ.2.1 μ.2.2.1 x0 (cof (μ.2.1 5 4) (μ.2.1 6 x0.toNatClampNeg) x0 x1 x2) (b2 (¬ ub (μ.2.2.1 7 x0.toNatClampNeg) (cof (μ.2.1 5 4) (μ.2.1 6 x0.toNatClampNeg) x0 x1 x2) = 0)) 14)) ∧ ∃ ρ, μ' = (131, μ.2.1, up2 μ.2.2.1 103 1 ρ, TT))) fun l k x0 x1 x2 μ hk h => by
  obtain ⟨hm, h⟩ := h
  obtain ⟨M, L, rfl⟩ := hm.e
  refine ky_met (own := R_PF) (ini := 0) (rb := 0) (nE := 131) (cd := k_PF_ways) (C := C_PF_ways) (by decide) rfl (fun h => by cases h) (Nat.le_of_ble_eq_true rfl) ⟨rfl, rfl⟩ (Or.inl ⟨rfl, rfl⟩) rfl rfl (by decide) ok_PF_ways (cs_PF_ways l) rt_PF_ways (fun K hs => ?_)
  obtain ⟨rfl, hc⟩ := h
  have hc : CI M := hc
  refine hs.go [43] 40 _ _ _ _ ⟨rfl, _, rfl, ⟨rfl, ⟨rfl, rfl⟩, rfl, hc.c14⟩, rfl, rfl, ?_⟩
  rintro _ _ ⟨rfl, rfl⟩
  refine ⟨fun h1 => ?_, fun h1 => ⟨rfl, fun z => (by cases z), fun _ => ⟨rfl, rfl⟩, fun z => absurd h1 z⟩⟩
  have h1 : ¬ cof (M 5 4) (M 6 x0.toNatClampNeg) x0 x1 x2 = -1 := h1
  have hx := hc.in14 (cof_in h1).1 (cof_in h1).2
  obtain ⟨c, hc36, hce⟩ := cof_v h1
  have hccl : (cof (M 5 4) (M 6 x0.toNatClampNeg) x0 x1 x2).toNatClampNeg = c := by rw [hce]; exact nI_clamp (n := c) (by omega)
  have loop : ∀ (z : Int32) (d n : Nat), n + d = 14 → z = b2 (¬ ub (L 7 x0.toNatClampNeg) (cof (M 5 4) (M 6 x0.toNatClampNeg) x0 x1 x2) = 0) → ∀ (ρ : Int64) (y7 : Option Value), K 43 [some (.ref 0), some (.int x0), some (.int x1), some (.int x2), some (.int (cof (M 5 4) (M 6 x0.toNatClampNeg) x0 x1 x2)), some (.int (wys M L x0 (cof (M 5 4) (M 6 x0.toNatClampNeg) x0 x1 x2) z n)), some (.int (nI n)), y7] [] (131, M, up2 L 103 1 ρ, TT) := by
    intro z d
    induction d with
    | zero =>
      intro n hn hz ρ y7
      rw [show n = 14 by omega]
      exact hs.go [43] 60 _ _ _ _ ⟨fun _ => ⟨rfl, fun z => (by cases z), fun z => absurd z h1, fun _ => ⟨by rw [hz], ρ, rfl⟩⟩, fun z => absurd (Int32.le_refl _) z⟩
    | succ d ih =>
      intro n hn hz ρ y7
      have hn14 : n < 14 := by omega
      have hin : vp_in (nI n) 14 := vp_in_nI hn14 (by decide)
      have hcl : (nI n).toNatClampNeg = n := nI_clamp (n := n) (by omega)
      have hwn := hc.1.1 n hn14
      have no : ∀ ρ', ¬ (¬ M (12 + 6 * n) 4 = 0 ∧ M (13 + 6 * n) 0 = x0) → K 43 [some (.ref 0), some (.int x0), some (.int x1), some (.int x2), some (.int (cof (M 5 4) (M 6 x0.toNatClampNeg) x0 x1 x2)), some (.int (wys M L x0 (cof (M 5 4) (M 6 x0.toNatClampNeg) x0 x1 x2) z n)), some (.int (nI n + 1)), some (.ref (12 + 6 * n))] [] (131, M, up2 L 103 1 ρ', TT) := by
        intro ρ' hb
        have h9 := ih (n + 1) (by omega) hz ρ' (some (.ref (12 + 6 * n)))
        rw [nI_succ] at h9
        simp only [wys, if_neg hb] at h9
        exact h9
      refine hs.go [43] 60 _ _ _ _ ⟨fun z => absurd z (nI_ge (a := n) (b := 14) (by omega) (by decide)), fun _ => ⟨rfl, _, rfl, rfl, _, rfl, rfl, hin, 12 + 6 * n, by show TT 11 _ = _; rw [hcl]; rfl, ioR hn14, fun hb => no ρ (fun z => z.1 hb), fun hb => ⟨ioR hn14, _, TTh n hn14, ioH hn14, fun hb2 => no ρ (fun z => hb2 z.2), fun hb2 => ⟨rfl, _, rfl, rfl, _, rfl, ⟨rfl, ⟨rfl, rfl⟩, rfl, rfl, hc.2.1, n, c, hn14, rfl, hwn, hc36, hce⟩, rfl, rfl, ?_⟩⟩⟩⟩
      intro r μ' hq
      obtain ⟨q1, ρ', q2⟩ := hq n c hn14 rfl hc36 hce
      have g1 : r = some (.int (cin M L n (cof (M 5 4) (M 6 x0.toNatClampNeg) x0 x1 x2).toNatClampNeg)) := by
        refine q1.trans ?_
        show some (Value.int (cin M (up2 L 103 1 ρ) n c)) = _
        rw [cin_cg hn14 hwn, hccl]
      have g2 : μ' = (131, M, up2 L 103 1 ρ', TT) := by
        refine q2.trans ?_
        show (131, M, up2 (up2 L 103 1 ρ) 103 1 ρ', TT) = _
        rw [up2_up2]
      rw [g1, g2]
      have h9 := ih (n + 1) (by omega) hz ρ' (some (.ref (12 + 6 * n)))
      rw [nI_succ] at h9
      simp only [wys, if_pos (show ¬ M (12 + 6 * n) 4 = 0 ∧ M (13 + 6 * n) 0 = x0 from ⟨hb, hb2⟩)] at h9
      exact h9
  have fin : ∀ z : Int32, z = b2 (¬ ub (L 7 x0.toNatClampNeg) (cof (M 5 4) (M 6 x0.toNatClampNeg) x0 x1 x2) = 0) → K 43 [some (.ref 0), some (.int x0), some (.int x1), some (.int x2), some (.int (cof (M 5 4) (M 6 x0.toNatClampNeg) x0 x1 x2)), some (.int z), some (.int 0), none] [] (131, M, L, TT) := by
    intro z hz
    have h9 := loop z 14 0 rfl hz (L 103 1) none
    have e : up2 L 103 1 (L 103 1) = L := up2_id
    rw [e] at h9
    exact h9
  refine ⟨rfl, _, rfl, ⟨rfl, ⟨rfl, rfl⟩, rfl, hx⟩, rfl, rfl, ?_⟩
  rintro _ _ ⟨rfl, rfl⟩
  by_cases hb : ub (L 7 x0.toNatClampNeg) (cof (M 5 4) (M 6 x0.toNatClampNeg) x0 x1 x2) = 0
  · rw [show b2 (¬ ub (L 7 x0.toNatClampNeg) (cof (M 5 4) (M 6 x0.toNatClampNeg) x0 x1 x2) = 0) = 0 from b2_f (fun z => z hb)]
    exact ⟨fun _ => fin 0 (b2_f (fun z => z hb)).symm, fun z => absurd rfl z⟩
  · rw [show b2 (¬ ub (L 7 x0.toNatClampNeg) (cof (M 5 4) (M 6 x0.toNatClampNeg) x0 x1 x2) = 0) = 1 from b2_t hb]
    exact ⟨fun z => absurd z (by decide), fun _ => fin 1 (b2_t hb).symm⟩

/-- a statement carried out -/
def cry (μ : Mm) (o x y : Int32) : Option Value × Mm := if o = 0 then (some (.int (b2 (μ.2.1 105 3 < 20))), mkM μ x y) else if o = 1 then (some (.int 1), sI μ 106 x.toNatClampNeg (μ.2.1 106 y.toNatClampNeg)) else if o = 2 then (some (.int (b2 (¬ μ.2.1 106 y.toNatClampNeg = -1))), ldM μ x y 0) else if o = 3 then (some (.int (b2 (¬ μ.2.1 106 x.toNatClampNeg = -1))), stM μ x y 0) else if o = 4 then (some (.int (b2 (¬ μ.2.1 106 y.toNatClampNeg = -1))), ldM μ x y 1) else if o = 5 then (some (.int (b2 (¬ μ.2.1 106 x.toNatClampNeg = -1))), stM μ x y 1) else (some (.int 0), μ)
theorem cry_1 (μ : Mm) (o x y : Int32) : (cry μ o x y).2.1 = μ.1 ∧ ∃ v, (cry μ o x y).1 = some (.int v) ∧ (v = 0 ∨ v = 1) := by
  unfold cry
  split
  · exact ⟨mk_1 _ _ _, _, rfl, b2_01 _⟩
  · split
    · exact ⟨sI_1 _ _ _ _, _, rfl, Or.inr rfl⟩
    · split
      · exact ⟨ld_1 _ _ _ _, _, rfl, b2_01 _⟩
      · split
        · exact ⟨st_1 _ _ _ _, _, rfl, b2_01 _⟩
        · split
          · exact ⟨ld_1 _ _ _ _, _, rfl, b2_01 _⟩
          · split
            · exact ⟨st_1 _ _ _ _, _, rfl, b2_01 _⟩
            · exact ⟨rfl, _, rfl, Or.inl rfl⟩

theorem dn_PF_step : y_PF_step.cls ≠ "java/lang/invoke/MethodHandle" ∧ y_PF_step.cls ≠ "java/lang/invoke/VarHandle" ∧ (parseMethodDescriptor y_PF_step.desc).map (fun d => d.parameters.length) = some 1 := by decide +kernel
abbrev pr_PF_step : List Value → Mm → Prop := preV 0 (fun k => a_I (fun x0 μ => FM μ ∧ (k = 0 ∧ CI μ.2.1)))
abbrev po_PF_step : List Value → Mm → Option Value → Mm → Prop := qV (fun k => b_I (fun x0 μ r μ' => (r, μ') = (if (0 ≤ x0 ∧ x0 < 12) ∧ (0 ≤ μ.2.1 2 x0.toNatClampNeg ∧ μ.2.1 2 x0.toNatClampNeg < 6) then cry μ (μ.2.1 2 x0.toNatClampNeg) (μ.2.1 3 x0.toNatClampNeg) (μ.2.1 4 x0.toNatClampNeg) else (some (.int 0), μ))))
theorem ft_PF_step : ∀ as μ, pr_PF_step as μ → μ.1 + 0 ≤ 131 ∧ cz μ.1 + 0 ≤ cz 131 := hf_S (n := 131) (Nat.le_refl _) (fun as μ h => by
  obtain ⟨k, r, rfl, hk, h⟩ := preV_e h
  obtain ⟨x0, rfl, h⟩ := a_I_e h
  exact h.1.1)
def C_PF_step : Cf := fun id => match id with
  | 0 => trF 1 pr_PF_isLine po_PF_isLine
  | 1 => trF 1 pr_PF_isOperation po_PF_isOperation
  | 2 => trF (3 + 1) pr_RN_carryOut po_RN_carryOut
  | _ => fun _ _ _ => False
set_option maxRecDepth 100000 in
theorem cs_PF_step (l : Launch) : ∀ x ∈ k_PF_step, CS l R_PF b_PF_step 2 (rmm 2 0 0) 131 131 C_PF_step x := fc (CS.no rfl) (fc (CS.S c_PF_isLine wk_PF_isLine wl_PF_113 wt_PF_isLine wi_PF dn_PF_isLine ⟨rfl, rfl⟩ ⟨by decide, by decide⟩ ft_PF_isLine rfl (e_PF_step_1).1) (fc (CS.no rfl) (fc (CS.no rfl) (fc (CS.no rfl) (fc (CS.no rfl) (fc (CS.no rfl) (fc (CS.no rfl) (fc (CS.S c_PF_isOperation wk_PF_isOperation wl_PF_178 wt_PF_isOperation wi_PF dn_PF_isOperation ⟨rfl, rfl⟩ ⟨by decide, by decide⟩ ft_PF_isOperation rfl (e_PF_step_16).1) (fc (CS.no rfl) (fc (CS.no rfl) (fc (CS.no rfl) (fc (CS.no rfl) (fc (CS.no rfl) (fc (CS.no rfl) (fc (CS.no rfl) (fc (CS.no rfl) (fc (CS.no rfl) (fc (CS.no rfl) (fc (CS.no rfl) (fc (CS.no rfl) (fc (CS.no rfl) (fc (CS.no rfl) (fc (CS.no rfl) (fc (CS.no rfl) (fc (CS.no rfl) (fc (CS.no rfl) (fc (CS.no rfl) (fc (CS.no rfl) (fc (CS.V c_RN_carryOut wk_RN_carryOut wl_PF_193 wm_RN_carryOut we_RN_carryOut rfl rfl wi_RN dn_RN_carryOut ⟨rfl, rfl⟩ ⟨by decide, by decide⟩ ft_RN_carryOut rfl (e_PF_step_55).1) (fc (CS.no rfl) (fun _ h => absurd h List.not_mem_nil)))))))))))))))))))))))))))))))
set_option maxRecDepth 100000 in
set_option maxHeartbeats 4000000 in
theorem c_PF_step : Cn y_PF_step b_PF_step 2 (some .boolean) (rmm 2 0 0) (1 + 1) 0 0 pr_PF_step po_PF_step := cv_I (ci := 0) (f := fun k => fun x0 μ => FM μ ∧ (k = 0 ∧ CI μ.2.1)) (g := fun k => fun x0 μ r μ' => (r, μ') = (if (0 ≤ x0 ∧ x0 < 12) ∧ (0 ≤ μ.2.1 2 x0.toNatClampNeg ∧ μ.2.1 2 x0.toNatClampNeg < 6) then cry μ (μ.2.1 2 x0.toNatClampNeg) (μ.2.1 3 x0.toNatClampNeg) (μ.2.1 4 x0.toNatClampNeg) else (some (.int 0), μ))) fun l k x0 μ hk h => by
  obtain ⟨hm, h⟩ := h
  obtain ⟨M, L, rfl⟩ := hm.e
  refine ky_met (own := R_PF) (ini := 0) (rb := 1) (nE := 131) (cd := k_PF_step) (C := C_PF_step) (by decide) rfl (fun h => by cases h) (Nat.le_of_ble_eq_true rfl) ⟨rfl, rfl⟩ (Or.inr (Or.inl ⟨rfl, rfl⟩)) rfl rfl (by decide) ok_PF_step (cs_PF_step l) rt_PF_step (fun K hs => ?_)
  obtain ⟨rfl, hc⟩ := h
  have hc : CI M := hc
  refine hs.go [] 60 _ _ _ _ ⟨⟨⟨rfl, rfl⟩, trivial⟩, rfl, rfl, ?_⟩
  rintro _ _ ⟨rfl, rfl⟩
  by_cases h1 : 0 ≤ x0 ∧ x0 < 12
  · have hx := in_12 h1.1 h1.2
    rw [show b2 (0 ≤ x0 ∧ x0 < 12) = 1 from b2_t h1]
    refine ⟨fun z => absurd z (by decide), fun _ => ⟨rfl, _, rfl, rfl, _, rfl, rfl, hx, ⟨⟨rfl, rfl⟩, trivial⟩, rfl, rfl, ?_⟩⟩
    rintro _ _ ⟨rfl, rfl⟩
    by_cases h2 : 0 ≤ M 2 x0.toNatClampNeg ∧ M 2 x0.toNatClampNeg < 6
    · have hpr := (hc.2.2.2.2.2 x0.toNatClampNeg (cl_lt hx)).resolve_left (fun e => by rw [e] at h2; exact absurd h2.1 (by decide))
      obtain ⟨m, hm, hme⟩ := hc.2.2.2.1
      have hm0 : 0 ≤ M 105 3 := by rw [hme]; exact nI_pos' (n := m) (by omega)
      refine ⟨fun _ => ⟨rfl, _, rfl, rfl, _, rfl, rfl, _, rfl, rfl, hx, rfl, _, rfl, rfl, _, rfl, rfl, hx, rfl, _, rfl, rfl, _, rfl, rfl, hx, ⟨rfl, ⟨rfl, rfl⟩, rfl, hpr.2.1, hpr.2.2, hm0, hc.2.2.2.2.1⟩, rfl, rfl, ?_⟩, fun z => absurd z (by rw [show b2 (0 ≤ M 2 x0.toNatClampNeg ∧ M 2 x0.toNatClampNeg < 6) = 1 from b2_t h2]; decide)⟩
      intro r μ' hq
      have hq : (r, μ') = cry (131, M, L, TT) (M 2 x0.toNatClampNeg) (M 3 x0.toNatClampNeg) (M 4 x0.toNatClampNeg) := hq
      obtain ⟨f1, v, f2, f3⟩ := cry_1 (131, M, L, TT) (M 2 x0.toNatClampNeg) (M 3 x0.toNatClampNeg) (M 4 x0.toNatClampNeg)
      have e1 : r = some (.int v) := (congrArg Prod.fst hq).trans f2
      have e2 : μ' = (cry (131, M, L, TT) (M 2 x0.toNatClampNeg) (M 3 x0.toNatClampNeg) (M 4 x0.toNatClampNeg)).2 := congrArg Prod.snd hq
      rw [e1, e2]
      refine ⟨f1, fun _ => f3, ?_⟩
      rw [← f2]
      exact (if_pos ⟨h1, h2⟩).symm
    · refine ⟨fun z => absurd (show b2 (0 ≤ M 2 x0.toNatClampNeg ∧ M 2 x0.toNatClampNeg < 6) = 0 from b2_f h2) z, fun _ => ⟨rfl, fun _ => Or.inl rfl, (if_neg (fun z => h2 z.2)).symm⟩⟩
  · rw [show b2 (0 ≤ x0 ∧ x0 < 12) = 0 from b2_f h1]
    exact ⟨fun _ => ⟨rfl, fun _ => Or.inl rfl, (if_neg (fun z => h1 z.1)).symm⟩, fun z => absurd rfl z⟩
