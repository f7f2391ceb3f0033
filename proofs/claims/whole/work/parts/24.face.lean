/-- what holds of the class's own cells between calls -/
def CI (M : mM) : Prop := WM M ∧ VR (M 104) ∧ (∃ n, 9 ≤ n ∧ n ≤ 14 ∧ M 5 4 = nI n) ∧ (∃ m, m ≤ 20 ∧ M 105 3 = nI m) ∧ (∀ j, j < 6 → hok (M 106 j)) ∧ (∀ l, l < 12 → M 2 l = -1 ∨ (vp_in (M 2 l) 6 ∧ vp_in (M 3 l) 6 ∧ vp_in (M 4 l) 6))
theorem CI.c14 {M : mM} (h : CI M) : M 5 4 ≤ 14 := by
  obtain ⟨n, -, hn, e⟩ := h.2.2.1
  rw [e]
  exact nI_le (a := n) (b := 14) hn (by decide)
theorem CI.in14 {M : mM} (h : CI M) {x : Int32} (h0 : 0 ≤ x) (h1 : x < M 5 4) : vp_in x 14 := in_lt h0 (Int32.lt_of_lt_of_le h1 h.c14)
def folM (M : mM) (L : mL) (x : Int32) (ρ : Int64) : Mm := (131, up2 M 0 5 (cch (upr (upr L 9 (L 8)) 8 (fll M L x)) 14), up2 (upr (upr L 9 (L 8)) 8 (fll M L x)) 103 1 ρ, TT)
theorem in_6 {x : Int32} (h1 : 0 ≤ x) (h2 : x < 6) : vp_in x 6 := by
  rw [vp_in_iff]
  have e1 := Int32.le_iff_toInt_le.mp h1
  have e2 := Int32.lt_iff_toInt_lt.mp h2
  have e3 : (0 : Int32).toInt = 0 := rfl
  have e4 : (6 : Int32).toInt = 6 := rfl
  omega
theorem in_12 {x : Int32} (h1 : 0 ≤ x) (h2 : x < 12) : vp_in x 12 := by
  rw [vp_in_iff]
  have e1 := Int32.le_iff_toInt_le.mp h1
  have e2 := Int32.lt_iff_toInt_lt.mp h2
  have e3 : (0 : Int32).toInt = 0 := rfl
  have e4 : (12 : Int32).toInt = 12 := rfl
  omega
theorem out_6 {x : Int32} (h : vp_in x 6) : 0 ≤ x ∧ x < 6 := by
  obtain ⟨j, hj, rfl⟩ := vp_in_of h (by decide)
  exact ⟨nI_pos' (n := j) (by omega), nI_lt (a := j) (b := 6) hj (by decide)⟩

theorem dn_PF_changes : y_PF_changes.cls ≠ "java/lang/invoke/MethodHandle" ∧ y_PF_changes.cls ≠ "java/lang/invoke/VarHandle" ∧ (parseMethodDescriptor y_PF_changes.desc).map (fun d => d.parameters.length) = some 0 := by decide +kernel
abbrev pr_PF_changes : List Value → Mm → Prop := preV 0 (fun k => a_0 (fun μ => FM μ ∧ (k = 0 ∧ CI μ.2.1)))
abbrev po_PF_changes : List Value → Mm → Option Value → Mm → Prop := qV (fun k => b_0 (fun μ r μ' => r = some (.int (μ.2.1 0 5)) ∧ μ' = μ))
theorem ft_PF_changes : ∀ as μ, pr_PF_changes as μ → μ.1 + 0 ≤ 131 ∧ cz μ.1 + 0 ≤ cz 131 := hf_S (n := 131) (Nat.le_refl _) (fun as μ h => by
  obtain ⟨k, r, rfl, hk, h⟩ := preV_e h
  obtain ⟨rfl, h⟩ := a_0_e h
  exact h.1.1)
theorem nc_PF_changes : ∀ x ∈ k_PF_changes, isInv x.2.1 = false := by decide +kernel
set_option maxRecDepth 100000 in
set_option maxHeartbeats 4000000 in
theorem c_PF_changes : Cn y_PF_changes b_PF_changes 1 (some .int) (rmm 0 0 0) (0 + 1) 0 0 pr_PF_changes po_PF_changes := cv_0 (ci := 0) (f := fun k => fun μ => FM μ ∧ (k = 0 ∧ CI μ.2.1)) (g := fun k => fun μ r μ' => r = some (.int (μ.2.1 0 5)) ∧ μ' = μ) fun l k  μ hk h => by
  obtain ⟨hm, h⟩ := h
  obtain ⟨M, L, rfl⟩ := hm.e
  refine ky_met (own := R_PF) (ini := 0) (rb := 0) (nE := 131) (cd := k_PF_changes) (C := (fun _ _ _ _ => False)) (by decide) rfl (fun h => by cases h) (Nat.le_of_ble_eq_true rfl) ⟨rfl, rfl⟩ (Or.inl ⟨rfl, rfl⟩) rfl rfl (by decide) ok_PF_changes (fun x hx => CS.no (nc_PF_changes x hx)) rt_PF_changes (fun K hs => ?_)
  obtain ⟨rfl, hc⟩ := h
  exact hs.go [] 30 _ _ _ _ ⟨rfl, rfl, fun z => (by cases z), rfl, rfl⟩

theorem dn_PF_objects : y_PF_objects.cls ≠ "java/lang/invoke/MethodHandle" ∧ y_PF_objects.cls ≠ "java/lang/invoke/VarHandle" ∧ (parseMethodDescriptor y_PF_objects.desc).map (fun d => d.parameters.length) = some 0 := by decide +kernel
abbrev pr_PF_objects : List Value → Mm → Prop := preV 0 (fun k => a_0 (fun μ => FM μ ∧ (k = 0 ∧ CI μ.2.1)))
abbrev po_PF_objects : List Value → Mm → Option Value → Mm → Prop := qV (fun k => b_0 (fun μ r μ' => r = some (.int (μ.2.1 105 3)) ∧ μ' = μ))
theorem ft_PF_objects : ∀ as μ, pr_PF_objects as μ → μ.1 + 0 ≤ 131 ∧ cz μ.1 + 0 ≤ cz 131 := hf_S (n := 131) (Nat.le_refl _) (fun as μ h => by
  obtain ⟨k, r, rfl, hk, h⟩ := preV_e h
  obtain ⟨rfl, h⟩ := a_0_e h
  exact h.1.1)
theorem nc_PF_objects : ∀ x ∈ k_PF_objects, isInv x.2.1 = false := by decide +kernel
set_option maxRecDepth 100000 in
set_option maxHeartbeats 4000000 in
theorem c_PF_objects : Cn y_PF_objects b_PF_objects 1 (some .int) (rmm 0 0 0) (0 + 1) 0 0 pr_PF_objects po_PF_objects := cv_0 (ci := 0) (f := fun k => fun μ => FM μ ∧ (k = 0 ∧ CI μ.2.1)) (g := fun k => fun μ r μ' => r = some (.int (μ.2.1 105 3)) ∧ μ' = μ) fun l k  μ hk h => by
  obtain ⟨hm, h⟩ := h
  obtain ⟨M, L, rfl⟩ := hm.e
  refine ky_met (own := R_PF) (ini := 0) (rb := 0) (nE := 131) (cd := k_PF_objects) (C := (fun _ _ _ _ => False)) (by decide) rfl (fun h => by cases h) (Nat.le_of_ble_eq_true rfl) ⟨rfl, rfl⟩ (Or.inl ⟨rfl, rfl⟩) rfl rfl (by decide) ok_PF_objects (fun x hx => CS.no (nc_PF_objects x hx)) rt_PF_objects (fun K hs => ?_)
  obtain ⟨rfl, hc⟩ := h
  exact hs.go [] 30 _ _ _ _ ⟨rfl, _, rfl, rfl, rfl, fun z => (by cases z), rfl, rfl⟩

theorem dn_PF_site : y_PF_site.cls ≠ "java/lang/invoke/MethodHandle" ∧ y_PF_site.cls ≠ "java/lang/invoke/VarHandle" ∧ (parseMethodDescriptor y_PF_site.desc).map (fun d => d.parameters.length) = some 1 := by decide +kernel
abbrev pr_PF_site : List Value → Mm → Prop := preV 0 (fun k => a_I (fun x0 μ => FM μ ∧ (k = 0 ∧ CI μ.2.1)))
abbrev po_PF_site : List Value → Mm → Option Value → Mm → Prop := qV (fun k => b_I (fun x0 μ r μ' => r = some (.int (if 0 ≤ x0 ∧ x0 < 6 then (if μ.2.1 106 x0.toNatClampNeg = -1 then -1 else μ.2.1 107 (μ.2.1 106 x0.toNatClampNeg).toNatClampNeg) else -1)) ∧ μ' = μ))
theorem ft_PF_site : ∀ as μ, pr_PF_site as μ → μ.1 + 0 ≤ 131 ∧ cz μ.1 + 0 ≤ cz 131 := hf_S (n := 131) (Nat.le_refl _) (fun as μ h => by
  obtain ⟨k, r, rfl, hk, h⟩ := preV_e h
  obtain ⟨x0, rfl, h⟩ := a_I_e h
  exact h.1.1)
def C_PF_site : Cf := fun id => match id with
  | 0 => trF 1 pr_PF_isValue po_PF_isValue
  | 1 => trF (1 + 1) pr_RN_siteHeldBy po_RN_siteHeldBy
  | _ => fun _ _ _ => False
set_option maxRecDepth 100000 in
theorem cs_PF_site (l : Launch) : ∀ x ∈ k_PF_site, CS l R_PF b_PF_site 2 (rmm 1 0 0) 131 131 C_PF_site x := fc (CS.no rfl) (fc (CS.S c_PF_isValue wk_PF_isValue wl_PF_116 wt_PF_isValue wi_PF dn_PF_isValue ⟨rfl, rfl⟩ ⟨by decide, by decide⟩ ft_PF_isValue rfl (e_PF_site_1).1) (fc (CS.no rfl) (fc (CS.no rfl) (fc (CS.no rfl) (fc (CS.no rfl) (fc (CS.V c_RN_siteHeldBy wk_RN_siteHeldBy wl_PF_197 wm_RN_siteHeldBy we_RN_siteHeldBy rfl rfl wi_RN dn_RN_siteHeldBy ⟨rfl, rfl⟩ ⟨by decide, by decide⟩ ft_RN_siteHeldBy rfl (e_PF_site_12).1) (fc (CS.no rfl) (fc (CS.no rfl) (fc (CS.no rfl) (fun _ h => absurd h List.not_mem_nil))))))))))
set_option maxRecDepth 100000 in
set_option maxHeartbeats 4000000 in
theorem c_PF_site : Cn y_PF_site b_PF_site 2 (some .int) (rmm 1 0 0) (1 + 1) 0 0 pr_PF_site po_PF_site := cv_I (ci := 0) (f := fun k => fun x0 μ => FM μ ∧ (k = 0 ∧ CI μ.2.1)) (g := fun k => fun x0 μ r μ' => r = some (.int (if 0 ≤ x0 ∧ x0 < 6 then (if μ.2.1 106 x0.toNatClampNeg = -1 then -1 else μ.2.1 107 (μ.2.1 106 x0.toNatClampNeg).toNatClampNeg) else -1)) ∧ μ' = μ) fun l k x0 μ hk h => by
  obtain ⟨hm, h⟩ := h
  obtain ⟨M, L, rfl⟩ := hm.e
  refine ky_met (own := R_PF) (ini := 0) (rb := 0) (nE := 131) (cd := k_PF_site) (C := C_PF_site) (by decide) rfl (fun h => by cases h) (Nat.le_of_ble_eq_true rfl) ⟨rfl, rfl⟩ (Or.inl ⟨rfl, rfl⟩) rfl rfl (by decide) ok_PF_site (cs_PF_site l) rt_PF_site (fun K hs => ?_)
  obtain ⟨rfl, hc⟩ := h
  have hc : CI M := hc
  refine hs.go [] 30 _ _ _ _ ⟨⟨⟨rfl, rfl⟩, trivial⟩, rfl, rfl, ?_⟩
  rintro _ _ ⟨rfl, rfl⟩
  by_cases h1 : 0 ≤ x0 ∧ x0 < 6
  · rw [show b2 (0 ≤ x0 ∧ x0 < 6) = 1 from b2_t h1]
    have hx := in_6 h1.1 h1.2
    refine ⟨fun z => absurd z (by decide), fun _ => ⟨rfl, _, rfl, ⟨rfl, ⟨rfl, rfl⟩, rfl, hx, hc.2.2.2.2.1 _ (cl_lt hx)⟩, rfl, rfl, ?_⟩⟩
    rintro _ _ ⟨rfl, rfl⟩
    exact ⟨rfl, fun z => (by cases z), congrArg (fun v => some (Value.int v)) (if_pos h1).symm, rfl⟩
  · rw [show b2 (0 ≤ x0 ∧ x0 < 6) = 0 from b2_f h1]
    exact ⟨fun _ => ⟨rfl, fun z => (by cases z), congrArg (fun v => some (Value.int v)) (if_neg h1).symm, rfl⟩, fun z => absurd rfl z⟩

theorem dn_PF_line : y_PF_line.cls ≠ "java/lang/invoke/MethodHandle" ∧ y_PF_line.cls ≠ "java/lang/invoke/VarHandle" ∧ (parseMethodDescriptor y_PF_line.desc).map (fun d => d.parameters.length) = some 3 := by decide +kernel
abbrev pr_PF_line : List Value → Mm → Prop := preV 0 (fun k => a_III (fun x0 x1 x2 μ => FM μ ∧ (k = 0 ∧ CI μ.2.1)))
abbrev po_PF_line : List Value → Mm → Option Value → Mm → Prop := qV (fun k => b_III (fun x0 x1 x2 μ r μ' => r = some (.int (if 0 ≤ x0 ∧ x0 < 6 then ll μ.2.1 x0 x1 x2 12 0 else -1)) ∧ μ' = μ))
theorem ft_PF_line : ∀ as μ, pr_PF_line as μ → μ.1 + 0 ≤ 131 ∧ cz μ.1 + 0 ≤ cz 131 := hf_S (n := 131) (Nat.le_refl _) (fun as μ h => by
  obtain ⟨k, r, rfl, hk, h⟩ := preV_e h
  obtain ⟨x0, x1, x2, rfl, h⟩ := a_III_e h
  exact h.1.1)
def C_PF_line : Cf := fun id => match id with
  | 0 => trF 1 pr_PF_isOperation po_PF_isOperation
  | 1 => trF (3 + 1) pr_PG_leastLine po_PG_leastLine
  | _ => fun _ _ _ => False
set_option maxRecDepth 100000 in
theorem cs_PF_line (l : Launch) : ∀ x ∈ k_PF_line, CS l R_PF b_PF_line 4 (rmm 1 0 0) 131 131 C_PF_line x := fc (CS.no rfl) (fc (CS.S c_PF_isOperation wk_PF_isOperation wl_PF_178 wt_PF_isOperation wi_PF dn_PF_isOperation ⟨rfl, rfl⟩ ⟨by decide, by decide⟩ ft_PF_isOperation rfl (e_PF_line_1).1) (fc (CS.no rfl) (fc (CS.no rfl) (fc (CS.no rfl) (fc (CS.no rfl) (fc (CS.no rfl) (fc (CS.no rfl) (fc (CS.V c_PG_leastLine wk_PG_leastLine wl_PF_181 wm_PG_leastLine we_PG_leastLine rfl rfl wi_PG dn_PG_leastLine ⟨rfl, rfl⟩ ⟨by decide, by decide⟩ ft_PG_leastLine rfl (e_PF_line_14).1) (fc (CS.no rfl) (fc (CS.no rfl) (fc (CS.no rfl) (fun _ h => absurd h List.not_mem_nil))))))))))))
set_option maxRecDepth 100000 in
set_option maxHeartbeats 4000000 in
theorem c_PF_line : Cn y_PF_line b_PF_line 4 (some .int) (rmm 1 0 0) (3 + 1) 0 0 pr_PF_line po_PF_line := cv_III (ci := 0) (f := fun k => fun x0 x1 x2 μ => FM μ ∧ (k = 0 ∧ CI μ.2.1)) (g := fun k => fun x0 x1 x2 μ r μ' => r = some (.int (if 0 ≤ x0 ∧ x0 < 6 then ll μ.2.1 x0 x1 x2 12 0 else -1)) ∧ μ' = μ) fun l k x0 x1 x2 μ hk h => by
  obtain ⟨hm, h⟩ := h
  obtain ⟨M, L, rfl⟩ := hm.e
  refine ky_met (own := R_PF) (ini := 0) (rb := 0) (nE := 131) (cd := k_PF_line) (C := C_PF_line) (by decide) rfl (fun h => by cases h) (Nat.le_of_ble_eq_true rfl) ⟨rfl, rfl⟩ (Or.inl ⟨rfl, rfl⟩) rfl rfl (by decide) ok_PF_line (cs_PF_line l) rt_PF_line (fun K hs => ?_)
  obtain ⟨rfl, hc⟩ := h
  refine hs.go [] 30 _ _ _ _ ⟨⟨⟨rfl, rfl⟩, trivial⟩, rfl, rfl, ?_⟩
  rintro _ _ ⟨rfl, rfl⟩
  by_cases h1 : 0 ≤ x0 ∧ x0 < 6
  · rw [show b2 (0 ≤ x0 ∧ x0 < 6) = 1 from b2_t h1]
    refine ⟨fun z => absurd z (by decide), fun _ => ⟨rfl, _, rfl, ⟨rfl, ⟨rfl, rfl⟩, rfl⟩, rfl, rfl, ?_⟩⟩
    rintro _ _ ⟨rfl, rfl⟩
    exact ⟨rfl, fun z => (by cases z), congrArg (fun v => some (Value.int v)) (if_pos h1).symm, rfl⟩
  · rw [show b2 (0 ≤ x0 ∧ x0 < 6) = 0 from b2_f h1]
    exact ⟨fun _ => ⟨rfl, fun z => (by cases z), congrArg (fun v => some (Value.int v)) (if_neg h1).symm, rfl⟩, fun z => absurd rfl z⟩

theorem dn_PF_stratum : y_PF_stratum.cls ≠ "java/lang/invoke/MethodHandle" ∧ y_PF_stratum.cls ≠ "java/lang/invoke/VarHandle" ∧ (parseMethodDescriptor y_PF_stratum.desc).map (fun d => d.parameters.length) = some 1 := by decide +kernel
abbrev pr_PF_stratum : List Value → Mm → Prop := preV 0 (fun k => a_I (fun x0 μ => FM μ ∧ (k = 0 ∧ CI μ.2.1)))
abbrev po_PF_stratum : List Value → Mm → Option Value → Mm → Prop := qV (fun k => b_I (fun x0 μ r μ' => r = some (.int (if 0 ≤ x0 ∧ x0 < μ.2.1 5 4 then μ.2.1 96 x0.toNatClampNeg else -1)) ∧ μ' = μ))
theorem ft_PF_stratum : ∀ as μ, pr_PF_stratum as μ → μ.1 + 0 ≤ 131 ∧ cz μ.1 + 0 ≤ cz 131 := hf_S (n := 131) (Nat.le_refl _) (fun as μ h => by
  obtain ⟨k, r, rfl, hk, h⟩ := preV_e h
  obtain ⟨x0, rfl, h⟩ := a_I_e h
  exact h.1.1)
def C_PF_stratum : Cf := fun id => match id with
  | 0 => trF (1 + 1) pr_RS_isThere po_RS_isThere
  | _ => fun _ _ _ => False
set_option maxRecDepth 100000 in
theorem cs_PF_stratum (l : Launch) : ∀ x ∈ k_PF_stratum, CS l R_PF b_PF_stratum 2 (rmm 1 0 0) 131 131 C_PF_stratum x := fc (CS.no rfl) (fc (CS.no rfl) (fc (CS.no rfl) (fc (CS.V c_RS_isThere wk_RS_isThere wl_PF_81 wm_RS_isThere we_RS_isThere rfl rfl wi_RS dn_RS_isThere ⟨rfl, rfl⟩ ⟨by decide, by decide⟩ ft_RS_isThere rfl (e_PF_stratum_5).1) (fc (CS.no rfl) (fc (CS.no rfl) (fc (CS.no rfl) (fc (CS.no rfl) (fc (CS.no rfl) (fc (CS.no rfl) (fc (CS.no rfl) (fc (CS.no rfl) (fc (CS.no rfl) (fun _ h => absurd h List.not_mem_nil)))))))))))))
set_option maxRecDepth 100000 in
set_option maxHeartbeats 4000000 in
theorem c_PF_stratum : Cn y_PF_stratum b_PF_stratum 2 (some .int) (rmm 1 0 0) (1 + 1) 0 0 pr_PF_stratum po_PF_stratum := cv_I (ci := 0) (f := fun k => fun x0 μ => FM μ ∧ (k = 0 ∧ CI μ.2.1)) (g := fun k => fun x0 μ r μ' => r = some (.int (if 0 ≤ x0 ∧ x0 < μ.2.1 5 4 then μ.2.1 96 x0.toNatClampNeg else -1)) ∧ μ' = μ) fun l k x0 μ hk h => by
  obtain ⟨hm, h⟩ := h
  obtain ⟨M, L, rfl⟩ := hm.e
  refine ky_met (own := R_PF) (ini := 0) (rb := 0) (nE := 131) (cd := k_PF_stratum) (C := C_PF_stratum) (by decide) rfl (fun h => by cases h) (Nat.le_of_ble_eq_true rfl) ⟨rfl, rfl⟩ (Or.inl ⟨rfl, rfl⟩) rfl rfl (by decide) ok_PF_stratum (cs_PF_stratum l) rt_PF_stratum (fun K hs => ?_)
  obtain ⟨rfl, hc⟩ := h
  have hc : CI M := hc
  refine hs.go [] 40 _ _ _ _ ⟨rfl, _, rfl, ⟨rfl, ⟨rfl, rfl⟩, rfl⟩, rfl, rfl, ?_⟩
  rintro _ _ ⟨rfl, rfl⟩
  by_cases h1 : 0 ≤ x0 ∧ x0 < M 5 4
  · have hx := hc.in14 h1.1 h1.2
    rw [show b2 (0 ≤ x0 ∧ x0 < M 5 4) = 1 from b2_t h1]
    exact ⟨fun z => absurd z (by decide), fun _ => ⟨rfl, _, rfl, rfl, _, rfl, rfl, hx, rfl, fun z => (by cases z), congrArg (fun v => some (Value.int v)) (if_pos h1).symm, rfl⟩⟩
  · rw [show b2 (0 ≤ x0 ∧ x0 < M 5 4) = 0 from b2_f h1]
    exact ⟨fun _ => ⟨rfl, fun z => (by cases z), congrArg (fun v => some (Value.int v)) (if_neg h1).symm, rfl⟩, fun z => absurd rfl z⟩

theorem dn_PF_size : y_PF_size.cls ≠ "java/lang/invoke/MethodHandle" ∧ y_PF_size.cls ≠ "java/lang/invoke/VarHandle" ∧ (parseMethodDescriptor y_PF_size.desc).map (fun d => d.parameters.length) = some 1 := by decide +kernel
abbrev pr_PF_size : List Value → Mm → Prop := preV 0 (fun k => a_I (fun x0 μ => FM μ ∧ (k = 0 ∧ CI μ.2.1)))
abbrev po_PF_size : List Value → Mm → Option Value → Mm → Prop := qV (fun k => b_I (fun x0 μ r μ' => r = some (.int (if 0 ≤ x0 ∧ x0 < μ.2.1 5 4 then bc (μ.2.2.1 8 x0.toNatClampNeg) else -1)) ∧ μ' = μ))
theorem ft_PF_size : ∀ as μ, pr_PF_size as μ → μ.1 + 0 ≤ 131 ∧ cz μ.1 + 0 ≤ cz 131 := hf_S (n := 131) (Nat.le_refl _) (fun as μ h => by
  obtain ⟨k, r, rfl, hk, h⟩ := preV_e h
  obtain ⟨x0, rfl, h⟩ := a_I_e h
  exact h.1.1)
def C_PF_size : Cf := fun id => match id with
  | 0 => trF (1 + 1) pr_RS_isThere po_RS_isThere
  | 1 => trF 1 pr_LG_bitCount po_LG_bitCount
  | _ => fun _ _ _ => False
set_option maxRecDepth 100000 in
theorem cs_PF_size (l : Launch) : ∀ x ∈ k_PF_size, CS l R_PF b_PF_size 2 (rmm 1 0 0) 131 131 C_PF_size x := fc (CS.no rfl) (fc (CS.no rfl) (fc (CS.no rfl) (fc (CS.V c_RS_isThere wk_RS_isThere wl_PF_81 wm_RS_isThere we_RS_isThere rfl rfl wi_RS dn_RS_isThere ⟨rfl, rfl⟩ ⟨by decide, by decide⟩ ft_RS_isThere rfl (e_PF_size_5).1) (fc (CS.no rfl) (fc (CS.no rfl) (fc (CS.no rfl) (fc (CS.no rfl) (fc (CS.no rfl) (fc (CS.no rfl) (fc (CS.S c_LG_bitCount wk_LG_bitCount wl_PF_139 wt_LG_bitCount wi_LG dn_LG_bitCount ⟨rfl, rfl⟩ ⟨by decide, by decide⟩ ft_LG_bitCount rfl (e_PF_size_20).1) (fc (CS.no rfl) (fc (CS.no rfl) (fc (CS.no rfl) (fun _ h => absurd h List.not_mem_nil))))))))))))))
set_option maxRecDepth 100000 in
set_option maxHeartbeats 4000000 in
theorem c_PF_size : Cn y_PF_size b_PF_size 2 (some .int) (rmm 1 0 0) (1 + 1) 0 0 pr_PF_size po_PF_size := cv_I (ci := 0) (f := fun k => fun x0 μ => FM μ ∧ (k = 0 ∧ CI μ.2.1)) (g := fun k => fun x0 μ r μ' => r = some (.int (if 0 ≤ x0 ∧ x0 < μ.2.1 5 4 then bc (μ.2.2.1 8 x0.toNatClampNeg) else -1)) ∧ μ' = μ) fun l k x0 μ hk h => by
  obtain ⟨hm, h⟩ := h
  obtain ⟨M, L, rfl⟩ := hm.e
  refine ky_met (own := R_PF) (ini := 0) (rb := 0) (nE := 131) (cd := k_PF_size) (C := C_PF_size) (by decide) rfl (fun h => by cases h) (Nat.le_of_ble_eq_true rfl) ⟨rfl, rfl⟩ (Or.inl ⟨rfl, rfl⟩) rfl rfl (by decide) ok_PF_size (cs_PF_size l) rt_PF_size (fun K hs => ?_)
  obtain ⟨rfl, hc⟩ := h
  have hc : CI M := hc
  refine hs.go [] 40 _ _ _ _ ⟨rfl, _, rfl, ⟨rfl, ⟨rfl, rfl⟩, rfl⟩, rfl, rfl, ?_⟩
  rintro _ _ ⟨rfl, rfl⟩
  by_cases h1 : 0 ≤ x0 ∧ x0 < M 5 4
  · have hx := hc.in14 h1.1 h1.2
    rw [show b2 (0 ≤ x0 ∧ x0 < M 5 4) = 1 from b2_t h1]
    refine ⟨fun z => absurd z (by decide), fun _ => ⟨rfl, _, rfl, rfl, _, rfl, rfl, hx, ⟨⟨rfl, rfl⟩, trivial⟩, rfl, rfl, ?_⟩⟩
    rintro _ _ ⟨rfl, rfl⟩
    exact ⟨rfl, fun z => (by cases z), congrArg (fun v => some (Value.int v)) (if_pos h1).symm, rfl⟩
  · rw [show b2 (0 ≤ x0 ∧ x0 < M 5 4) = 0 from b2_f h1]
    exact ⟨fun _ => ⟨rfl, fun z => (by cases z), congrArg (fun v => some (Value.int v)) (if_neg h1).symm, rfl⟩, fun z => absurd rfl z⟩

def tpl (M : mM) (x0 v : Int32) : Int32 := if v = -1 then -1 else if M 6 x0.toNatClampNeg = 1 then v / 6 else 10 * (v / 6) + (v - v / 6 * 6)

theorem dn_PF_tuple : y_PF_tuple.cls ≠ "java/lang/invoke/MethodHandle" ∧ y_PF_tuple.cls ≠ "java/lang/invoke/VarHandle" ∧ (parseMethodDescriptor y_PF_tuple.desc).map (fun d => d.parameters.length) = some 2 := by decide +kernel
abbrev pr_PF_tuple : List Value → Mm → Prop := preV 0 (fun k => a_II (fun x0 x1 μ => FM μ ∧ (k = 0 ∧ CI μ.2.1)))
abbrev po_PF_tuple : List Value → Mm → Option Value → Mm → Prop := qV (fun k => b_II (fun x0 x1 μ r μ' => r = some (.int (if (0 ≤ x0 ∧ x0 < μ.2.1 5 4) ∧ 0 ≤ x1 then tpl μ.2.1 x0 (ca (μ.2.2.1 8 x0.toNatClampNeg) 36 0 x1) else -1)) ∧ μ' = μ))
theorem ft_PF_tuple : ∀ as μ, pr_PF_tuple as μ → μ.1 + 0 ≤ 131 ∧ cz μ.1 + 0 ≤ cz 131 := hf_S (n := 131) (Nat.le_refl _) (fun as μ h => by
  obtain ⟨k, r, rfl, hk, h⟩ := preV_e h
  obtain ⟨x0, x1, rfl, h⟩ := a_II_e h
  exact h.1.1)
def C_PF_tuple : Cf := fun id => match id with
  | 0 => trF (1 + 1) pr_RS_isThere po_RS_isThere
  | 1 => trF (2 + 1) pr_RS_cellAt po_RS_cellAt
  | _ => fun _ _ _ => False
set_option maxRecDepth 100000 in
theorem cs_PF_tuple (l : Launch) : ∀ x ∈ k_PF_tuple, CS l R_PF b_PF_tuple 5 (rmm 2 0 0) 131 131 C_PF_tuple x := fc (CS.no rfl) (fc (CS.no rfl) (fc (CS.no rfl) (fc (CS.V c_RS_isThere wk_RS_isThere wl_PF_81 wm_RS_isThere we_RS_isThere rfl rfl wi_RS dn_RS_isThere ⟨rfl, rfl⟩ ⟨by decide, by decide⟩ ft_RS_isThere rfl (e_PF_tuple_5).1) (fc (CS.no rfl) (fc (CS.no rfl) (fc (CS.no rfl) (fc (CS.no rfl) (fc (CS.no rfl) (fc (CS.no rfl) (fc (CS.no rfl) (fc (CS.V c_RS_cellAt wk_RS_cellAt wl_PF_145 wm_RS_cellAt we_RS_cellAt rfl rfl wi_RS dn_RS_cellAt ⟨rfl, rfl⟩ ⟨by decide, by decide⟩ ft_RS_cellAt rfl (e_PF_tuple_21).1) (fc (CS.no rfl) (fc (CS.no rfl) (fc (CS.no rfl) (fc (CS.no rfl) (fc (CS.no rfl) (fc (CS.no rfl) (fc (CS.no rfl) (fc (CS.no rfl) (fc (CS.no rfl) (fc (CS.no rfl) (fc (CS.no rfl) (fc (CS.no rfl) (fc (CS.no rfl) (fc (CS.no rfl) (fc (CS.no rfl) (fc (CS.no rfl) (fc (CS.no rfl) (fc (CS.no rfl) (fc (CS.no rfl) (fc (CS.no rfl) (fc (CS.no rfl) (fc (CS.no rfl) (fc (CS.no rfl) (fc (CS.no rfl) (fc (CS.no rfl) (fc (CS.no rfl) (fc (CS.no rfl) (fc (CS.no rfl) (fc (CS.no rfl) (fun _ h => absurd h List.not_mem_nil)))))))))))))))))))))))))))))))))))))))))
set_option maxRecDepth 100000 in
set_option maxHeartbeats 4000000 in
theorem c_PF_tuple : Cn y_PF_tuple b_PF_tuple 5 (some .int) (rmm 2 0 0) (2 + 1) 0 0 pr_PF_tuple po_PF_tuple := cv_II (ci := 0) (f := fun k => fun x0 x1 μ => FM μ ∧ (k = 0 ∧ CI μ.2.1)) (g := fun k => fun x0 x1 μ r μ' => r = some (.int (if (0 ≤ x0 ∧ x0 < μ.2.1 5 4) ∧ 0 ≤ x1 then tpl μ.2.1 x0 (ca (μ.2.2.1 8 x0.toNatClampNeg) 36 0 x1) else -1)) ∧ μ' = μ) fun l k x0 x1 μ hk h => by
  obtain ⟨hm, h⟩ := h
  obtain ⟨M, L, rfl⟩ := hm.e
  refine ky_met (own := R_PF) (ini := 0) (rb := 0) (nE := 131) (cd := k_PF_tuple) (C := C_PF_tuple) (by decide) rfl (fun h => by cases h) (Nat.le_of_ble_eq_true rfl) ⟨rfl, rfl⟩ (Or.inl ⟨rfl, rfl⟩) rfl rfl (by decide) ok_PF_tuple (cs_PF_tuple l) rt_PF_tuple (fun K hs => ?_)
  obtain ⟨rfl, hc⟩ := h
  have hc : CI M := hc
  refine hs.go [28] 40 _ _ _ _ ⟨rfl, _, rfl, ⟨rfl, ⟨rfl, rfl⟩, rfl⟩, rfl, rfl, ?_⟩
  rintro _ _ ⟨rfl, rfl⟩
  have no : ¬ ((0 ≤ x0 ∧ x0 < M 5 4) ∧ 0 ≤ x1) → K 28 [some (.ref 0), some (.int x0), some (.int x1), none, none] [.int (-1)] (131, M, L, TT) := by
    intro h
    exact hs.go [28] 40 _ _ _ _ ⟨fun z => absurd rfl z, fun _ => ⟨rfl, fun z => (by cases z), congrArg (fun v => some (Value.int v)) (if_neg h).symm, rfl⟩⟩
  by_cases h1 : 0 ≤ x0 ∧ x0 < M 5 4
  · have hx := hc.in14 h1.1 h1.2
    rw [show b2 (0 ≤ x0 ∧ x0 < M 5 4) = 1 from b2_t h1]
    refine ⟨fun z => absurd z (by decide), fun _ => ⟨fun h2 => no (fun z => Int32.not_lt.mpr z.2 h2), fun h2 => ⟨rfl, _, rfl, ⟨rfl, ⟨rfl, rfl⟩, rfl, hx⟩, rfl, rfl, ?_⟩⟩⟩
    rintro _ _ ⟨rfl, rfl⟩
    have hA : (0 ≤ x0 ∧ x0 < M 5 4) ∧ 0 ≤ x1 := ⟨h1, Int32.not_lt.mp h2⟩
    have post : ∀ v : Int32, v = tpl M x0 (ca (L 8 x0.toNatClampNeg) 36 0 x1) → some (Value.int v) = some (Value.int (if (0 ≤ x0 ∧ x0 < M 5 4) ∧ 0 ≤ x1 then tpl M x0 (ca (L 8 x0.toNatClampNeg) 36 0 x1) else -1)) := by
      intro v hv
      rw [hv]
      exact congrArg (fun v => some (Value.int v)) (if_pos hA).symm
    refine hs.go [28] 40 _ _ _ _ ⟨fun h3 => ⟨(by decide), rfl, _, rfl, rfl, _, rfl, rfl, hx, fun h4 => ⟨(by decide), rfl, fun z => (by cases z), post _ ?_, rfl⟩, fun h4 => ⟨rfl, fun z => (by cases z), post _ ?_, rfl⟩⟩, fun h3 => ⟨rfl, fun z => (by cases z), post _ ?_, rfl⟩⟩
    · exact ((if_neg h3).trans (if_neg h4)).symm
    · exact ((if_neg h3).trans (if_pos h4)).symm
    · exact (if_pos h3).symm
  · rw [show b2 (0 ≤ x0 ∧ x0 < M 5 4) = 0 from b2_f h1]
    exact ⟨fun _ => no (fun z => h1 z.1), fun z => absurd rfl z⟩

theorem dn_PF_relation : y_PF_relation.cls ≠ "java/lang/invoke/MethodHandle" ∧ y_PF_relation.cls ≠ "java/lang/invoke/VarHandle" ∧ (parseMethodDescriptor y_PF_relation.desc).map (fun d => d.parameters.length) = some 1 := by decide +kernel
abbrev pr_PF_relation : List Value → Mm → Prop := preV 0 (fun k => a_I (fun x0 μ => FM μ ∧ (k = 0 ∧ CI μ.2.1)))
abbrev po_PF_relation : List Value → Mm → Option Value → Mm → Prop := qV (fun k => b_I (fun x0 μ r μ' => (r, μ') = (if (x0 = 1 ∨ x0 = 2) ∧ μ.2.1 5 4 < 14 then (some (.int (μ.2.1 5 4 + 1 - 1)), sI (sI μ 6 (μ.2.1 5 4).toNatClampNeg x0) 5 4 (μ.2.1 5 4 + 1)) else (some (.int (-1)), μ))))
theorem ft_PF_relation : ∀ as μ, pr_PF_relation as μ → μ.1 + 0 ≤ 131 ∧ cz μ.1 + 0 ≤ cz 131 := hf_S (n := 131) (Nat.le_refl _) (fun as μ h => by
  obtain ⟨k, r, rfl, hk, h⟩ := preV_e h
  obtain ⟨x0, rfl, h⟩ := a_I_e h
  exact h.1.1)
def C_PF_relation : Cf := fun id => match id with
  | 0 => trF (1 + 1) pr_RS_add po_RS_add
  | _ => fun _ _ _ => False
set_option maxRecDepth 100000 in
theorem cs_PF_relation (l : Launch) : ∀ x ∈ k_PF_relation, CS l R_PF b_PF_relation 3 (rmm 1 0 0) 131 131 C_PF_relation x := fc (CS.no rfl) (fc (CS.no rfl) (fc (CS.no rfl) (fc (CS.no rfl) (fc (CS.no rfl) (fc (CS.no rfl) (fc (CS.no rfl) (fc (CS.no rfl) (fc (CS.no rfl) (fc (CS.no rfl) (fc (CS.no rfl) (fc (CS.no rfl) (fc (CS.no rfl) (fc (CS.no rfl) (fc (CS.no rfl) (fc (CS.no rfl) (fc (CS.no rfl) (fc (CS.no rfl) (fc (CS.no rfl) (fc (CS.no rfl) (fc (CS.V c_RS_add wk_RS_add wl_PF_54 wm_RS_add we_RS_add rfl rfl wi_RS dn_RS_add ⟨rfl, rfl⟩ ⟨by decide, by decide⟩ ft_RS_add rfl (e_PF_relation_37).1) (fc (CS.no rfl) (fc (CS.no rfl) (fc (CS.no rfl) (fun _ h => absurd h List.not_mem_nil))))))))))))))))))))))))
set_option maxRecDepth 100000 in
set_option maxHeartbeats 4000000 in
theorem c_PF_relation : Cn y_PF_relation b_PF_relation 3 (some .int) (rmm 1 0 0) (1 + 1) 0 0 pr_PF_relation po_PF_relation := cv_I (ci := 0) (f := fun k => fun x0 μ => FM μ ∧ (k = 0 ∧ CI μ.2.1)) (g := fun k => fun x0 μ r μ' => (r, μ') = (if (x0 = 1 ∨ x0 = 2) ∧ μ.2.1 5 4 < 14 then (some (.int (μ.2.1 5 4 + 1 - 1)), sI (sI μ 6 (μ.2.1 5 4).toNatClampNeg x0) 5 4 (μ.2.1 5 4 + 1)) else (some (.int (-1)), μ))) fun l k x0 μ hk h => by
  obtain ⟨hm, h⟩ := h
  obtain ⟨M, L, rfl⟩ := hm.e
  refine ky_met (own := R_PF) (ini := 0) (rb := 0) (nE := 131) (cd := k_PF_relation) (C := C_PF_relation) (by decide) rfl (fun h => by cases h) (Nat.le_of_ble_eq_true rfl) ⟨rfl, rfl⟩ (Or.inl ⟨rfl, rfl⟩) rfl rfl (by decide) ok_PF_relation (cs_PF_relation l) rt_PF_relation (fun K hs => ?_)
  obtain ⟨rfl, hc⟩ := h
  have hc : CI M := hc
  have s15 : ∀ v : Int32, ((v = 1 ∧ (x0 = 1 ∨ x0 = 2)) ∨ (v = 0 ∧ ¬ (x0 = 1 ∨ x0 = 2))) → K 15 [some (.ref 0), some (.int x0), none] [.int v] (131, M, L, TT) := by
    intro v hv
    refine hs.go [15] 40 _ _ _ _ ⟨fun hz => ⟨rfl, fun z => (by cases z), ?_⟩, fun hz => ⟨rfl, _, rfl, rfl, fun h2 => ⟨rfl, fun z => (by cases z), ?_⟩, fun h2 => ⟨rfl, _, rfl, ⟨rfl, ⟨rfl, rfl⟩, rfl, ?_⟩, rfl, rfl, ?_⟩⟩⟩
    · rcases hv with ⟨h1, -⟩ | ⟨-, h1⟩
      · rw [h1] at hz; exact absurd hz (by decide)
      · exact (if_neg (fun z => h1 z.1)).symm
    · exact (if_neg (fun z => Int32.not_lt.mpr h2 z.2)).symm
    · show vp_in (M 5 4) 14
      obtain ⟨n, -, hn, e⟩ := hc.2.2.1
      have h2 : ¬ 14 ≤ M 5 4 := h2
      rw [e] at h2 ⊢
      refine vp_in_nI ?_ (by decide)
      rcases Nat.lt_or_ge n 14 with z | z
      · exact z
      · exact absurd (nI_le (a := 14) (b := n) z (by omega)) h2
    · rintro _ _ ⟨rfl, rfl⟩
      rcases hv with ⟨-, h1⟩ | ⟨h1, -⟩
      · exact ⟨rfl, fun z => (by cases z), (if_pos ⟨h1, Int32.not_le.mp h2⟩).symm⟩
      · rw [h1] at hz; exact absurd rfl hz
  exact hs.go [15] 40 _ _ _ _ ⟨fun h1 => s15 1 (Or.inl ⟨rfl, Or.inl h1⟩), fun h1 => ⟨fun h2 => s15 0 (Or.inr ⟨rfl, fun z => z.elim h1 h2⟩), fun h2 => s15 1 (Or.inl ⟨rfl, Or.inr h2⟩)⟩⟩

theorem cof_in {cnt a x0 x1 x2 : Int32} (h : ¬ cof cnt a x0 x1 x2 = -1) : 0 ≤ x0 ∧ x0 < cnt := by
  unfold cof at h
  by_cases h1 : 0 ≤ x0 ∧ x0 < cnt ∧ (0 ≤ x1 ∧ x1 < 6) ∧ (0 ≤ sec a x2 ∧ sec a x2 < 6)
  · exact ⟨h1.1, h1.2.1⟩
  · rw [if_neg h1] at h
    exact absurd rfl h

theorem dn_PF_holds : y_PF_holds.cls ≠ "java/lang/invoke/MethodHandle" ∧ y_PF_holds.cls ≠ "java/lang/invoke/VarHandle" ∧ (parseMethodDescriptor y_PF_holds.desc).map (fun d => d.parameters.length) = some 3 := by decide +kernel
abbrev pr_PF_holds : List Value → Mm → Prop := preV 0 (fun k => a_III (fun x0 x1 x2 μ => FM μ ∧ (k = 0 ∧ CI μ.2.1)))
abbrev po_PF_holds : List Value → Mm → Option Value → Mm → Prop := qV (fun k => b_III (fun x0 x1 x2 μ r μ' => r = some (.int (b2 (¬ cof (μ.2.1 5 4) (μ.2.1 6 x0.toNatClampNeg) x0 x1 x2 = -1 ∧ ¬ ub (μ.2.2.1 8 x0.toNatClampNeg) (cof (μ.2.1 5 4) (μ.2.1 6 x0.toNatClampNeg) x0 x1 x2) = 0))) ∧ μ' = μ))
theorem ft_PF_holds : ∀ as μ, pr_PF_holds as μ → μ.1 + 0 ≤ 131 ∧ cz μ.1 + 0 ≤ cz 131 := hf_S (n := 131) (Nat.le_refl _) (fun as μ h => by
  obtain ⟨k, r, rfl, hk, h⟩ := preV_e h
  obtain ⟨x0, x1, x2, rfl, h⟩ := a_III_e h
  exact h.1.1)
def C_PF_holds : Cf := fun id => match id with
  | 0 => trF (3 + 1) pr_RS_cellOf po_RS_cellOf
  | 1 => trF (2 + 1) pr_RS_has po_RS_has
  | _ => fun _ _ _ => False
set_option maxRecDepth 100000 in
theorem cs_PF_holds (l : Launch) : ∀ x ∈ k_PF_holds, CS l R_PF b_PF_holds 5 (rmm 2 0 0) 131 131 C_PF_holds x := fc (CS.no rfl) (fc (CS.no rfl) (fc (CS.no rfl) (fc (CS.no rfl) (fc (CS.no rfl) (fc (CS.V c_RS_cellOf wk_RS_cellOf wl_PF_62 wm_RS_cellOf we_RS_cellOf rfl rfl wi_RS dn_RS_cellOf ⟨rfl, rfl⟩ ⟨by decide, by decide⟩ ft_RS_cellOf rfl (e_PF_holds_7).1) (fc (CS.no rfl) (fc (CS.no rfl) (fc (CS.no rfl) (fc (CS.no rfl) (fc (CS.no rfl) (fc (CS.no rfl) (fc (CS.no rfl) (fc (CS.no rfl) (fc (CS.V c_RS_has wk_RS_has wl_PF_132 wm_RS_has we_RS_has rfl rfl wi_RS dn_RS_has ⟨rfl, rfl⟩ ⟨by decide, by decide⟩ ft_RS_has rfl (e_PF_holds_25).1) (fc (CS.no rfl) (fc (CS.no rfl) (fc (CS.no rfl) (fc (CS.no rfl) (fc (CS.no rfl) (fun _ h => absurd h List.not_mem_nil))))))))))))))))))))
set_option maxRecDepth 100000 in
set_option maxHeartbeats 4000000 in
theorem c_PF_holds : Cn y_PF_holds b_PF_holds 5 (some .boolean) (rmm 2 0 0) (3 + 1) 0 0 pr_PF_holds po_PF_holds := cv_III (ci := 0) (f := fun k => fun x0 x1 x2 μ => FM μ ∧ (k = 0 ∧ CI μ.2.1)) (g := fun k => fun x0 x1 x2 μ r μ' => r = some (.int (b2 (¬ cof (μ.2.1 5 4) (μ.2.1 6 x0.toNatClampNeg) x0 x1 x2 = -1 ∧ ¬ ub (μ.2.2.1 8 x0.toNatClampNeg) (cof (μ.2.1 5 4) (μ.2.1 6 x0.toNatClampNeg) x0 x1 x2) = 0))) ∧ μ' = μ) fun l k x0 x1 x2 μ hk h => by
  obtain ⟨hm, h⟩ := h
  obtain ⟨M, L, rfl⟩ := hm.e
  refine ky_met (own := R_PF) (ini := 0) (rb := 1) (nE := 131) (cd := k_PF_holds) (C := C_PF_holds) (by decide) rfl (fun h => by cases h) (Nat.le_of_ble_eq_true rfl) ⟨rfl, rfl⟩ (Or.inr (Or.inl ⟨rfl, rfl⟩)) rfl rfl (by decide) ok_PF_holds (cs_PF_holds l) rt_PF_holds (fun K hs => ?_)
  obtain ⟨rfl, hc⟩ := h
  have hc : CI M := hc
  refine hs.go [] 40 _ _ _ _ ⟨rfl, _, rfl, ⟨rfl, ⟨rfl, rfl⟩, rfl, hc.c14⟩, rfl, rfl, ?_⟩
  rintro _ _ ⟨rfl, rfl⟩
  refine ⟨fun h1 => ⟨rfl, fun _ => Or.inl rfl, vb_f (fun z => z.1 h1), rfl⟩, fun h1 => ?_⟩
  have h1 : ¬ cof (M 5 4) (M 6 x0.toNatClampNeg) x0 x1 x2 = -1 := h1
  have hx := hc.in14 (cof_in h1).1 (cof_in h1).2
  refine ⟨rfl, _, rfl, ⟨rfl, ⟨rfl, rfl⟩, rfl, hx⟩, rfl, rfl, ?_⟩
  rintro _ _ ⟨rfl, rfl⟩
  by_cases hb : ub (L 8 x0.toNatClampNeg) (cof (M 5 4) (M 6 x0.toNatClampNeg) x0 x1 x2) = 0
  · rw [show b2 (¬ ub (L 8 x0.toNatClampNeg) (cof (M 5 4) (M 6 x0.toNatClampNeg) x0 x1 x2) = 0) = 0 from b2_f (fun z => z hb)]
    exact ⟨fun _ => ⟨rfl, fun _ => Or.inl rfl, vb_f (fun z => z.2 hb), rfl⟩, fun z => absurd rfl z⟩
  · rw [show b2 (¬ ub (L 8 x0.toNatClampNeg) (cof (M 5 4) (M 6 x0.toNatClampNeg) x0 x1 x2) = 0) = 1 from b2_t hb]
    exact ⟨fun z => absurd z (by decide), fun _ => ⟨rfl, fun _ => Or.inr rfl, vb_t ⟨h1, hb⟩, rfl⟩⟩
