/-- what holds of the reference's cells between calls -/
def PI (M : mM) : Prop := (∃ n, 9 ≤ n ∧ n ≤ 14 ∧ M 109 0 = nI n) ∧ (∃ g, g ≤ 4 ∧ M 109 8 = nI g) ∧ (∃ m, m ≤ 20 ∧ M 109 19 = nI m) ∧ (∀ j, j < 14 → (M 116 j = 0 ∨ M 116 j = 1)) ∧ (∀ j, j < 14 → ∃ n, n ≤ 4 ∧ M 117 j = nI n ∧ (¬ M 116 j = 0 → 1 ≤ n)) ∧ (∀ i, i < 60 → rok M i ∧ M 118 i < M 109 0) ∧ (∀ j, j < 6 → M 125 j = -1 ∨ vp_in (M 125 j) 20) ∧ (∀ l, l < 12 → M 122 l = -1 ∨ (vp_in (M 122 l) 6 ∧ vp_in (M 123 l) 6 ∧ vp_in (M 124 l) 6))
theorem PI.c14 {M : mM} (h : PI M) : M 109 0 ≤ 14 := by
  obtain ⟨n, -, hn, e⟩ := h.1
  rw [e]
  exact nI_le (a := n) (b := 14) hn (by decide)
theorem PI.in14 {M : mM} (h : PI M) {x : Int32} (h0 : 0 ≤ x) (h1 : x < M 109 0) : vp_in x 14 := in_lt h0 (Int32.lt_of_lt_of_le h1 h.c14)
def lat (M : mM) (i : Nat) (x y z : Int32) : mM := up2 (up2 (up2 (up2 M 118 i x) 119 i y) 120 i z) 121 i 0
theorem plc_in {cnt a x0 x1 x2 : Int32} (h : ¬ plc cnt a x0 x1 x2 < 0) : 0 ≤ x0 ∧ x0 < cnt := by
  unfold plc at h
  by_cases h1 : 0 ≤ x0 ∧ x0 < cnt ∧ isV x1 ∧ (a = 2 → isV x2)
  · exact ⟨h1.1, h1.2.1⟩
  · rw [if_neg h1] at h
    exact absurd (by decide) h
def szl (t : Int64) : Nat → Int32
  | 0 => 0
  | n + 1 => szl t n + b2 (sb t (nI n) = 1)
def crl (t : Int64) : Nat → Nat → Int32 → Int32
  | 0, _, _ => -1
  | n + 1, c, left => if sb t (nI c) = 1 then (if left = 0 then nI c else crl t n (c + 1) (left + (-1))) else crl t n (c + 1) left
def tpr (M : mM) (x0 v : Int32) : Int32 := if v = -1 then -1 else if M 110 x0.toNatClampNeg = 1 then v else 10 * (v / 6) + (v - v / 6 * 6)
def llr (M : mM) (x a b : Int32) : Nat → Nat → Int32
  | 0, _ => -1
  | n + 1, i => if ¬ M 122 i < 0 ∧ M 122 i = x ∧ M 123 i = a ∧ M 124 i = b then nI i else llr M x a b n (i + 1)

theorem dn_PM_literalAt : y_PM_literalAt.cls ≠ "java/lang/invoke/MethodHandle" ∧ y_PM_literalAt.cls ≠ "java/lang/invoke/VarHandle" ∧ (parseMethodDescriptor y_PM_literalAt.desc).map (fun d => d.parameters.length) = some 4 := by decide +kernel
abbrev pr_PM_literalAt : List Value → Mm → Prop := preV 8 (fun k => a_IIII (fun x0 x1 x2 x3 μ => FM μ ∧ (k = 109 ∧ vp_in x0 60)))
abbrev po_PM_literalAt : List Value → Mm → Option Value → Mm → Prop := qV (fun k => b_IIII (fun x0 x1 x2 x3 μ r μ' => r = none ∧ μ' = (131, lat μ.2.1 x0.toNatClampNeg x1 x2 x3, μ.2.2.1, TT)))
theorem ft_PM_literalAt : ∀ as μ, pr_PM_literalAt as μ → μ.1 + 0 ≤ 131 ∧ cz μ.1 + 0 ≤ cz 131 := hf_S (n := 131) (Nat.le_refl _) (fun as μ h => by
  obtain ⟨k, r, rfl, hk, h⟩ := preV_e h
  obtain ⟨x0, x1, x2, x3, rfl, h⟩ := a_IIII_e h
  exact h.1.1)
theorem nc_PM_literalAt : ∀ x ∈ k_PM_literalAt, isInv x.2.1 = false := by decide +kernel
set_option maxRecDepth 100000 in
set_option maxHeartbeats 4000000 in
theorem c_PM_literalAt : Cn y_PM_literalAt b_PM_literalAt 5 none (rmm 0 0 0) (4 + 1) 0 0 pr_PM_literalAt po_PM_literalAt := cv_IIII (ci := 8) (f := fun k => fun x0 x1 x2 x3 μ => FM μ ∧ (k = 109 ∧ vp_in x0 60)) (g := fun k => fun x0 x1 x2 x3 μ r μ' => r = none ∧ μ' = (131, lat μ.2.1 x0.toNatClampNeg x1 x2 x3, μ.2.2.1, TT)) fun l k x0 x1 x2 x3 μ hk h => by
  obtain ⟨hm, h⟩ := h
  obtain ⟨M, L, rfl⟩ := hm.e
  refine ky_met (own := R_PM) (ini := 0) (rb := 3) (nE := 131) (cd := k_PM_literalAt) (C := (fun _ _ _ _ => False)) (by decide) rfl (fun h => by cases h) (Nat.le_of_ble_eq_true rfl) ⟨rfl, rfl⟩ (Or.inr (Or.inr (Or.inr ⟨rfl, rfl⟩))) rfl rfl (by decide) ok_PM_literalAt (fun x hx => CS.no (nc_PM_literalAt x hx)) rt_PM_literalAt (fun K hs => ?_)
  obtain ⟨rfl, hx⟩ := h
  exact hs.go [] 40 _ _ _ _ ⟨rfl, _, rfl, rfl, hx, rfl, _, rfl, rfl, hx, rfl, _, rfl, rfl, hx, rfl, _, rfl, rfl, hx, Or.inl rfl, rfl, rfl, rfl⟩

theorem dn_PM_changes : y_PM_changes.cls ≠ "java/lang/invoke/MethodHandle" ∧ y_PM_changes.cls ≠ "java/lang/invoke/VarHandle" ∧ (parseMethodDescriptor y_PM_changes.desc).map (fun d => d.parameters.length) = some 0 := by decide +kernel
abbrev pr_PM_changes : List Value → Mm → Prop := preV 8 (fun k => a_0 (fun μ => FM μ ∧ (k = 109 ∧ PI μ.2.1)))
abbrev po_PM_changes : List Value → Mm → Option Value → Mm → Prop := qV (fun k => b_0 (fun μ r μ' => r = some (.int (μ.2.1 109 7)) ∧ μ' = μ))
theorem ft_PM_changes : ∀ as μ, pr_PM_changes as μ → μ.1 + 0 ≤ 131 ∧ cz μ.1 + 0 ≤ cz 131 := hf_S (n := 131) (Nat.le_refl _) (fun as μ h => by
  obtain ⟨k, r, rfl, hk, h⟩ := preV_e h
  obtain ⟨rfl, h⟩ := a_0_e h
  exact h.1.1)
theorem nc_PM_changes : ∀ x ∈ k_PM_changes, isInv x.2.1 = false := by decide +kernel
set_option maxRecDepth 100000 in
set_option maxHeartbeats 4000000 in
theorem c_PM_changes : Cn y_PM_changes b_PM_changes 1 (some .int) (rmm 0 0 0) (0 + 1) 0 0 pr_PM_changes po_PM_changes := cv_0 (ci := 8) (f := fun k => fun μ => FM μ ∧ (k = 109 ∧ PI μ.2.1)) (g := fun k => fun μ r μ' => r = some (.int (μ.2.1 109 7)) ∧ μ' = μ) fun l k  μ hk h => by
  obtain ⟨hm, h⟩ := h
  obtain ⟨M, L, rfl⟩ := hm.e
  refine ky_met (own := R_PM) (ini := 0) (rb := 0) (nE := 131) (cd := k_PM_changes) (C := (fun _ _ _ _ => False)) (by decide) rfl (fun h => by cases h) (Nat.le_of_ble_eq_true rfl) ⟨rfl, rfl⟩ (Or.inl ⟨rfl, rfl⟩) rfl rfl (by decide) ok_PM_changes (fun x hx => CS.no (nc_PM_changes x hx)) rt_PM_changes (fun K hs => ?_)
  obtain ⟨rfl, hc⟩ := h
  exact hs.go [] 30 _ _ _ _ ⟨rfl, rfl, fun z => (by cases z), rfl, rfl⟩

theorem dn_PM_objects : y_PM_objects.cls ≠ "java/lang/invoke/MethodHandle" ∧ y_PM_objects.cls ≠ "java/lang/invoke/VarHandle" ∧ (parseMethodDescriptor y_PM_objects.desc).map (fun d => d.parameters.length) = some 0 := by decide +kernel
abbrev pr_PM_objects : List Value → Mm → Prop := preV 8 (fun k => a_0 (fun μ => FM μ ∧ (k = 109 ∧ PI μ.2.1)))
abbrev po_PM_objects : List Value → Mm → Option Value → Mm → Prop := qV (fun k => b_0 (fun μ r μ' => r = some (.int (μ.2.1 109 19)) ∧ μ' = μ))
theorem ft_PM_objects : ∀ as μ, pr_PM_objects as μ → μ.1 + 0 ≤ 131 ∧ cz μ.1 + 0 ≤ cz 131 := hf_S (n := 131) (Nat.le_refl _) (fun as μ h => by
  obtain ⟨k, r, rfl, hk, h⟩ := preV_e h
  obtain ⟨rfl, h⟩ := a_0_e h
  exact h.1.1)
theorem nc_PM_objects : ∀ x ∈ k_PM_objects, isInv x.2.1 = false := by decide +kernel
set_option maxRecDepth 100000 in
set_option maxHeartbeats 4000000 in
theorem c_PM_objects : Cn y_PM_objects b_PM_objects 1 (some .int) (rmm 0 0 0) (0 + 1) 0 0 pr_PM_objects po_PM_objects := cv_0 (ci := 8) (f := fun k => fun μ => FM μ ∧ (k = 109 ∧ PI μ.2.1)) (g := fun k => fun μ r μ' => r = some (.int (μ.2.1 109 19)) ∧ μ' = μ) fun l k  μ hk h => by
  obtain ⟨hm, h⟩ := h
  obtain ⟨M, L, rfl⟩ := hm.e
  refine ky_met (own := R_PM) (ini := 0) (rb := 0) (nE := 131) (cd := k_PM_objects) (C := (fun _ _ _ _ => False)) (by decide) rfl (fun h => by cases h) (Nat.le_of_ble_eq_true rfl) ⟨rfl, rfl⟩ (Or.inl ⟨rfl, rfl⟩) rfl rfl (by decide) ok_PM_objects (fun x hx => CS.no (nc_PM_objects x hx)) rt_PM_objects (fun K hs => ?_)
  obtain ⟨rfl, hc⟩ := h
  exact hs.go [] 30 _ _ _ _ ⟨rfl, rfl, fun z => (by cases z), rfl, rfl⟩

theorem dn_PM_stratum : y_PM_stratum.cls ≠ "java/lang/invoke/MethodHandle" ∧ y_PM_stratum.cls ≠ "java/lang/invoke/VarHandle" ∧ (parseMethodDescriptor y_PM_stratum.desc).map (fun d => d.parameters.length) = some 1 := by decide +kernel
abbrev pr_PM_stratum : List Value → Mm → Prop := preV 8 (fun k => a_I (fun x0 μ => FM μ ∧ (k = 109 ∧ PI μ.2.1)))
abbrev po_PM_stratum : List Value → Mm → Option Value → Mm → Prop := qV (fun k => b_I (fun x0 μ r μ' => r = some (.int (if 0 ≤ x0 ∧ x0 < μ.2.1 109 0 then μ.2.1 114 x0.toNatClampNeg else -1)) ∧ μ' = μ))
theorem ft_PM_stratum : ∀ as μ, pr_PM_stratum as μ → μ.1 + 0 ≤ 131 ∧ cz μ.1 + 0 ≤ cz 131 := hf_S (n := 131) (Nat.le_refl _) (fun as μ h => by
  obtain ⟨k, r, rfl, hk, h⟩ := preV_e h
  obtain ⟨x0, rfl, h⟩ := a_I_e h
  exact h.1.1)
theorem nc_PM_stratum : ∀ x ∈ k_PM_stratum, isInv x.2.1 = false := by decide +kernel
set_option maxRecDepth 100000 in
set_option maxHeartbeats 4000000 in
theorem c_PM_stratum : Cn y_PM_stratum b_PM_stratum 2 (some .int) (rmm 0 0 0) (1 + 1) 0 0 pr_PM_stratum po_PM_stratum := cv_I (ci := 8) (f := fun k => fun x0 μ => FM μ ∧ (k = 109 ∧ PI μ.2.1)) (g := fun k => fun x0 μ r μ' => r = some (.int (if 0 ≤ x0 ∧ x0 < μ.2.1 109 0 then μ.2.1 114 x0.toNatClampNeg else -1)) ∧ μ' = μ) fun l k x0 μ hk h => by
  obtain ⟨hm, h⟩ := h
  obtain ⟨M, L, rfl⟩ := hm.e
  refine ky_met (own := R_PM) (ini := 0) (rb := 0) (nE := 131) (cd := k_PM_stratum) (C := (fun _ _ _ _ => False)) (by decide) rfl (fun h => by cases h) (Nat.le_of_ble_eq_true rfl) ⟨rfl, rfl⟩ (Or.inl ⟨rfl, rfl⟩) rfl rfl (by decide) ok_PM_stratum (fun x hx => CS.no (nc_PM_stratum x hx)) rt_PM_stratum (fun K hs => ?_)
  obtain ⟨rfl, hc⟩ := h
  have hc : PI M := hc
  refine hs.go [] 40 _ _ _ _ ⟨fun h1 => ⟨rfl, fun z => (by cases z), congrArg (fun v => some (Value.int v)) (if_neg (fun z => Int32.not_lt.mpr z.1 h1)).symm, rfl⟩, fun h1 => ⟨rfl, fun h2 => ⟨rfl, _, rfl, rfl, hc.in14 (Int32.not_lt.mp h1) h2, rfl, fun z => (by cases z), congrArg (fun v => some (Value.int v)) (if_pos ⟨Int32.not_lt.mp h1, h2⟩).symm, rfl⟩, fun h2 => ⟨rfl, fun z => (by cases z), congrArg (fun v => some (Value.int v)) (if_neg (fun z => h2 z.2)).symm, rfl⟩⟩⟩

theorem dn_PM_site : y_PM_site.cls ≠ "java/lang/invoke/MethodHandle" ∧ y_PM_site.cls ≠ "java/lang/invoke/VarHandle" ∧ (parseMethodDescriptor y_PM_site.desc).map (fun d => d.parameters.length) = some 1 := by decide +kernel
abbrev pr_PM_site : List Value → Mm → Prop := preV 8 (fun k => a_I (fun x0 μ => FM μ ∧ (k = 109 ∧ PI μ.2.1)))
abbrev po_PM_site : List Value → Mm → Option Value → Mm → Prop := qV (fun k => b_I (fun x0 μ r μ' => r = some (.int (if isV x0 ∧ ¬ μ.2.1 125 x0.toNatClampNeg < 0 then μ.2.1 126 (μ.2.1 125 x0.toNatClampNeg).toNatClampNeg else -1)) ∧ μ' = μ))
theorem ft_PM_site : ∀ as μ, pr_PM_site as μ → μ.1 + 0 ≤ 131 ∧ cz μ.1 + 0 ≤ cz 131 := hf_S (n := 131) (Nat.le_refl _) (fun as μ h => by
  obtain ⟨k, r, rfl, hk, h⟩ := preV_e h
  obtain ⟨x0, rfl, h⟩ := a_I_e h
  exact h.1.1)
def C_PM_site : Cf := fun id => match id with
  | 0 => trF 1 pr_PM_noValue po_PM_noValue
  | _ => fun _ _ _ => False
set_option maxRecDepth 100000 in
theorem cs_PM_site (l : Launch) : ∀ x ∈ k_PM_site, CS l R_PM b_PM_site 2 (rmm 1 0 0) 131 131 C_PM_site x := fc (CS.no rfl) (fc (CS.S c_PM_noValue wk_PM_noValue wl_PM_141 wt_PM_noValue wi_PM dn_PM_noValue ⟨rfl, rfl⟩ ⟨by decide, by decide⟩ ft_PM_noValue rfl (e_PM_site_1).1) (fc (CS.no rfl) (fc (CS.no rfl) (fc (CS.no rfl) (fc (CS.no rfl) (fc (CS.no rfl) (fc (CS.no rfl) (fc (CS.no rfl) (fc (CS.no rfl) (fc (CS.no rfl) (fc (CS.no rfl) (fc (CS.no rfl) (fc (CS.no rfl) (fc (CS.no rfl) (fc (CS.no rfl) (fc (CS.no rfl) (fc (CS.no rfl) (fun _ h => absurd h List.not_mem_nil))))))))))))))))))
set_option maxRecDepth 100000 in
set_option maxHeartbeats 4000000 in
theorem c_PM_site : Cn y_PM_site b_PM_site 2 (some .int) (rmm 1 0 0) (1 + 1) 0 0 pr_PM_site po_PM_site := cv_I (ci := 8) (f := fun k => fun x0 μ => FM μ ∧ (k = 109 ∧ PI μ.2.1)) (g := fun k => fun x0 μ r μ' => r = some (.int (if isV x0 ∧ ¬ μ.2.1 125 x0.toNatClampNeg < 0 then μ.2.1 126 (μ.2.1 125 x0.toNatClampNeg).toNatClampNeg else -1)) ∧ μ' = μ) fun l k x0 μ hk h => by
  obtain ⟨hm, h⟩ := h
  obtain ⟨M, L, rfl⟩ := hm.e
  refine ky_met (own := R_PM) (ini := 0) (rb := 0) (nE := 131) (cd := k_PM_site) (C := C_PM_site) (by decide) rfl (fun h => by cases h) (Nat.le_of_ble_eq_true rfl) ⟨rfl, rfl⟩ (Or.inl ⟨rfl, rfl⟩) rfl rfl (by decide) ok_PM_site (cs_PM_site l) rt_PM_site (fun K hs => ?_)
  obtain ⟨rfl, hc⟩ := h
  have hc : PI M := hc
  refine hs.go [] 40 _ _ _ _ ⟨⟨⟨rfl, rfl⟩, trivial⟩, rfl, rfl, ?_⟩
  rintro _ _ ⟨rfl, rfl⟩
  by_cases h1 : isV x0
  · rw [show b2 (¬ isV x0) = 0 from b2_f (fun z => z h1)]
    have hx := in_6 h1.1 h1.2
    refine ⟨fun z => absurd rfl z, fun _ => ⟨rfl, _, rfl, rfl, hx, fun h2 => ⟨rfl, _, rfl, rfl, _, rfl, rfl, hx, rfl, ?_, rfl, fun z => (by cases z), congrArg (fun v => some (Value.int v)) (if_pos ⟨h1, Int32.not_lt.mpr h2⟩).symm, rfl⟩, fun h2 => ⟨rfl, fun z => (by cases z), congrArg (fun v => some (Value.int v)) (if_neg (fun z => z.2 (Int32.not_le.mp h2))).symm, rfl⟩⟩⟩
    show vp_in (M 125 x0.toNatClampNeg) 20
    rcases hc.2.2.2.2.2.2.1 _ (cl_lt hx) with z | z
    · have h2 : 0 ≤ M 125 x0.toNatClampNeg := h2
      rw [z] at h2
      exact absurd h2 (by decide)
    · exact z
  · rw [show b2 (¬ isV x0) = 1 from b2_t h1]
    exact ⟨fun _ => ⟨rfl, fun z => (by cases z), congrArg (fun v => some (Value.int v)) (if_neg (fun z => h1 z.1)).symm, rfl⟩, fun z => absurd z (by decide)⟩

theorem dn_PM_holds : y_PM_holds.cls ≠ "java/lang/invoke/MethodHandle" ∧ y_PM_holds.cls ≠ "java/lang/invoke/VarHandle" ∧ (parseMethodDescriptor y_PM_holds.desc).map (fun d => d.parameters.length) = some 3 := by decide +kernel
abbrev pr_PM_holds : List Value → Mm → Prop := preV 8 (fun k => a_III (fun x0 x1 x2 μ => FM μ ∧ (k = 109 ∧ PI μ.2.1)))
abbrev po_PM_holds : List Value → Mm → Option Value → Mm → Prop := qV (fun k => b_III (fun x0 x1 x2 μ r μ' => r = some (.int (b2 (¬ plc (μ.2.1 109 0) (μ.2.1 110 x0.toNatClampNeg) x0 x1 x2 < 0 ∧ sb (μ.2.2.1 112 x0.toNatClampNeg) (plc (μ.2.1 109 0) (μ.2.1 110 x0.toNatClampNeg) x0 x1 x2) = 1))) ∧ μ' = μ))
theorem ft_PM_holds : ∀ as μ, pr_PM_holds as μ → μ.1 + 0 ≤ 131 ∧ cz μ.1 + 0 ≤ cz 131 := hf_S (n := 131) (Nat.le_refl _) (fun as μ h => by
  obtain ⟨k, r, rfl, hk, h⟩ := preV_e h
  obtain ⟨x0, x1, x2, rfl, h⟩ := a_III_e h
  exact h.1.1)
def C_PM_holds : Cf := fun id => match id with
  | 0 => trF (3 + 1) pr_PM_place po_PM_place
  | _ => fun _ _ _ => False
set_option maxRecDepth 100000 in
theorem cs_PM_holds (l : Launch) : ∀ x ∈ k_PM_holds, CS l R_PM b_PM_holds 5 (rmm 2 0 0) 131 131 C_PM_holds x := fc (CS.no rfl) (fc (CS.no rfl) (fc (CS.no rfl) (fc (CS.no rfl) (fc (CS.V c_PM_place wk_PM_place wl_PM_144 wm_PM_place we_PM_place rfl rfl wi_PM dn_PM_place ⟨rfl, rfl⟩ ⟨by decide, by decide⟩ ft_PM_place rfl (e_PM_holds_4).1) (fc (CS.no rfl) (fc (CS.no rfl) (fc (CS.no rfl) (fc (CS.no rfl) (fc (CS.no rfl) (fc (CS.no rfl) (fc (CS.no rfl) (fc (CS.no rfl) (fc (CS.no rfl) (fc (CS.no rfl) (fc (CS.no rfl) (fc (CS.no rfl) (fc (CS.no rfl) (fc (CS.no rfl) (fc (CS.no rfl) (fc (CS.no rfl) (fc (CS.no rfl) (fc (CS.no rfl) (fun _ h => absurd h List.not_mem_nil)))))))))))))))))))))))
set_option maxRecDepth 100000 in
set_option maxHeartbeats 4000000 in
theorem c_PM_holds : Cn y_PM_holds b_PM_holds 5 (some .boolean) (rmm 2 0 0) (3 + 1) 0 0 pr_PM_holds po_PM_holds := cv_III (ci := 8) (f := fun k => fun x0 x1 x2 μ => FM μ ∧ (k = 109 ∧ PI μ.2.1)) (g := fun k => fun x0 x1 x2 μ r μ' => r = some (.int (b2 (¬ plc (μ.2.1 109 0) (μ.2.1 110 x0.toNatClampNeg) x0 x1 x2 < 0 ∧ sb (μ.2.2.1 112 x0.toNatClampNeg) (plc (μ.2.1 109 0) (μ.2.1 110 x0.toNatClampNeg) x0 x1 x2) = 1))) ∧ μ' = μ) fun l k x0 x1 x2 μ hk h => by
  obtain ⟨hm, h⟩ := h
  obtain ⟨M, L, rfl⟩ := hm.e
  refine ky_met (own := R_PM) (ini := 0) (rb := 1) (nE := 131) (cd := k_PM_holds) (C := C_PM_holds) (by decide) rfl (fun h => by cases h) (Nat.le_of_ble_eq_true rfl) ⟨rfl, rfl⟩ (Or.inr (Or.inl ⟨rfl, rfl⟩)) rfl rfl (by decide) ok_PM_holds (cs_PM_holds l) rt_PM_holds (fun K hs => ?_)
  obtain ⟨rfl, hc⟩ := h
  have hc : PI M := hc
  refine hs.go [] 40 _ _ _ _ ⟨⟨rfl, ⟨rfl, rfl⟩, rfl, hc.c14⟩, rfl, rfl, ?_⟩
  rintro _ _ ⟨rfl, rfl⟩
  refine ⟨fun h1 => ⟨rfl, fun _ => Or.inl rfl, vb_f (fun z => z.1 h1), rfl⟩, fun h1 => ?_⟩
  have h1 : ¬ plc (M 109 0) (M 110 x0.toNatClampNeg) x0 x1 x2 < 0 := h1
  have hx := hc.in14 (plc_in h1).1 (plc_in h1).2
  exact ⟨rfl, _, rfl, rfl, hx, fun h2 => ⟨rfl, fun _ => Or.inl rfl, vb_f (fun z => h2 (cmpE.mpr z.2)), rfl⟩, fun h2 => ⟨rfl, fun _ => Or.inr rfl, vb_t ⟨h1, cmpE.mp h2⟩, rfl⟩⟩

theorem dn_PM_size : y_PM_size.cls ≠ "java/lang/invoke/MethodHandle" ∧ y_PM_size.cls ≠ "java/lang/invoke/VarHandle" ∧ (parseMethodDescriptor y_PM_size.desc).map (fun d => d.parameters.length) = some 1 := by decide +kernel
abbrev pr_PM_size : List Value → Mm → Prop := preV 8 (fun k => a_I (fun x0 μ => FM μ ∧ (k = 109 ∧ PI μ.2.1)))
abbrev po_PM_size : List Value → Mm → Option Value → Mm → Prop := qV (fun k => b_I (fun x0 μ r μ' => r = some (.int (if 0 ≤ x0 ∧ x0 < μ.2.1 109 0 then szl (μ.2.2.1 112 x0.toNatClampNeg) 36 else -1)) ∧ μ' = μ))
theorem ft_PM_size : ∀ as μ, pr_PM_size as μ → μ.1 + 0 ≤ 131 ∧ cz μ.1 + 0 ≤ cz 131 := hf_S (n := 131) (Nat.le_refl _) (fun as μ h => by
  obtain ⟨k, r, rfl, hk, h⟩ := preV_e h
  obtain ⟨x0, rfl, h⟩ := a_I_e h
  exact h.1.1)
theorem nc_PM_size : ∀ x ∈ k_PM_size, isInv x.2.1 = false := by decide +kernel
set_option maxRecDepth 100000 in
set_option maxHeartbeats 4000000 in
theorem c_PM_size : Cn y_PM_size b_PM_size 4 (some .int) (rmm 0 0 0) (1 + 1) 0 0 pr_PM_size po_PM_size := cv_I (ci := 8) (f := fun k => fun x0 μ => FM μ ∧ (k = 109 ∧ PI μ.2.1)) (g := fun k => fun x0 μ r μ' => r = some (.int (if 0 ≤ x0 ∧ x0 < μ.2.1 109 0 then szl (μ.2.2.1 112 x0.toNatClampNeg) 36 else -1)) ∧ μ' = μ) fun l k x0 μ hk h => by
  obtain ⟨hm, h⟩ := h
  obtain ⟨M, L, rfl⟩ := hm.e
  refine ky_met (own := R_PM) (ini := 0) (rb := 0) (nE := 131) (cd := k_PM_size) (C := (fun _ _ _ _ => False)) (by decide) rfl (fun h => by cases h) (Nat.le_of_ble_eq_true rfl) ⟨rfl, rfl⟩ (Or.inl ⟨rfl, rfl⟩) rfl rfl (by decide) ok_PM_size (fun x hx => CS.no (nc_PM_size x hx)) rt_PM_size (fun K hs => ?_)
  obtain ⟨rfl, hc⟩ := h
  have hc : PI M := hc
  have loop : 0 ≤ x0 ∧ x0 < M 109 0 → ∀ (n c : Nat), c + n = 36 → K 18 [some (.ref 109), some (.int x0), some (.int (szl (L 112 x0.toNatClampNeg) c)), some (.int (nI c))] [] (131, M, L, TT) := by
    intro hA
    have hx := hc.in14 hA.1 hA.2
    intro n
    induction n with
    | zero =>
      intro c hcn
      rw [show c = 36 by omega]
      exact hs.go [18] 40 _ _ _ _ ⟨fun _ => ⟨rfl, fun z => (by cases z), congrArg (fun v => some (Value.int v)) (if_pos hA).symm, rfl⟩, fun z => absurd (by decide) z⟩
    | succ n ih =>
      intro c hcn
      have h9 := ih (c + 1) (by omega)
      rw [nI_succ] at h9
      refine hs.go [18] 40 _ _ _ _ ⟨fun z => absurd z (nI_ge (a := c) (b := 36) (by omega) (by decide)), fun _ => ⟨rfl, _, rfl, rfl, hx, fun h2 => ?_, fun h2 => ?_⟩⟩
      · have e : szl (L 112 x0.toNatClampNeg) (c + 1) = szl (L 112 x0.toNatClampNeg) c + 0 := by
          show _ + b2 _ = _
          rw [show b2 (sb (L 112 x0.toNatClampNeg) (nI c) = 1) = 0 from b2_f (fun z => h2 (cmpE.mpr z))]
        rw [e] at h9
        exact h9
      · have e : szl (L 112 x0.toNatClampNeg) (c + 1) = szl (L 112 x0.toNatClampNeg) c + 1 := by
          show _ + b2 _ = _
          rw [show b2 (sb (L 112 x0.toNatClampNeg) (nI c) = 1) = 1 from b2_t (cmpE.mp h2)]
        rw [e] at h9
        exact h9
  exact hs.go [18] 40 _ _ _ _ ⟨fun h1 => ⟨rfl, fun z => (by cases z), congrArg (fun v => some (Value.int v)) (if_neg (fun z => Int32.not_lt.mpr z.1 h1)).symm, rfl⟩, fun h1 => ⟨rfl, fun h2 => loop ⟨Int32.not_lt.mp h1, h2⟩ 36 0 rfl, fun h2 => ⟨rfl, fun z => (by cases z), congrArg (fun v => some (Value.int v)) (if_neg (fun z => h2 z.2)).symm, rfl⟩⟩⟩

theorem dn_PM_tuple : y_PM_tuple.cls ≠ "java/lang/invoke/MethodHandle" ∧ y_PM_tuple.cls ≠ "java/lang/invoke/VarHandle" ∧ (parseMethodDescriptor y_PM_tuple.desc).map (fun d => d.parameters.length) = some 2 := by decide +kernel
abbrev pr_PM_tuple : List Value → Mm → Prop := preV 8 (fun k => a_II (fun x0 x1 μ => FM μ ∧ (k = 109 ∧ PI μ.2.1)))
abbrev po_PM_tuple : List Value → Mm → Option Value → Mm → Prop := qV (fun k => b_II (fun x0 x1 μ r μ' => r = some (.int (if (0 ≤ x0 ∧ x0 < μ.2.1 109 0) ∧ 0 ≤ x1 then tpr μ.2.1 x0 (crl (μ.2.2.1 112 x0.toNatClampNeg) 36 0 x1) else -1)) ∧ μ' = μ))
theorem ft_PM_tuple : ∀ as μ, pr_PM_tuple as μ → μ.1 + 0 ≤ 131 ∧ cz μ.1 + 0 ≤ cz 131 := hf_S (n := 131) (Nat.le_refl _) (fun as μ h => by
  obtain ⟨k, r, rfl, hk, h⟩ := preV_e h
  obtain ⟨x0, x1, rfl, h⟩ := a_II_e h
  exact h.1.1)
theorem nc_PM_tuple : ∀ x ∈ k_PM_tuple, isInv x.2.1 = false := by decide +kernel
set_option maxRecDepth 100000 in
set_option maxHeartbeats 4000000 in
theorem c_PM_tuple : Cn y_PM_tuple b_PM_tuple 5 (some .int) (rmm 0 0 0) (2 + 1) 0 0 pr_PM_tuple po_PM_tuple := cv_II (ci := 8) (f := fun k => fun x0 x1 μ => FM μ ∧ (k = 109 ∧ PI μ.2.1)) (g := fun k => fun x0 x1 μ r μ' => r = some (.int (if (0 ≤ x0 ∧ x0 < μ.2.1 109 0) ∧ 0 ≤ x1 then tpr μ.2.1 x0 (crl (μ.2.2.1 112 x0.toNatClampNeg) 36 0 x1) else -1)) ∧ μ' = μ) fun l k x0 x1 μ hk h => by
  obtain ⟨hm, h⟩ := h
  obtain ⟨M, L, rfl⟩ := hm.e
  refine ky_met (own := R_PM) (ini := 0) (rb := 0) (nE := 131) (cd := k_PM_tuple) (C := (fun _ _ _ _ => False)) (by decide) rfl (fun h => by cases h) (Nat.le_of_ble_eq_true rfl) ⟨rfl, rfl⟩ (Or.inl ⟨rfl, rfl⟩) rfl rfl (by decide) ok_PM_tuple (fun x hx => CS.no (nc_PM_tuple x hx)) rt_PM_tuple (fun K hs => ?_)
  obtain ⟨rfl, hc⟩ := h
  have hc : PI M := hc
  have loop : (0 ≤ x0 ∧ x0 < M 109 0) ∧ 0 ≤ x1 → ∀ (n c : Nat), c + n = 36 → ∀ y : Int32, crl (L 112 x0.toNatClampNeg) n c y = crl (L 112 x0.toNatClampNeg) 36 0 x1 → K 23 [some (.ref 109), some (.int x0), some (.int x1), some (.int y), some (.int (nI c))] [] (131, M, L, TT) := by
    intro hA
    have hx := hc.in14 hA.1.1 hA.1.2
    have post : ∀ v : Int32, v = tpr M x0 (crl (L 112 x0.toNatClampNeg) 36 0 x1) → some (Value.int v) = some (Value.int (if (0 ≤ x0 ∧ x0 < M 109 0) ∧ 0 ≤ x1 then tpr M x0 (crl (L 112 x0.toNatClampNeg) 36 0 x1) else -1)) := by
      intro v hv
      rw [hv]
      exact congrArg (fun v => some (Value.int v)) (if_pos hA).symm
    intro n
    induction n with
    | zero =>
      intro c hcn y hy
      rw [show c = 36 by omega]
      refine hs.go [23] 40 _ _ _ _ ⟨fun _ => ⟨rfl, fun z => (by cases z), post _ ?_, rfl⟩, fun z => absurd (by decide) z⟩
      rw [← hy]
      rfl
    | succ n ih =>
      intro c hcn y hy
      have s83 : ∀ y' : Int32, crl (L 112 x0.toNatClampNeg) n (c + 1) y' = crl (L 112 x0.toNatClampNeg) 36 0 x1 → K 83 [some (.ref 109), some (.int x0), some (.int x1), some (.int y'), some (.int (nI c))] [] (131, M, L, TT) := by
        intro y' hy'
        have h9 := ih (c + 1) (by omega) y' hy'
        rw [nI_succ] at h9
        exact hs.go [83, 23] 10 _ _ _ _ h9
      have hm : ¬ nI c = -1 := nI_ne_m1 (by omega)
      refine hs.go [23, 83] 60 _ _ _ _ ⟨fun z => absurd z (nI_ge (a := c) (b := 36) (by omega) (by decide)), fun _ => ⟨rfl, _, rfl, rfl, hx, fun h2 => s83 y ?_, fun h2 => ⟨fun h3 => s83 (y + (-1)) ?_, fun h3 => ⟨rfl, _, rfl, rfl, hx, fun h4 => ⟨(by decide), (by decide), rfl, fun z => (by cases z), post _ ?_, rfl⟩, fun h4 => ⟨rfl, fun z => (by cases z), post _ ?_, rfl⟩⟩⟩⟩⟩
      · rw [← hy]
        exact (if_neg (fun z => h2 (cmpE.mpr z))).symm
      · rw [← hy]
        exact ((if_pos (cmpE.mp h2)).trans (if_neg h3)).symm
      · rw [← hy]
        have e : crl (L 112 x0.toNatClampNeg) (n + 1) c y = nI c := (if_pos (cmpE.mp h2)).trans (if_pos h3)
        rw [e]
        exact ((if_neg hm).trans (if_neg h4)).symm
      · rw [← hy]
        have e : crl (L 112 x0.toNatClampNeg) (n + 1) c y = nI c := (if_pos (cmpE.mp h2)).trans (if_pos h3)
        rw [e]
        exact ((if_neg hm).trans (if_pos h4)).symm
  have no : ¬ ((0 ≤ x0 ∧ x0 < M 109 0) ∧ 0 ≤ x1) → K 16 [some (.ref 109), some (.int x0), some (.int x1), none, none] [] (131, M, L, TT) := by
    intro h
    exact hs.go [16] 40 _ _ _ _ ⟨rfl, fun z => (by cases z), congrArg (fun v => some (Value.int v)) (if_neg h).symm, rfl⟩
  exact hs.go [16, 23] 40 _ _ _ _ ⟨fun h1 => no (fun z => Int32.not_lt.mpr z.1.1 h1), fun h1 => ⟨rfl, fun h2 => no (fun z => Int32.not_lt.mpr h2 z.1.2), fun h2 => ⟨fun h3 => loop ⟨⟨Int32.not_lt.mp h1, Int32.not_le.mp h2⟩, h3⟩ 36 0 rfl x1 rfl, fun h3 => no (fun z => h3 z.2)⟩⟩⟩

theorem dn_PM_line : y_PM_line.cls ≠ "java/lang/invoke/MethodHandle" ∧ y_PM_line.cls ≠ "java/lang/invoke/VarHandle" ∧ (parseMethodDescriptor y_PM_line.desc).map (fun d => d.parameters.length) = some 3 := by decide +kernel
abbrev pr_PM_line : List Value → Mm → Prop := preV 8 (fun k => a_III (fun x0 x1 x2 μ => FM μ ∧ (k = 109)))
abbrev po_PM_line : List Value → Mm → Option Value → Mm → Prop := qV (fun k => b_III (fun x0 x1 x2 μ r μ' => r = some (.int (llr μ.2.1 x0 x1 x2 12 0)) ∧ μ' = μ))
theorem ft_PM_line : ∀ as μ, pr_PM_line as μ → μ.1 + 0 ≤ 131 ∧ cz μ.1 + 0 ≤ cz 131 := hf_S (n := 131) (Nat.le_refl _) (fun as μ h => by
  obtain ⟨k, r, rfl, hk, h⟩ := preV_e h
  obtain ⟨x0, x1, x2, rfl, h⟩ := a_III_e h
  exact h.1.1)
theorem nc_PM_line : ∀ x ∈ k_PM_line, isInv x.2.1 = false := by decide +kernel
set_option maxRecDepth 100000 in
set_option maxHeartbeats 4000000 in
theorem c_PM_line : Cn y_PM_line b_PM_line 5 (some .int) (rmm 0 0 0) (3 + 1) 0 0 pr_PM_line po_PM_line := cv_III (ci := 8) (f := fun k => fun x0 x1 x2 μ => FM μ ∧ (k = 109)) (g := fun k => fun x0 x1 x2 μ r μ' => r = some (.int (llr μ.2.1 x0 x1 x2 12 0)) ∧ μ' = μ) fun l k x0 x1 x2 μ hk h => by
  obtain ⟨hm, h⟩ := h
  obtain ⟨M, L, rfl⟩ := hm.e
  refine ky_met (own := R_PM) (ini := 0) (rb := 0) (nE := 131) (cd := k_PM_line) (C := (fun _ _ _ _ => False)) (by decide) rfl (fun h => by cases h) (Nat.le_of_ble_eq_true rfl) ⟨rfl, rfl⟩ (Or.inl ⟨rfl, rfl⟩) rfl rfl (by decide) ok_PM_line (fun x hx => CS.no (nc_PM_line x hx)) rt_PM_line (fun K hs => ?_)
  subst h
  have loop : ∀ (n c : Nat), c + n = 12 → llr M x0 x1 x2 n c = llr M x0 x1 x2 12 0 → K 3 [some (.ref 109), some (.int x0), some (.int x1), some (.int x2), some (.int (nI c))] [] (131, M, L, TT) := by
    intro n
    induction n with
    | zero =>
      intro c hcn hy
      rw [show c = 12 by omega]
      exact hs.go [3] 40 _ _ _ _ ⟨fun _ => ⟨rfl, fun z => (by cases z), congrArg (fun v => some (Value.int v)) hy, rfl⟩, fun z => absurd (by decide) z⟩
    | succ n ih =>
      intro c hcn hy
      have ec : (nI c).toNatClampNeg = c := nI_clamp (n := c) (by omega)
      have hx : vp_in (nI c) 12 := vp_in_nI (by omega) (by decide)
      have s56 : ¬ (¬ M 122 c < 0 ∧ M 122 c = x0 ∧ M 123 c = x1 ∧ M 124 c = x2) → K 56 [some (.ref 109), some (.int x0), some (.int x1), some (.int x2), some (.int (nI c))] [] (131, M, L, TT) := by
        intro hno
        have h9 := ih (c + 1) (by omega) (by rw [← hy]; exact (if_neg hno).symm)
        rw [nI_succ] at h9
        exact hs.go [56, 3] 10 _ _ _ _ h9
      refine hs.go [3, 56] 60 _ _ _ _ ⟨fun z => absurd z (nI_ge (a := c) (b := 12) (by omega) (by decide)), fun _ => ⟨rfl, _, rfl, rfl, hx, ?_⟩⟩
      show (M 122 (nI c).toNatClampNeg < 0 → _) ∧ (¬ M 122 (nI c).toNatClampNeg < 0 → _)
      rw [ec]
      refine ⟨fun h1 => s56 (fun z => z.1 h1), fun h1 => ⟨rfl, _, rfl, rfl, hx, ?_⟩⟩
      show (¬ M 122 (nI c).toNatClampNeg = x0 → _) ∧ (M 122 (nI c).toNatClampNeg = x0 → _)
      rw [ec]
      refine ⟨fun h2 => s56 (fun z => h2 z.2.1), fun h2 => ⟨rfl, _, rfl, rfl, hx, ?_⟩⟩
      show (¬ M 123 (nI c).toNatClampNeg = x1 → _) ∧ (M 123 (nI c).toNatClampNeg = x1 → _)
      rw [ec]
      refine ⟨fun h3 => s56 (fun z => h3 z.2.2.1), fun h3 => ⟨rfl, _, rfl, rfl, hx, ?_⟩⟩
      show (¬ M 124 (nI c).toNatClampNeg = x2 → _) ∧ (M 124 (nI c).toNatClampNeg = x2 → _)
      rw [ec]
      exact ⟨fun h4 => s56 (fun z => h4 z.2.2.2), fun h4 => ⟨rfl, fun z => (by cases z), congrArg (fun v => some (Value.int v)) ((if_pos ⟨h1, h2, h3, h4⟩).symm.trans hy), rfl⟩⟩
  exact hs.go [3] 40 _ _ _ _ (loop 12 0 rfl rfl)

theorem dn_PM_relation : y_PM_relation.cls ≠ "java/lang/invoke/MethodHandle" ∧ y_PM_relation.cls ≠ "java/lang/invoke/VarHandle" ∧ (parseMethodDescriptor y_PM_relation.desc).map (fun d => d.parameters.length) = some 1 := by decide +kernel
abbrev pr_PM_relation : List Value → Mm → Prop := preV 8 (fun k => a_I (fun x0 μ => FM μ ∧ (k = 109 ∧ PI μ.2.1)))
abbrev po_PM_relation : List Value → Mm → Option Value → Mm → Prop := qV (fun k => b_I (fun x0 μ r μ' => (r, μ') = (if (x0 = 1 ∨ x0 = 2) ∧ μ.2.1 109 0 < 14 then (some (.int (μ.2.1 109 0 + 1 - 1)), sI (sI μ 110 (μ.2.1 109 0).toNatClampNeg x0) 109 0 (μ.2.1 109 0 + 1)) else (some (.int (-1)), μ))))
theorem ft_PM_relation : ∀ as μ, pr_PM_relation as μ → μ.1 + 0 ≤ 131 ∧ cz μ.1 + 0 ≤ cz 131 := hf_S (n := 131) (Nat.le_refl _) (fun as μ h => by
  obtain ⟨k, r, rfl, hk, h⟩ := preV_e h
  obtain ⟨x0, rfl, h⟩ := a_I_e h
  exact h.1.1)
theorem nc_PM_relation : ∀ x ∈ k_PM_relation, isInv x.2.1 = false := by decide +kernel
set_option maxRecDepth 100000 in
set_option maxHeartbeats 4000000 in
theorem c_PM_relation : Cn y_PM_relation b_PM_relation 2 (some .int) (rmm 0 0 0) (1 + 1) 0 0 pr_PM_relation po_PM_relation := cv_I (ci := 8) (f := fun k => fun x0 μ => FM μ ∧ (k = 109 ∧ PI μ.2.1)) (g := fun k => fun x0 μ r μ' => (r, μ') = (if (x0 = 1 ∨ x0 = 2) ∧ μ.2.1 109 0 < 14 then (some (.int (μ.2.1 109 0 + 1 - 1)), sI (sI μ 110 (μ.2.1 109 0).toNatClampNeg x0) 109 0 (μ.2.1 109 0 + 1)) else (some (.int (-1)), μ))) fun l k x0 μ hk h => by
  obtain ⟨hm, h⟩ := h
  obtain ⟨M, L, rfl⟩ := hm.e
  refine ky_met (own := R_PM) (ini := 0) (rb := 0) (nE := 131) (cd := k_PM_relation) (C := (fun _ _ _ _ => False)) (by decide) rfl (fun h => by cases h) (Nat.le_of_ble_eq_true rfl) ⟨rfl, rfl⟩ (Or.inl ⟨rfl, rfl⟩) rfl rfl (by decide) ok_PM_relation (fun x hx => CS.no (nc_PM_relation x hx)) rt_PM_relation (fun K hs => ?_)
  obtain ⟨rfl, hc⟩ := h
  have hc : PI M := hc
  obtain ⟨n, hn9, hn14, en⟩ := hc.1
  have no : ¬ ((x0 = 1 ∨ x0 = 2) ∧ M 109 0 < 14) → K 19 [some (.ref 109), some (.int x0)] [] (131, M, L, TT) := by
    intro h
    exact hs.go [19] 40 _ _ _ _ ⟨rfl, fun z => (by cases z), (if_neg h).symm⟩
  refine hs.go [19] 60 _ _ _ _ ⟨rfl, fun h1 => no ?_, fun h1 => ⟨fun h2 => no ?_, fun h2 => ⟨fun h3 => ⟨rfl, _, rfl, rfl, rfl, ?_, rfl, rfl, rfl, rfl, fun z => (by cases z), (if_pos ?_).symm⟩, fun h3 => no ?_⟩⟩⟩
  · have h1 : M 109 0 = 14 := h1
    rw [h1]
    exact fun z => absurd z.2 (by decide)
  · rintro ⟨z | z, -⟩
    · rw [z] at h2; exact absurd h2 (by decide)
    · rw [z] at h2; exact absurd h2 (by decide)
  · show vp_in (M 109 0) 14
    have h1 : ¬ M 109 0 = 14 := h1
    rw [en] at h1 ⊢
    refine vp_in_nI ?_ (by decide)
    rcases Nat.lt_or_ge n 14 with z | z
    · exact z
    · exact absurd (show nI n = nI 14 by rw [show n = 14 by omega]) h1
  · refine ⟨?_, ?_⟩
    · have e2 := Int32.le_iff_toInt_le.mp (Int32.not_lt.mp h2)
      have e3 := Int32.le_iff_toInt_le.mp h3
      have f1 : (1 : Int32).toInt = 1 := rfl
      have f2 : (2 : Int32).toInt = 2 := rfl
      rw [f1] at e2
      rw [f2] at e3
      rcases (show x0.toInt = 1 ∨ x0.toInt = 2 by omega) with z | z
      · exact Or.inl (Int32.toInt_inj.mp (z.trans f1.symm))
      · exact Or.inr (Int32.toInt_inj.mp (z.trans f2.symm))
    · have h1 : ¬ M 109 0 = 14 := h1
      show M 109 0 < 14
      rw [en] at h1 ⊢
      refine nI_lt (a := n) (b := 14) ?_ (by decide)
      rcases Nat.lt_or_ge n 14 with z | z
      · exact z
      · exact absurd (show nI n = nI 14 by rw [show n = 14 by omega]) h1
  · rintro ⟨z | z, -⟩
    · rw [z] at h3; exact absurd (by decide) h3
    · rw [z] at h3; exact absurd (by decide) h3
