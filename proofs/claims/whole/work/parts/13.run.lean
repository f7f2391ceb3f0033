theorem in_lt20 {x : Int32} (h1 : 0 ≤ x) (h2 : x < 20) : vp_in x 20 := by
  rw [vp_in_iff]
  have e1 := Int32.le_iff_toInt_le.mp h1
  have e2 := Int32.lt_iff_toInt_lt.mp h2
  have e3 : (0 : Int32).toInt = 0 := rfl
  have e4 : (20 : Int32).toInt = 20 := rfl
  omega
theorem dn_AR_fill : y_AR_fill.cls ≠ "java/lang/invoke/MethodHandle" ∧ y_AR_fill.cls ≠ "java/lang/invoke/VarHandle" ∧ (parseMethodDescriptor y_AR_fill.desc).map (fun d => d.parameters.length) = some 2 := by decide +kernel
abbrev pr_AR_fillN (n : Nat) : List Value → Mm → Prop := a_RI (fun x0 x1 μ => μ.1 = n ∧ isA μ x0 0 = true ∧ (kd x0).2 ≤ 1000)
abbrev po_AR_fill : List Value → Mm → Option Value → Mm → Prop := b_RI (fun x0 x1 μ r μ' => r = none ∧ μ' = flI μ x0 x1)
abbrev pr_AR_fill : List Value → Mm → Prop := pr_AR_fillN 131
theorem ft_AR_fillN (n nE : Nat) (hn : n ≤ nE) : ∀ as μ, pr_AR_fillN n as μ → μ.1 + 0 ≤ nE ∧ cz μ.1 + 0 ≤ cz nE := hf_S (n := n) hn (fun as μ h => by
  obtain ⟨x0, x1, rfl, h⟩ := a_RI_e h
  exact h.1)
theorem ft_AR_fill : ∀ as μ, pr_AR_fill as μ → μ.1 + 0 ≤ 131 ∧ cz μ.1 + 0 ≤ cz 131 := ft_AR_fillN 131 131 (Nat.le_refl _)
theorem nc_AR_fill : ∀ x ∈ k_AR_fill, isInv x.2.1 = false := by decide +kernel
set_option maxRecDepth 100000 in
set_option maxHeartbeats 4000000 in
theorem c_AR_fillN (n : Nat) (hn : n ≤ 900) : Cn y_AR_fill b_AR_fill 4 none (rmm 0 0 0) 2 0 0 (pr_AR_fillN n) po_AR_fill := cn_RI (f := fun x0 x1 μ => μ.1 = n ∧ isA μ x0 0 = true ∧ (kd x0).2 ≤ 1000) (g := fun x0 x1 μ r μ' => r = none ∧ μ' = flI μ x0 x1) fun l x0 x1 μ h => by
  obtain ⟨m, f, g, z⟩ := μ
  obtain ⟨h1, ha, hl⟩ := h
  have h1 : m = n := h1
  subst h1
  refine ky_met (own := R_AR) (ini := 0) (rb := 3) (nE := m) (cd := k_AR_fill) (C := (fun _ _ _ _ => False)) (by decide) rfl (fun h => by cases h) (Nat.le_of_ble_eq_true rfl) ⟨rfl, rfl⟩ (Or.inr (Or.inr (Or.inr ⟨rfl, rfl⟩))) rfl rfl hn ok_AR_fill (fun x hx => CS.no (nc_AR_fill x hx)) rt_AR_fill (fun K hs => ?_)
  have hnb : Nat.beq x0 1001 = false := by
    have := (isA_e ha).2
    have : x0 < m := this
    cases hb : Nat.beq x0 1001 with
    | false => rfl
    | true => have := Nat.eq_of_beq_eq_true hb; omega
  have loop : ∀ (d c : Nat), c + d = (kd x0).2 → K 5 [some (.ref x0), some (.int x1), some (.int (nI c)), some (.int (nI (kd x0).2))] [] (m, upr f x0 (fun j => if j < c then x1 else f x0 j), g, z) := by
    intro d
    induction d with
    | zero =>
      intro c hc
      rw [show c = (kd x0).2 by omega]
      exact hs.go [5] 30 _ _ _ _ ⟨fun _ => ⟨rfl, rfl, rfl⟩, fun z => absurd (Int32.le_refl _) z⟩
    | succ d ih =>
      intro c hc
      have h9 := ih (c + 1) (by omega)
      rw [nI_succ, ← fil_s] at h9
      have hcl : (nI c).toNatClampNeg = c := nI_clamp (n := c) (by omega)
      refine hs.go [5] 30 _ _ _ _ ⟨fun z => absurd z (nI_ge (a := c) (b := (kd x0).2) (by omega) (by omega)), fun _ => ⟨ha, vp_in_nI (by omega) (by omega), ?_⟩⟩
      show K 5 _ _ (m, up2 _ x0 (nI c).toNatClampNeg x1, g, z)
      rw [hcl]
      exact h9
  have h0 := loop (kd x0).2 0 (by omega)
  rw [fil_0] at h0
  refine hs.go [5] 30 _ _ _ _ ?_
  show (match Nat.beq x0 1001 with
      | true => _
      | false => _)
  rw [hnb]
  exact ⟨ha, h0⟩
theorem c_AR_fill : Cn y_AR_fill b_AR_fill 4 none (rmm 0 0 0) 2 0 0 pr_AR_fill po_AR_fill := c_AR_fillN 131 (by decide)
def hok (h : Int32) : Prop := h = -1 ∨ vp_in h 20

theorem dn_RN_restart : y_RN_restart.cls ≠ "java/lang/invoke/MethodHandle" ∧ y_RN_restart.cls ≠ "java/lang/invoke/VarHandle" ∧ (parseMethodDescriptor y_RN_restart.desc).map (fun d => d.parameters.length) = some 0 := by decide +kernel
abbrev pr_RN_restart : List Value → Mm → Prop := preV 7 (fun k => a_0 (fun μ => FM μ ∧ (k = 105)))
abbrev po_RN_restart : List Value → Mm → Option Value → Mm → Prop := qV (fun k => b_0 (fun μ r μ' => r = none ∧ μ' = flI (sI μ 105 3 0) 106 (-1)))
theorem ft_RN_restart : ∀ as μ, pr_RN_restart as μ → μ.1 + 0 ≤ 131 ∧ cz μ.1 + 0 ≤ cz 131 := hf_S (n := 131) (Nat.le_refl _) (fun as μ h => by
  obtain ⟨k, r, rfl, hk, h⟩ := preV_e h
  obtain ⟨rfl, h⟩ := a_0_e h
  exact h.1.1)
def C_RN_restart : Cf := fun id => match id with
  | 0 => trF 2 pr_AR_fill po_AR_fill
  | _ => fun _ _ _ => False
set_option maxRecDepth 100000 in
theorem cs_RN_restart (l : Launch) : ∀ x ∈ k_RN_restart, CS l R_RN b_RN_restart 1 (rmm 1 0 0) 131 131 C_RN_restart x := fc (CS.no rfl) (fc (CS.no rfl) (fc (CS.no rfl) (fc (CS.no rfl) (fc (CS.no rfl) (fc (CS.no rfl) (fc (CS.S c_AR_fill wk_AR_fill wl_RN_21 wt_AR_fill wi_AR dn_AR_fill ⟨rfl, rfl⟩ ⟨by decide, by decide⟩ ft_AR_fill rfl (e_RN_restart_10).1) (fc (CS.no rfl) (fun _ h => absurd h List.not_mem_nil))))))))
set_option maxRecDepth 100000 in
set_option maxHeartbeats 4000000 in
theorem c_RN_restart : Cn y_RN_restart b_RN_restart 1 none (rmm 1 0 0) (0 + 1) 0 0 pr_RN_restart po_RN_restart := cv_0 (ci := 7) (f := fun k => fun μ => FM μ ∧ (k = 105)) (g := fun k => fun μ r μ' => r = none ∧ μ' = flI (sI μ 105 3 0) 106 (-1)) fun l k  μ hk h => by
  obtain ⟨hm, h⟩ := h
  obtain ⟨M, L, rfl⟩ := hm.e
  refine ky_met (own := R_RN) (ini := 0) (rb := 3) (nE := 131) (cd := k_RN_restart) (C := C_RN_restart) (by decide) rfl (fun h => by cases h) (Nat.le_of_ble_eq_true rfl) ⟨rfl, rfl⟩ (Or.inr (Or.inr (Or.inr ⟨rfl, rfl⟩))) rfl rfl (by decide) ok_RN_restart (cs_RN_restart l) rt_RN_restart (fun K hs => ?_)
  subst h
  refine hs.go [] 30 _ _ _ _ ⟨rfl, rfl, _, rfl, ⟨rfl, rfl, (by decide)⟩, rfl, rfl, ?_⟩
  rintro _ _ ⟨rfl, rfl⟩
  exact ⟨rfl, rfl, rfl⟩

theorem dn_RN_siteHeldBy : y_RN_siteHeldBy.cls ≠ "java/lang/invoke/MethodHandle" ∧ y_RN_siteHeldBy.cls ≠ "java/lang/invoke/VarHandle" ∧ (parseMethodDescriptor y_RN_siteHeldBy.desc).map (fun d => d.parameters.length) = some 1 := by decide +kernel
abbrev pr_RN_siteHeldBy : List Value → Mm → Prop := preV 7 (fun k => a_I (fun x0 μ => FM μ ∧ (k = 105 ∧ vp_in x0 6 ∧ hok (μ.2.1 106 x0.toNatClampNeg))))
abbrev po_RN_siteHeldBy : List Value → Mm → Option Value → Mm → Prop := qV (fun k => b_I (fun x0 μ r μ' => r = some (.int (if μ.2.1 106 x0.toNatClampNeg = -1 then -1 else μ.2.1 107 (μ.2.1 106 x0.toNatClampNeg).toNatClampNeg)) ∧ μ' = μ))
theorem ft_RN_siteHeldBy : ∀ as μ, pr_RN_siteHeldBy as μ → μ.1 + 0 ≤ 131 ∧ cz μ.1 + 0 ≤ cz 131 := hf_S (n := 131) (Nat.le_refl _) (fun as μ h => by
  obtain ⟨k, r, rfl, hk, h⟩ := preV_e h
  obtain ⟨x0, rfl, h⟩ := a_I_e h
  exact h.1.1)
theorem nc_RN_siteHeldBy : ∀ x ∈ k_RN_siteHeldBy, isInv x.2.1 = false := by decide +kernel
set_option maxRecDepth 100000 in
set_option maxHeartbeats 4000000 in
theorem c_RN_siteHeldBy : Cn y_RN_siteHeldBy b_RN_siteHeldBy 2 (some .int) (rmm 0 0 0) (1 + 1) 0 0 pr_RN_siteHeldBy po_RN_siteHeldBy := cv_I (ci := 7) (f := fun k => fun x0 μ => FM μ ∧ (k = 105 ∧ vp_in x0 6 ∧ hok (μ.2.1 106 x0.toNatClampNeg))) (g := fun k => fun x0 μ r μ' => r = some (.int (if μ.2.1 106 x0.toNatClampNeg = -1 then -1 else μ.2.1 107 (μ.2.1 106 x0.toNatClampNeg).toNatClampNeg)) ∧ μ' = μ) fun l k x0 μ hk h => by
  obtain ⟨hm, h⟩ := h
  obtain ⟨M, L, rfl⟩ := hm.e
  refine ky_met (own := R_RN) (ini := 0) (rb := 0) (nE := 131) (cd := k_RN_siteHeldBy) (C := (fun _ _ _ _ => False)) (by decide) rfl (fun h => by cases h) (Nat.le_of_ble_eq_true rfl) ⟨rfl, rfl⟩ (Or.inl ⟨rfl, rfl⟩) rfl rfl (by decide) ok_RN_siteHeldBy (fun x hx => CS.no (nc_RN_siteHeldBy x hx)) rt_RN_siteHeldBy (fun K hs => ?_)
  obtain ⟨rfl, hx, hh⟩ := h
  refine hs.go [] 30 _ _ _ _ ⟨rfl, _, rfl, rfl, hx, fun h1 => ⟨rfl, _, rfl, rfl, _, rfl, rfl, hx, rfl, hh.resolve_left h1, rfl, fun z => (by cases z), ?_, rfl⟩, fun h1 => ⟨rfl, fun z => (by cases z), ?_, rfl⟩⟩
  · exact congrArg (fun v => some (Value.int v)) (if_neg h1).symm
  · exact congrArg (fun v => some (Value.int v)) (if_pos h1).symm

theorem fx_in {h f : Int32} (hh : vp_in h 20) (hf : f = 0 ∨ f = 1) : vp_in (h * 2 + f) 40 := by
  obtain ⟨j, hj, rfl⟩ := vp_in_of hh (by decide)
  rcases hf with rfl | rfl
  · rw [show (nI j * 2 + 0 : Int32) = nI (j * 2 + 0) by rw [← nI_add, ← pk_mul]; rfl]
    exact vp_in_nI (by omega) (by decide)
  · rw [show (nI j * 2 + 1 : Int32) = nI (j * 2 + 1) by rw [← nI_add, ← pk_mul]; rfl]
    exact vp_in_nI (by omega) (by decide)
def ldM (μ : Mm) (x y f : Int32) : Mm := if μ.2.1 106 y.toNatClampNeg = -1 then μ else sI μ 106 x.toNatClampNeg (μ.2.1 108 (μ.2.1 106 y.toNatClampNeg * 2 + f).toNatClampNeg)
def stM (μ : Mm) (x y f : Int32) : Mm := if μ.2.1 106 x.toNatClampNeg = -1 then μ else sI μ 108 (μ.2.1 106 x.toNatClampNeg * 2 + f).toNatClampNeg (μ.2.1 106 y.toNatClampNeg)
def mkM (μ : Mm) (x y : Int32) : Mm := if μ.2.1 105 3 < 20 then sI (sI (sI (sI (sI μ 107 (μ.2.1 105 3).toNatClampNeg y) 108 (μ.2.1 105 3 * 2 + 0).toNatClampNeg (-1)) 108 (μ.2.1 105 3 * 2 + 1).toNatClampNeg (-1)) 106 x.toNatClampNeg (μ.2.1 105 3)) 105 3 (μ.2.1 105 3 + 1) else μ

theorem dn_RN_load : y_RN_load.cls ≠ "java/lang/invoke/MethodHandle" ∧ y_RN_load.cls ≠ "java/lang/invoke/VarHandle" ∧ (parseMethodDescriptor y_RN_load.desc).map (fun d => d.parameters.length) = some 3 := by decide +kernel
abbrev pr_RN_load : List Value → Mm → Prop := preV 7 (fun k => a_III (fun x0 x1 x2 μ => FM μ ∧ (k = 105 ∧ vp_in x0 6 ∧ vp_in x1 6 ∧ (x2 = 0 ∨ x2 = 1) ∧ hok (μ.2.1 106 x1.toNatClampNeg))))
abbrev po_RN_load : List Value → Mm → Option Value → Mm → Prop := qV (fun k => b_III (fun x0 x1 x2 μ r μ' => r = some (.int (b2 (¬ μ.2.1 106 x1.toNatClampNeg = -1))) ∧ μ' = ldM μ x0 x1 x2))
theorem ft_RN_load : ∀ as μ, pr_RN_load as μ → μ.1 + 0 ≤ 131 ∧ cz μ.1 + 0 ≤ cz 131 := hf_S (n := 131) (Nat.le_refl _) (fun as μ h => by
  obtain ⟨k, r, rfl, hk, h⟩ := preV_e h
  obtain ⟨x0, x1, x2, rfl, h⟩ := a_III_e h
  exact h.1.1)
theorem nc_RN_load : ∀ x ∈ k_RN_load, isInv x.2.1 = false := by decide +kernel
set_option maxRecDepth 100000 in
set_option maxHeartbeats 4000000 in
theorem c_RN_load : Cn y_RN_load b_RN_load 4 (some .boolean) (rmm 0 0 0) (3 + 1) 0 0 pr_RN_load po_RN_load := cv_III (ci := 7) (f := fun k => fun x0 x1 x2 μ => FM μ ∧ (k = 105 ∧ vp_in x0 6 ∧ vp_in x1 6 ∧ (x2 = 0 ∨ x2 = 1) ∧ hok (μ.2.1 106 x1.toNatClampNeg))) (g := fun k => fun x0 x1 x2 μ r μ' => r = some (.int (b2 (¬ μ.2.1 106 x1.toNatClampNeg = -1))) ∧ μ' = ldM μ x0 x1 x2) fun l k x0 x1 x2 μ hk h => by
  obtain ⟨hm, h⟩ := h
  obtain ⟨M, L, rfl⟩ := hm.e
  refine ky_met (own := R_RN) (ini := 0) (rb := 1) (nE := 131) (cd := k_RN_load) (C := (fun _ _ _ _ => False)) (by decide) rfl (fun h => by cases h) (Nat.le_of_ble_eq_true rfl) ⟨rfl, rfl⟩ (Or.inr (Or.inl ⟨rfl, rfl⟩)) rfl rfl (by decide) ok_RN_load (fun x hx => CS.no (nc_RN_load x hx)) rt_RN_load (fun K hs => ?_)
  obtain ⟨rfl, hx, hy, hf, hh⟩ := h
  refine hs.go [] 40 _ _ _ _ ⟨rfl, _, rfl, rfl, hy, fun h1 => ⟨rfl, _, rfl, rfl, _, rfl, rfl, _, rfl, rfl, hy, rfl, fx_in (hh.resolve_left h1) hf, rfl, hx, rfl, fun _ => Or.inr rfl, vb_t h1, (if_neg h1).symm⟩, fun h1 => ⟨rfl, fun _ => Or.inl rfl, vb_f (fun z => z h1), (if_pos h1).symm⟩⟩

theorem dn_RN_store : y_RN_store.cls ≠ "java/lang/invoke/MethodHandle" ∧ y_RN_store.cls ≠ "java/lang/invoke/VarHandle" ∧ (parseMethodDescriptor y_RN_store.desc).map (fun d => d.parameters.length) = some 3 := by decide +kernel
abbrev pr_RN_store : List Value → Mm → Prop := preV 7 (fun k => a_III (fun x0 x1 x2 μ => FM μ ∧ (k = 105 ∧ vp_in x0 6 ∧ vp_in x1 6 ∧ (x2 = 0 ∨ x2 = 1) ∧ hok (μ.2.1 106 x0.toNatClampNeg))))
abbrev po_RN_store : List Value → Mm → Option Value → Mm → Prop := qV (fun k => b_III (fun x0 x1 x2 μ r μ' => r = some (.int (b2 (¬ μ.2.1 106 x0.toNatClampNeg = -1))) ∧ μ' = stM μ x0 x1 x2))
theorem ft_RN_store : ∀ as μ, pr_RN_store as μ → μ.1 + 0 ≤ 131 ∧ cz μ.1 + 0 ≤ cz 131 := hf_S (n := 131) (Nat.le_refl _) (fun as μ h => by
  obtain ⟨k, r, rfl, hk, h⟩ := preV_e h
  obtain ⟨x0, x1, x2, rfl, h⟩ := a_III_e h
  exact h.1.1)
theorem nc_RN_store : ∀ x ∈ k_RN_store, isInv x.2.1 = false := by decide +kernel
set_option maxRecDepth 100000 in
set_option maxHeartbeats 4000000 in
theorem c_RN_store : Cn y_RN_store b_RN_store 4 (some .boolean) (rmm 0 0 0) (3 + 1) 0 0 pr_RN_store po_RN_store := cv_III (ci := 7) (f := fun k => fun x0 x1 x2 μ => FM μ ∧ (k = 105 ∧ vp_in x0 6 ∧ vp_in x1 6 ∧ (x2 = 0 ∨ x2 = 1) ∧ hok (μ.2.1 106 x0.toNatClampNeg))) (g := fun k => fun x0 x1 x2 μ r μ' => r = some (.int (b2 (¬ μ.2.1 106 x0.toNatClampNeg = -1))) ∧ μ' = stM μ x0 x1 x2) fun l k x0 x1 x2 μ hk h => by
  obtain ⟨hm, h⟩ := h
  obtain ⟨M, L, rfl⟩ := hm.e
  refine ky_met (own := R_RN) (ini := 0) (rb := 1) (nE := 131) (cd := k_RN_store) (C := (fun _ _ _ _ => False)) (by decide) rfl (fun h => by cases h) (Nat.le_of_ble_eq_true rfl) ⟨rfl, rfl⟩ (Or.inr (Or.inl ⟨rfl, rfl⟩)) rfl rfl (by decide) ok_RN_store (fun x hx => CS.no (nc_RN_store x hx)) rt_RN_store (fun K hs => ?_)
  obtain ⟨rfl, hx, hy, hf, hh⟩ := h
  refine hs.go [] 40 _ _ _ _ ⟨rfl, _, rfl, rfl, hx, fun h1 => ⟨rfl, _, rfl, rfl, _, rfl, rfl, hx, rfl, _, rfl, rfl, hy, rfl, fx_in (hh.resolve_left h1) hf, rfl, fun _ => Or.inr rfl, vb_t h1, (if_neg h1).symm⟩, fun h1 => ⟨rfl, fun _ => Or.inl rfl, vb_f (fun z => z h1), (if_pos h1).symm⟩⟩

theorem dn_RN_makeObject : y_RN_makeObject.cls ≠ "java/lang/invoke/MethodHandle" ∧ y_RN_makeObject.cls ≠ "java/lang/invoke/VarHandle" ∧ (parseMethodDescriptor y_RN_makeObject.desc).map (fun d => d.parameters.length) = some 2 := by decide +kernel
abbrev pr_RN_makeObject : List Value → Mm → Prop := preV 7 (fun k => a_II (fun x0 x1 μ => FM μ ∧ (k = 105 ∧ vp_in x0 6 ∧ 0 ≤ μ.2.1 105 3)))
abbrev po_RN_makeObject : List Value → Mm → Option Value → Mm → Prop := qV (fun k => b_II (fun x0 x1 μ r μ' => r = some (.int (b2 (μ.2.1 105 3 < 20))) ∧ μ' = mkM μ x0 x1))
theorem ft_RN_makeObject : ∀ as μ, pr_RN_makeObject as μ → μ.1 + 0 ≤ 131 ∧ cz μ.1 + 0 ≤ cz 131 := hf_S (n := 131) (Nat.le_refl _) (fun as μ h => by
  obtain ⟨k, r, rfl, hk, h⟩ := preV_e h
  obtain ⟨x0, x1, rfl, h⟩ := a_II_e h
  exact h.1.1)
theorem nc_RN_makeObject : ∀ x ∈ k_RN_makeObject, isInv x.2.1 = false := by decide +kernel
set_option maxRecDepth 100000 in
set_option maxHeartbeats 4000000 in
theorem c_RN_makeObject : Cn y_RN_makeObject b_RN_makeObject 4 (some .boolean) (rmm 0 0 0) (2 + 1) 0 0 pr_RN_makeObject po_RN_makeObject := cv_II (ci := 7) (f := fun k => fun x0 x1 μ => FM μ ∧ (k = 105 ∧ vp_in x0 6 ∧ 0 ≤ μ.2.1 105 3)) (g := fun k => fun x0 x1 μ r μ' => r = some (.int (b2 (μ.2.1 105 3 < 20))) ∧ μ' = mkM μ x0 x1) fun l k x0 x1 μ hk h => by
  obtain ⟨hm, h⟩ := h
  obtain ⟨M, L, rfl⟩ := hm.e
  refine ky_met (own := R_RN) (ini := 0) (rb := 1) (nE := 131) (cd := k_RN_makeObject) (C := (fun _ _ _ _ => False)) (by decide) rfl (fun h => by cases h) (Nat.le_of_ble_eq_true rfl) ⟨rfl, rfl⟩ (Or.inr (Or.inl ⟨rfl, rfl⟩)) rfl rfl (by decide) ok_RN_makeObject (fun x hx => CS.no (nc_RN_makeObject x hx)) rt_RN_makeObject (fun K hs => ?_)
  obtain ⟨rfl, hx, h0⟩ := h
  have h0 : 0 ≤ M 105 3 := h0
  refine hs.go [23] 40 _ _ _ _ ⟨rfl, fun h1 => ?_, fun h1 => ⟨rfl, fun _ => Or.inl rfl, vb_f h1, (if_neg h1).symm⟩⟩
  have h1 : M 105 3 < 20 := h1
  have hin : vp_in (M 105 3) 20 := in_lt20 h0 h1
  refine ⟨rfl, _, rfl, rfl, rfl, hin, ?_⟩
  refine hs.go [23] 40 _ _ _ _ ⟨fun z => absurd z (by decide), fun _ => ⟨rfl, _, rfl, rfl, rfl, fx_in hin (Or.inl rfl), ?_⟩⟩
  refine hs.go [23] 40 _ _ _ _ ⟨fun z => absurd z (by decide), fun _ => ⟨rfl, _, rfl, rfl, rfl, fx_in hin (Or.inr rfl), ?_⟩⟩
  refine hs.go [23] 40 _ _ _ _ ⟨fun _ => ⟨rfl, _, rfl, rfl, rfl, hx, rfl, rfl, rfl, fun _ => Or.inr rfl, vb_t h1, (if_pos h1).symm⟩, fun z => absurd (by decide) z⟩

theorem sI_1 (μ : Mm) (k j : Nat) (x : Int32) : (sI μ k j x).1 = μ.1 := by
  obtain ⟨n, f, g, z⟩ := μ
  rfl
theorem mk_1 (μ : Mm) (x y : Int32) : (mkM μ x y).1 = μ.1 := by
  unfold mkM
  split
  · simp only [sI_1]
  · rfl
theorem ld_1 (μ : Mm) (x y f : Int32) : (ldM μ x y f).1 = μ.1 := by
  unfold ldM
  split
  · rfl
  · exact sI_1 _ _ _ _
theorem st_1 (μ : Mm) (x y f : Int32) : (stM μ x y f).1 = μ.1 := by
  unfold stM
  split
  · rfl
  · exact sI_1 _ _ _ _
theorem dn_RN_carryOut : y_RN_carryOut.cls ≠ "java/lang/invoke/MethodHandle" ∧ y_RN_carryOut.cls ≠ "java/lang/invoke/VarHandle" ∧ (parseMethodDescriptor y_RN_carryOut.desc).map (fun d => d.parameters.length) = some 3 := by decide +kernel
abbrev pr_RN_carryOut : List Value → Mm → Prop := preV 7 (fun k => a_III (fun x0 x1 x2 μ => FM μ ∧ (k = 105 ∧ vp_in x1 6 ∧ vp_in x2 6 ∧ 0 ≤ μ.2.1 105 3 ∧ (∀ j, j < 6 → hok (μ.2.1 106 j)))))
abbrev po_RN_carryOut : List Value → Mm → Option Value → Mm → Prop := qV (fun k => b_III (fun x0 x1 x2 μ r μ' => (r, μ') = (if x0 = 0 then (some (.int (b2 (μ.2.1 105 3 < 20))), mkM μ x1 x2) else if x0 = 1 then (some (.int 1), sI μ 106 x1.toNatClampNeg (μ.2.1 106 x2.toNatClampNeg)) else if x0 = 2 then (some (.int (b2 (¬ μ.2.1 106 x2.toNatClampNeg = -1))), ldM μ x1 x2 0) else if x0 = 3 then (some (.int (b2 (¬ μ.2.1 106 x1.toNatClampNeg = -1))), stM μ x1 x2 0) else if x0 = 4 then (some (.int (b2 (¬ μ.2.1 106 x2.toNatClampNeg = -1))), ldM μ x1 x2 1) else if x0 = 5 then (some (.int (b2 (¬ μ.2.1 106 x1.toNatClampNeg = -1))), stM μ x1 x2 1) else (some (.int 0), μ))))
theorem ft_RN_carryOut : ∀ as μ, pr_RN_carryOut as μ → μ.1 + 0 ≤ 131 ∧ cz μ.1 + 0 ≤ cz 131 := hf_S (n := 131) (Nat.le_refl _) (fun as μ h => by
  obtain ⟨k, r, rfl, hk, h⟩ := preV_e h
  obtain ⟨x0, x1, x2, rfl, h⟩ := a_III_e h
  exact h.1.1)
def C_RN_carryOut : Cf := fun id => match id with
  | 0 => trF (2 + 1) pr_RN_makeObject po_RN_makeObject
  | 1 => trF (3 + 1) pr_RN_load po_RN_load
  | 2 => trF (3 + 1) pr_RN_store po_RN_store
  | _ => fun _ _ _ => False
set_option maxRecDepth 100000 in
theorem cs_RN_carryOut (l : Launch) : ∀ x ∈ k_RN_carryOut, CS l R_RN b_RN_carryOut 4 (rmm 1 0 0) 131 131 C_RN_carryOut x := fc (CS.no rfl) (fc (CS.no rfl) (fc (CS.no rfl) (fc (CS.no rfl) (fc (CS.no rfl) (fc (CS.V c_RN_makeObject wk_RN_makeObject wl_RN_31 wm_RN_makeObject we_RN_makeObject rfl rfl wi_RN dn_RN_makeObject ⟨rfl, rfl⟩ ⟨by decide, by decide⟩ ft_RN_makeObject rfl (e_RN_carryOut_43).1) (fc (CS.no rfl) (fc (CS.no rfl) (fc (CS.no rfl) (fc (CS.no rfl) (fc (CS.no rfl) (fc (CS.no rfl) (fc (CS.no rfl) (fc (CS.no rfl) (fc (CS.no rfl) (fc (CS.no rfl) (fc (CS.no rfl) (fc (CS.no rfl) (fc (CS.no rfl) (fc (CS.no rfl) (fc (CS.no rfl) (fc (CS.V c_RN_load wk_RN_load wl_RN_35 wm_RN_load we_RN_load rfl rfl wi_RN dn_RN_load ⟨rfl, rfl⟩ ⟨by decide, by decide⟩ ft_RN_load rfl (e_RN_carryOut_65).1) (fc (CS.no rfl) (fc (CS.no rfl) (fc (CS.no rfl) (fc (CS.no rfl) (fc (CS.no rfl) (fc (CS.V c_RN_store wk_RN_store wl_RN_39 wm_RN_store we_RN_store rfl rfl wi_RN dn_RN_store ⟨rfl, rfl⟩ ⟨by decide, by decide⟩ ft_RN_store rfl (e_RN_carryOut_73).1) (fc (CS.no rfl) (fc (CS.no rfl) (fc (CS.no rfl) (fc (CS.no rfl) (fc (CS.no rfl) (fc (CS.V c_RN_load wk_RN_load wl_RN_35 wm_RN_load we_RN_load rfl rfl wi_RN dn_RN_load ⟨rfl, rfl⟩ ⟨by decide, by decide⟩ ft_RN_load rfl (e_RN_carryOut_81).1) (fc (CS.no rfl) (fc (CS.no rfl) (fc (CS.no rfl) (fc (CS.no rfl) (fc (CS.no rfl) (fc (CS.V c_RN_store wk_RN_store wl_RN_39 wm_RN_store we_RN_store rfl rfl wi_RN dn_RN_store ⟨rfl, rfl⟩ ⟨by decide, by decide⟩ ft_RN_store rfl (e_RN_carryOut_89).1) (fc (CS.no rfl) (fc (CS.no rfl) (fc (CS.no rfl) (fun _ h => absurd h List.not_mem_nil)))))))))))))))))))))))))))))))))))))))))))
set_option maxRecDepth 100000 in
set_option maxHeartbeats 4000000 in
theorem c_RN_carryOut : Cn y_RN_carryOut b_RN_carryOut 4 (some .boolean) (rmm 1 0 0) (3 + 1) 0 0 pr_RN_carryOut po_RN_carryOut := cv_III (ci := 7) (f := fun k => fun x0 x1 x2 μ => FM μ ∧ (k = 105 ∧ vp_in x1 6 ∧ vp_in x2 6 ∧ 0 ≤ μ.2.1 105 3 ∧ (∀ j, j < 6 → hok (μ.2.1 106 j)))) (g := fun k => fun x0 x1 x2 μ r μ' => (r, μ') = (if x0 = 0 then (some (.int (b2 (μ.2.1 105 3 < 20))), mkM μ x1 x2) else if x0 = 1 then (some (.int 1), sI μ 106 x1.toNatClampNeg (μ.2.1 106 x2.toNatClampNeg)) else if x0 = 2 then (some (.int (b2 (¬ μ.2.1 106 x2.toNatClampNeg = -1))), ldM μ x1 x2 0) else if x0 = 3 then (some (.int (b2 (¬ μ.2.1 106 x1.toNatClampNeg = -1))), stM μ x1 x2 0) else if x0 = 4 then (some (.int (b2 (¬ μ.2.1 106 x2.toNatClampNeg = -1))), ldM μ x1 x2 1) else if x0 = 5 then (some (.int (b2 (¬ μ.2.1 106 x1.toNatClampNeg = -1))), stM μ x1 x2 1) else (some (.int 0), μ))) fun l k x0 x1 x2 μ hk h => by
  obtain ⟨hm, h⟩ := h
  obtain ⟨M, L, rfl⟩ := hm.e
  refine ky_met (own := R_RN) (ini := 0) (rb := 1) (nE := 131) (cd := k_RN_carryOut) (C := C_RN_carryOut) (by decide) rfl (fun h => by cases h) (Nat.le_of_ble_eq_true rfl) ⟨rfl, rfl⟩ (Or.inr (Or.inl ⟨rfl, rfl⟩)) rfl rfl (by decide) ok_RN_carryOut (cs_RN_carryOut l) rt_RN_carryOut (fun K hs => ?_)
  obtain ⟨rfl, hx, hy, h0, hh⟩ := h
  have hhx := hh x1.toNatClampNeg (Nat.not_le.mp fun q => hx (Or.inr q))
  have hhy := hh x2.toNatClampNeg (Nat.not_le.mp fun q => hy (Or.inr q))
  refine hs.go [] 40 _ _ _ _ ⟨fun e0 => ⟨⟨rfl, ⟨rfl, rfl⟩, rfl, hx, h0⟩, rfl, rfl, ?_⟩, fun e0 => ⟨fun e1 => ⟨rfl, _, rfl, rfl, _, rfl, rfl, hy, rfl, hx, rfl, fun _ => Or.inr rfl, ?_⟩, fun e1 => ⟨fun e2 => ⟨⟨rfl, ⟨rfl, rfl⟩, rfl, hx, hy, Or.inl rfl, hhy⟩, rfl, rfl, ?_⟩, fun e2 => ⟨fun e3 => ⟨⟨rfl, ⟨rfl, rfl⟩, rfl, hx, hy, Or.inl rfl, hhx⟩, rfl, rfl, ?_⟩, fun e3 => ⟨fun e4 => ⟨⟨rfl, ⟨rfl, rfl⟩, rfl, hx, hy, Or.inr rfl, hhy⟩, rfl, rfl, ?_⟩, fun e4 => ⟨fun e5 => ⟨⟨rfl, ⟨rfl, rfl⟩, rfl, hx, hy, Or.inr rfl, hhx⟩, rfl, rfl, ?_⟩, fun e5 => ⟨rfl, fun _ => Or.inl rfl, ?_⟩⟩⟩⟩⟩⟩⟩
  · rintro _ _ ⟨rfl, rfl⟩
    exact ⟨mk_1 (131, M, L, TT) x1 x2, fun _ => b2_01 _, (if_pos e0).symm⟩
  · exact ((if_neg e0).trans (if_pos e1)).symm
  · rintro _ _ ⟨rfl, rfl⟩
    exact ⟨ld_1 (131, M, L, TT) x1 x2 0, fun _ => b2_01 _, ((if_neg e0).trans ((if_neg e1).trans (if_pos e2))).symm⟩
  · rintro _ _ ⟨rfl, rfl⟩
    exact ⟨st_1 (131, M, L, TT) x1 x2 0, fun _ => b2_01 _, ((if_neg e0).trans ((if_neg e1).trans ((if_neg e2).trans (if_pos e3)))).symm⟩
  · rintro _ _ ⟨rfl, rfl⟩
    exact ⟨ld_1 (131, M, L, TT) x1 x2 1, fun _ => b2_01 _, ((if_neg e0).trans ((if_neg e1).trans ((if_neg e2).trans ((if_neg e3).trans (if_pos e4))))).symm⟩
  · rintro _ _ ⟨rfl, rfl⟩
    exact ⟨st_1 (131, M, L, TT) x1 x2 1, fun _ => b2_01 _, ((if_neg e0).trans ((if_neg e1).trans ((if_neg e2).trans ((if_neg e3).trans ((if_neg e4).trans (if_pos e5)))))).symm⟩
  · exact ((if_neg e0).trans ((if_neg e1).trans ((if_neg e2).trans ((if_neg e3).trans ((if_neg e4).trans (if_neg e5)))))).symm
