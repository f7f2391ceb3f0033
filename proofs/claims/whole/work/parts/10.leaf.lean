theorem dn_PF_isValue : y_PF_isValue.cls ≠ "java/lang/invoke/MethodHandle" ∧ y_PF_isValue.cls ≠ "java/lang/invoke/VarHandle" ∧ (parseMethodDescriptor y_PF_isValue.desc).map (fun d => d.parameters.length) = some 1 := by decide +kernel
abbrev pr_PF_isValue : List Value → Mm → Prop := a_I (fun x0 μ => FM μ ∧ (True))
abbrev po_PF_isValue : List Value → Mm → Option Value → Mm → Prop := b_I (fun x0 μ r μ' => r = some (.int (b2 (0 ≤ x0 ∧ x0 < 6))) ∧ μ' = μ)
theorem ft_PF_isValue : ∀ as μ, pr_PF_isValue as μ → μ.1 + 0 ≤ 131 ∧ cz μ.1 + 0 ≤ cz 131 := hf_S (n := 131) (Nat.le_refl _) (fun as μ h => by
  obtain ⟨x0, rfl, h⟩ := a_I_e h
  exact h.1.1)
theorem nc_PF_isValue : ∀ x ∈ k_PF_isValue, isInv x.2.1 = false := by decide +kernel
set_option maxRecDepth 100000 in
set_option maxHeartbeats 4000000 in
theorem c_PF_isValue : Cn y_PF_isValue b_PF_isValue 1 (some .boolean) (rmm 0 0 0) 1 0 0 pr_PF_isValue po_PF_isValue := cn_I (f := fun x0 μ => FM μ ∧ (True)) (g := fun x0 μ r μ' => r = some (.int (b2 (0 ≤ x0 ∧ x0 < 6))) ∧ μ' = μ) fun l x0 μ h => by
  obtain ⟨hm, h⟩ := h
  obtain ⟨M, L, rfl⟩ := hm.e
  refine ky_met (own := R_PF) (ini := 0) (rb := 1) (nE := 131) (cd := k_PF_isValue) (C := (fun _ _ _ _ => False)) (by decide) rfl (fun h => by cases h) (Nat.le_of_ble_eq_true rfl) ⟨rfl, rfl⟩ (Or.inr (Or.inl ⟨rfl, rfl⟩)) rfl rfl (by decide) ok_PF_isValue (fun x hx => CS.no (nc_PF_isValue x hx)) rt_PF_isValue (fun K hs => ?_)
  refine hs.go [] 20 _ _ _ _ ⟨fun h1 => ⟨rfl, fun _ => Or.inl rfl, ?_, rfl⟩, fun h1 => ⟨fun h2 => ⟨rfl, fun _ => Or.inl rfl, ?_, rfl⟩, fun h2 => ⟨rfl, fun _ => Or.inr rfl, ?_, rfl⟩⟩⟩
  · rw [b2_f (fun z => Int32.not_lt.mpr z.1 h1)]
  · rw [b2_f (fun z => Int32.not_lt.mpr h2 z.2)]
  · rw [b2_t ⟨Int32.not_lt.mp h1, Int32.not_le.mp h2⟩]

theorem dn_PF_isLine : y_PF_isLine.cls ≠ "java/lang/invoke/MethodHandle" ∧ y_PF_isLine.cls ≠ "java/lang/invoke/VarHandle" ∧ (parseMethodDescriptor y_PF_isLine.desc).map (fun d => d.parameters.length) = some 1 := by decide +kernel
abbrev pr_PF_isLine : List Value → Mm → Prop := a_I (fun x0 μ => FM μ ∧ (True))
abbrev po_PF_isLine : List Value → Mm → Option Value → Mm → Prop := b_I (fun x0 μ r μ' => r = some (.int (b2 (0 ≤ x0 ∧ x0 < 12))) ∧ μ' = μ)
theorem ft_PF_isLine : ∀ as μ, pr_PF_isLine as μ → μ.1 + 0 ≤ 131 ∧ cz μ.1 + 0 ≤ cz 131 := hf_S (n := 131) (Nat.le_refl _) (fun as μ h => by
  obtain ⟨x0, rfl, h⟩ := a_I_e h
  exact h.1.1)
theorem nc_PF_isLine : ∀ x ∈ k_PF_isLine, isInv x.2.1 = false := by decide +kernel
set_option maxRecDepth 100000 in
set_option maxHeartbeats 4000000 in
theorem c_PF_isLine : Cn y_PF_isLine b_PF_isLine 1 (some .boolean) (rmm 0 0 0) 1 0 0 pr_PF_isLine po_PF_isLine := cn_I (f := fun x0 μ => FM μ ∧ (True)) (g := fun x0 μ r μ' => r = some (.int (b2 (0 ≤ x0 ∧ x0 < 12))) ∧ μ' = μ) fun l x0 μ h => by
  obtain ⟨hm, h⟩ := h
  obtain ⟨M, L, rfl⟩ := hm.e
  refine ky_met (own := R_PF) (ini := 0) (rb := 1) (nE := 131) (cd := k_PF_isLine) (C := (fun _ _ _ _ => False)) (by decide) rfl (fun h => by cases h) (Nat.le_of_ble_eq_true rfl) ⟨rfl, rfl⟩ (Or.inr (Or.inl ⟨rfl, rfl⟩)) rfl rfl (by decide) ok_PF_isLine (fun x hx => CS.no (nc_PF_isLine x hx)) rt_PF_isLine (fun K hs => ?_)
  refine hs.go [] 20 _ _ _ _ ⟨fun h1 => ⟨rfl, fun _ => Or.inl rfl, ?_, rfl⟩, fun h1 => ⟨fun h2 => ⟨rfl, fun _ => Or.inl rfl, ?_, rfl⟩, fun h2 => ⟨rfl, fun _ => Or.inr rfl, ?_, rfl⟩⟩⟩
  · rw [b2_f (fun z => Int32.not_lt.mpr z.1 h1)]
  · rw [b2_f (fun z => Int32.not_lt.mpr h2 z.2)]
  · rw [b2_t ⟨Int32.not_lt.mp h1, Int32.not_le.mp h2⟩]

theorem dn_PF_isOperation : y_PF_isOperation.cls ≠ "java/lang/invoke/MethodHandle" ∧ y_PF_isOperation.cls ≠ "java/lang/invoke/VarHandle" ∧ (parseMethodDescriptor y_PF_isOperation.desc).map (fun d => d.parameters.length) = some 1 := by decide +kernel
abbrev pr_PF_isOperation : List Value → Mm → Prop := a_I (fun x0 μ => FM μ ∧ (True))
abbrev po_PF_isOperation : List Value → Mm → Option Value → Mm → Prop := b_I (fun x0 μ r μ' => r = some (.int (b2 (0 ≤ x0 ∧ x0 < 6))) ∧ μ' = μ)
theorem ft_PF_isOperation : ∀ as μ, pr_PF_isOperation as μ → μ.1 + 0 ≤ 131 ∧ cz μ.1 + 0 ≤ cz 131 := hf_S (n := 131) (Nat.le_refl _) (fun as μ h => by
  obtain ⟨x0, rfl, h⟩ := a_I_e h
  exact h.1.1)
theorem nc_PF_isOperation : ∀ x ∈ k_PF_isOperation, isInv x.2.1 = false := by decide +kernel
set_option maxRecDepth 100000 in
set_option maxHeartbeats 4000000 in
theorem c_PF_isOperation : Cn y_PF_isOperation b_PF_isOperation 1 (some .boolean) (rmm 0 0 0) 1 0 0 pr_PF_isOperation po_PF_isOperation := cn_I (f := fun x0 μ => FM μ ∧ (True)) (g := fun x0 μ r μ' => r = some (.int (b2 (0 ≤ x0 ∧ x0 < 6))) ∧ μ' = μ) fun l x0 μ h => by
  obtain ⟨hm, h⟩ := h
  obtain ⟨M, L, rfl⟩ := hm.e
  refine ky_met (own := R_PF) (ini := 0) (rb := 1) (nE := 131) (cd := k_PF_isOperation) (C := (fun _ _ _ _ => False)) (by decide) rfl (fun h => by cases h) (Nat.le_of_ble_eq_true rfl) ⟨rfl, rfl⟩ (Or.inr (Or.inl ⟨rfl, rfl⟩)) rfl rfl (by decide) ok_PF_isOperation (fun x hx => CS.no (nc_PF_isOperation x hx)) rt_PF_isOperation (fun K hs => ?_)
  refine hs.go [] 20 _ _ _ _ ⟨fun h1 => ⟨rfl, fun _ => Or.inl rfl, ?_, rfl⟩, fun h1 => ⟨fun h2 => ⟨rfl, fun _ => Or.inl rfl, ?_, rfl⟩, fun h2 => ⟨rfl, fun _ => Or.inr rfl, ?_, rfl⟩⟩⟩
  · rw [b2_f (fun z => Int32.not_lt.mpr z.1 h1)]
  · rw [b2_f (fun z => Int32.not_lt.mpr h2 z.2)]
  · rw [b2_t ⟨Int32.not_lt.mp h1, Int32.not_le.mp h2⟩]

theorem dn_PF_cell : y_PF_cell.cls ≠ "java/lang/invoke/MethodHandle" ∧ y_PF_cell.cls ≠ "java/lang/invoke/VarHandle" ∧ (parseMethodDescriptor y_PF_cell.desc).map (fun d => d.parameters.length) = some 2 := by decide +kernel
abbrev pr_PF_cell : List Value → Mm → Prop := a_II (fun x0 x1 μ => FM μ ∧ (True))
abbrev po_PF_cell : List Value → Mm → Option Value → Mm → Prop := b_II (fun x0 x1 μ r μ' => r = some (.int (x0 * 6 + x1)) ∧ μ' = μ)
theorem ft_PF_cell : ∀ as μ, pr_PF_cell as μ → μ.1 + 0 ≤ 131 ∧ cz μ.1 + 0 ≤ cz 131 := hf_S (n := 131) (Nat.le_refl _) (fun as μ h => by
  obtain ⟨x0, x1, rfl, h⟩ := a_II_e h
  exact h.1.1)
theorem nc_PF_cell : ∀ x ∈ k_PF_cell, isInv x.2.1 = false := by decide +kernel
set_option maxRecDepth 100000 in
set_option maxHeartbeats 4000000 in
theorem c_PF_cell : Cn y_PF_cell b_PF_cell 2 (some .int) (rmm 0 0 0) 2 0 0 pr_PF_cell po_PF_cell := cn_II (f := fun x0 x1 μ => FM μ ∧ (True)) (g := fun x0 x1 μ r μ' => r = some (.int (x0 * 6 + x1)) ∧ μ' = μ) fun l x0 x1 μ h => by
  obtain ⟨hm, h⟩ := h
  obtain ⟨M, L, rfl⟩ := hm.e
  refine ky_met (own := R_PF) (ini := 0) (rb := 0) (nE := 131) (cd := k_PF_cell) (C := (fun _ _ _ _ => False)) (by decide) rfl (fun h => by cases h) (Nat.le_of_ble_eq_true rfl) ⟨rfl, rfl⟩ (Or.inl ⟨rfl, rfl⟩) rfl rfl (by decide) ok_PF_cell (fun x hx => CS.no (nc_PF_cell x hx)) rt_PF_cell (fun K hs => ?_)
  exact hs.go [] 20 _ _ _ _ ⟨rfl, fun h => (by cases h), rfl, rfl⟩

theorem dn_PM_bit : y_PM_bit.cls ≠ "java/lang/invoke/MethodHandle" ∧ y_PM_bit.cls ≠ "java/lang/invoke/VarHandle" ∧ (parseMethodDescriptor y_PM_bit.desc).map (fun d => d.parameters.length) = some 2 := by decide +kernel
abbrev pr_PM_bit : List Value → Mm → Prop := a_II (fun x0 x1 μ => FM μ ∧ (True))
abbrev po_PM_bit : List Value → Mm → Option Value → Mm → Prop := b_II (fun x0 x1 μ r μ' => r = some (.int (6 * x0 + x1)) ∧ μ' = μ)
theorem ft_PM_bit : ∀ as μ, pr_PM_bit as μ → μ.1 + 0 ≤ 131 ∧ cz μ.1 + 0 ≤ cz 131 := hf_S (n := 131) (Nat.le_refl _) (fun as μ h => by
  obtain ⟨x0, x1, rfl, h⟩ := a_II_e h
  exact h.1.1)
theorem nc_PM_bit : ∀ x ∈ k_PM_bit, isInv x.2.1 = false := by decide +kernel
set_option maxRecDepth 100000 in
set_option maxHeartbeats 4000000 in
theorem c_PM_bit : Cn y_PM_bit b_PM_bit 2 (some .int) (rmm 0 0 0) 2 0 0 pr_PM_bit po_PM_bit := cn_II (f := fun x0 x1 μ => FM μ ∧ (True)) (g := fun x0 x1 μ r μ' => r = some (.int (6 * x0 + x1)) ∧ μ' = μ) fun l x0 x1 μ h => by
  obtain ⟨hm, h⟩ := h
  obtain ⟨M, L, rfl⟩ := hm.e
  refine ky_met (own := R_PM) (ini := 0) (rb := 0) (nE := 131) (cd := k_PM_bit) (C := (fun _ _ _ _ => False)) (by decide) rfl (fun h => by cases h) (Nat.le_of_ble_eq_true rfl) ⟨rfl, rfl⟩ (Or.inl ⟨rfl, rfl⟩) rfl rfl (by decide) ok_PM_bit (fun x hx => CS.no (nc_PM_bit x hx)) rt_PM_bit (fun K hs => ?_)
  exact hs.go [] 20 _ _ _ _ ⟨rfl, fun h => (by cases h), rfl, rfl⟩
