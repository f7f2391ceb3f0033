theorem in_lt {x : Int32} (h1 : 0 ≤ x) (h2 : x < 14) : vp_in x 14 := by
  rw [vp_in_iff]
  have e1 := Int32.le_iff_toInt_le.mp h1
  have e2 := Int32.lt_iff_toInt_lt.mp h2
  have e3 : (0 : Int32).toInt = 0 := rfl
  have e4 : (14 : Int32).toInt = 14 := rfl
  omega
theorem vb_t {p : Prop} [Decidable p] (h : p) : some (Value.int 1) = some (Value.int (b2 p)) := by rw [b2_t h]
theorem vb_f {p : Prop} [Decidable p] (h : ¬ p) : some (Value.int 0) = some (Value.int (b2 p)) := by rw [b2_f h]
def sec (a x : Int32) : Int32 := if a = 1 then 0 else x
def cof (cnt a x0 x1 x2 : Int32) : Int32 := if 0 ≤ x0 ∧ x0 < cnt ∧ (0 ≤ x1 ∧ x1 < 6) ∧ (0 ≤ sec a x2 ∧ sec a x2 < 6) then x1 * 6 + sec a x2 else -1
def ub (t : Int64) (x : Int32) : Int64 := (t.toUInt64 >>> (x.toInt64.toUInt64 &&& Int64.toUInt64 63)).toInt64 &&& 1
theorem cmp0 {a : Int64} : lg_cmp a 0 = 0 ↔ a = 0 := by
  unfold lg_cmp
  constructor
  · intro h
    by_cases h1 : a > 0
    · rw [if_pos h1] at h; exact absurd h (by decide)
    · rw [if_neg h1] at h
      by_cases h2 : a = 0
      · exact h2
      · rw [if_neg h2] at h; exact absurd h (by decide)
  · intro h
    subst h
    rfl
def ca (t : Int64) : Nat → Nat → Int32 → Int32
  | 0, _, _ => -1
  | n + 1, c, left => if ub t (nI c) = 0 then ca t n (c + 1) left else if left = 0 then nI c else ca t n (c + 1) (left + (-1))

theorem dn_RS_isThere : y_RS_isThere.cls ≠ "java/lang/invoke/MethodHandle" ∧ y_RS_isThere.cls ≠ "java/lang/invoke/VarHandle" ∧ (parseMethodDescriptor y_RS_isThere.desc).map (fun d => d.parameters.length) = some 1 := by decide +kernel
abbrev pr_RS_isThere : List Value → Mm → Prop := preV 2 (fun k => a_I (fun x0 μ => FM μ ∧ (k = 5)))
abbrev po_RS_isThere : List Value → Mm → Option Value → Mm → Prop := qV (fun k => b_I (fun x0 μ r μ' => r = some (.int (b2 (0 ≤ x0 ∧ x0 < μ.2.1 5 4))) ∧ μ' = μ))
theorem ft_RS_isThere : ∀ as μ, pr_RS_isThere as μ → μ.1 + 0 ≤ 131 ∧ cz μ.1 + 0 ≤ cz 131 := hf_S (n := 131) (Nat.le_refl _) (fun as μ h => by
  obtain ⟨k, r, rfl, hk, h⟩ := preV_e h
  obtain ⟨x0, rfl, h⟩ := a_I_e h
  exact h.1.1)
theorem nc_RS_isThere : ∀ x ∈ k_RS_isThere, isInv x.2.1 = false := by decide +kernel
set_option maxRecDepth 100000 in
set_option maxHeartbeats 4000000 in
theorem c_RS_isThere : Cn y_RS_isThere b_RS_isThere 2 (some .boolean) (rmm 0 0 0) (1 + 1) 0 0 pr_RS_isThere po_RS_isThere := cv_I (ci := 2) (f := fun k => fun x0 μ => FM μ ∧ (k = 5)) (g := fun k => fun x0 μ r μ' => r = some (.int (b2 (0 ≤ x0 ∧ x0 < μ.2.1 5 4))) ∧ μ' = μ) fun l k x0 μ hk h => by
  obtain ⟨hm, h⟩ := h
  obtain ⟨M, L, rfl⟩ := hm.e
  refine ky_met (own := R_RS) (ini := 0) (rb := 1) (nE := 131) (cd := k_RS_isThere) (C := (fun _ _ _ _ => False)) (by decide) rfl (fun h => by cases h) (Nat.le_of_ble_eq_true rfl) ⟨rfl, rfl⟩ (Or.inr (Or.inl ⟨rfl, rfl⟩)) rfl rfl (by decide) ok_RS_isThere (fun x hx => CS.no (nc_RS_isThere x hx)) rt_RS_isThere (fun K hs => ?_)
  subst h
  refine hs.go [] 30 _ _ _ _ ⟨fun h1 => ⟨rfl, fun _ => Or.inl rfl, ?_, rfl⟩, fun h1 => ⟨rfl, fun h2 => ⟨rfl, fun _ => Or.inl rfl, ?_, rfl⟩, fun h2 => ⟨rfl, fun _ => Or.inr rfl, ?_, rfl⟩⟩⟩
  · rw [b2_f (fun z => Int32.not_lt.mpr z.1 h1)]
  · rw [b2_f (fun z => Int32.not_lt.mpr h2 z.2)]
  · rw [b2_t ⟨Int32.not_lt.mp h1, Int32.not_le.mp h2⟩]

theorem dn_RS_isUsers : y_RS_isUsers.cls ≠ "java/lang/invoke/MethodHandle" ∧ y_RS_isUsers.cls ≠ "java/lang/invoke/VarHandle" ∧ (parseMethodDescriptor y_RS_isUsers.desc).map (fun d => d.parameters.length) = some 1 := by decide +kernel
abbrev pr_RS_isUsers : List Value → Mm → Prop := preV 2 (fun k => a_I (fun x0 μ => FM μ ∧ (k = 5)))
abbrev po_RS_isUsers : List Value → Mm → Option Value → Mm → Prop := qV (fun k => b_I (fun x0 μ r μ' => r = some (.int (b2 (9 ≤ x0 ∧ x0 < μ.2.1 5 4))) ∧ μ' = μ))
theorem ft_RS_isUsers : ∀ as μ, pr_RS_isUsers as μ → μ.1 + 0 ≤ 131 ∧ cz μ.1 + 0 ≤ cz 131 := hf_S (n := 131) (Nat.le_refl _) (fun as μ h => by
  obtain ⟨k, r, rfl, hk, h⟩ := preV_e h
  obtain ⟨x0, rfl, h⟩ := a_I_e h
  exact h.1.1)
theorem nc_RS_isUsers : ∀ x ∈ k_RS_isUsers, isInv x.2.1 = false := by decide +kernel
set_option maxRecDepth 100000 in
set_option maxHeartbeats 4000000 in
theorem c_RS_isUsers : Cn y_RS_isUsers b_RS_isUsers 2 (some .boolean) (rmm 0 0 0) (1 + 1) 0 0 pr_RS_isUsers po_RS_isUsers := cv_I (ci := 2) (f := fun k => fun x0 μ => FM μ ∧ (k = 5)) (g := fun k => fun x0 μ r μ' => r = some (.int (b2 (9 ≤ x0 ∧ x0 < μ.2.1 5 4))) ∧ μ' = μ) fun l k x0 μ hk h => by
  obtain ⟨hm, h⟩ := h
  obtain ⟨M, L, rfl⟩ := hm.e
  refine ky_met (own := R_RS) (ini := 0) (rb := 1) (nE := 131) (cd := k_RS_isUsers) (C := (fun _ _ _ _ => False)) (by decide) rfl (fun h => by cases h) (Nat.le_of_ble_eq_true rfl) ⟨rfl, rfl⟩ (Or.inr (Or.inl ⟨rfl, rfl⟩)) rfl rfl (by decide) ok_RS_isUsers (fun x hx => CS.no (nc_RS_isUsers x hx)) rt_RS_isUsers (fun K hs => ?_)
  subst h
  refine hs.go [] 30 _ _ _ _ ⟨fun h1 => ⟨rfl, fun _ => Or.inl rfl, ?_, rfl⟩, fun h1 => ⟨rfl, fun h2 => ⟨rfl, fun _ => Or.inl rfl, ?_, rfl⟩, fun h2 => ⟨rfl, fun _ => Or.inr rfl, ?_, rfl⟩⟩⟩
  · rw [b2_f (fun z => Int32.not_lt.mpr z.1 h1)]
  · rw [b2_f (fun z => Int32.not_lt.mpr h2 z.2)]
  · rw [b2_t ⟨Int32.not_lt.mp h1, Int32.not_le.mp h2⟩]

theorem dn_RS_secondOf : y_RS_secondOf.cls ≠ "java/lang/invoke/MethodHandle" ∧ y_RS_secondOf.cls ≠ "java/lang/invoke/VarHandle" ∧ (parseMethodDescriptor y_RS_secondOf.desc).map (fun d => d.parameters.length) = some 2 := by decide +kernel
abbrev pr_RS_secondOf : List Value → Mm → Prop := preV 2 (fun k => a_II (fun x0 x1 μ => FM μ ∧ (k = 5 ∧ vp_in x0 14)))
abbrev po_RS_secondOf : List Value → Mm → Option Value → Mm → Prop := qV (fun k => b_II (fun x0 x1 μ r μ' => r = some (.int (sec (μ.2.1 6 x0.toNatClampNeg) x1)) ∧ μ' = μ))
theorem ft_RS_secondOf : ∀ as μ, pr_RS_secondOf as μ → μ.1 + 0 ≤ 131 ∧ cz μ.1 + 0 ≤ cz 131 := hf_S (n := 131) (Nat.le_refl _) (fun as μ h => by
  obtain ⟨k, r, rfl, hk, h⟩ := preV_e h
  obtain ⟨x0, x1, rfl, h⟩ := a_II_e h
  exact h.1.1)
theorem nc_RS_secondOf : ∀ x ∈ k_RS_secondOf, isInv x.2.1 = false := by decide +kernel
set_option maxRecDepth 100000 in
set_option maxHeartbeats 4000000 in
theorem c_RS_secondOf : Cn y_RS_secondOf b_RS_secondOf 3 (some .int) (rmm 0 0 0) (2 + 1) 0 0 pr_RS_secondOf po_RS_secondOf := cv_II (ci := 2) (f := fun k => fun x0 x1 μ => FM μ ∧ (k = 5 ∧ vp_in x0 14)) (g := fun k => fun x0 x1 μ r μ' => r = some (.int (sec (μ.2.1 6 x0.toNatClampNeg) x1)) ∧ μ' = μ) fun l k x0 x1 μ hk h => by
  obtain ⟨hm, h⟩ := h
  obtain ⟨M, L, rfl⟩ := hm.e
  refine ky_met (own := R_RS) (ini := 0) (rb := 0) (nE := 131) (cd := k_RS_secondOf) (C := (fun _ _ _ _ => False)) (by decide) rfl (fun h => by cases h) (Nat.le_of_ble_eq_true rfl) ⟨rfl, rfl⟩ (Or.inl ⟨rfl, rfl⟩) rfl rfl (by decide) ok_RS_secondOf (fun x hx => CS.no (nc_RS_secondOf x hx)) rt_RS_secondOf (fun K hs => ?_)
  obtain ⟨rfl, hx⟩ := h
  refine hs.go [] 30 _ _ _ _ ⟨rfl, _, rfl, rfl, hx, fun h1 => ⟨rfl, fun z => (by cases z), ?_, rfl⟩, fun h1 => ⟨rfl, fun z => (by cases z), ?_, rfl⟩⟩
  · exact congrArg (fun v => some (Value.int v)) (if_neg h1).symm
  · exact congrArg (fun v => some (Value.int v)) (if_pos h1).symm

theorem dn_RS_has : y_RS_has.cls ≠ "java/lang/invoke/MethodHandle" ∧ y_RS_has.cls ≠ "java/lang/invoke/VarHandle" ∧ (parseMethodDescriptor y_RS_has.desc).map (fun d => d.parameters.length) = some 2 := by decide +kernel
abbrev pr_RS_has : List Value → Mm → Prop := preV 2 (fun k => a_II (fun x0 x1 μ => FM μ ∧ (k = 5 ∧ vp_in x0 14)))
abbrev po_RS_has : List Value → Mm → Option Value → Mm → Prop := qV (fun k => b_II (fun x0 x1 μ r μ' => r = some (.int (b2 (¬ ub (μ.2.2.1 8 x0.toNatClampNeg) x1 = 0))) ∧ μ' = μ))
theorem ft_RS_has : ∀ as μ, pr_RS_has as μ → μ.1 + 0 ≤ 131 ∧ cz μ.1 + 0 ≤ cz 131 := hf_S (n := 131) (Nat.le_refl _) (fun as μ h => by
  obtain ⟨k, r, rfl, hk, h⟩ := preV_e h
  obtain ⟨x0, x1, rfl, h⟩ := a_II_e h
  exact h.1.1)
theorem nc_RS_has : ∀ x ∈ k_RS_has, isInv x.2.1 = false := by decide +kernel
set_option maxRecDepth 100000 in
set_option maxHeartbeats 4000000 in
theorem c_RS_has : Cn y_RS_has b_RS_has 3 (some .boolean) (rmm 0 0 0) (2 + 1) 0 0 pr_RS_has po_RS_has := cv_II (ci := 2) (f := fun k => fun x0 x1 μ => FM μ ∧ (k = 5 ∧ vp_in x0 14)) (g := fun k => fun x0 x1 μ r μ' => r = some (.int (b2 (¬ ub (μ.2.2.1 8 x0.toNatClampNeg) x1 = 0))) ∧ μ' = μ) fun l k x0 x1 μ hk h => by
  obtain ⟨hm, h⟩ := h
  obtain ⟨M, L, rfl⟩ := hm.e
  refine ky_met (own := R_RS) (ini := 0) (rb := 1) (nE := 131) (cd := k_RS_has) (C := (fun _ _ _ _ => False)) (by decide) rfl (fun h => by cases h) (Nat.le_of_ble_eq_true rfl) ⟨rfl, rfl⟩ (Or.inr (Or.inl ⟨rfl, rfl⟩)) rfl rfl (by decide) ok_RS_has (fun x hx => CS.no (nc_RS_has x hx)) rt_RS_has (fun K hs => ?_)
  obtain ⟨rfl, hx⟩ := h
  refine hs.go [] 30 _ _ _ _ ⟨rfl, _, rfl, rfl, hx, fun h1 => ⟨rfl, fun _ => Or.inl rfl, ?_, rfl⟩, fun h1 => ⟨rfl, fun _ => Or.inr rfl, ?_, rfl⟩⟩
  · exact vb_f (fun z => z (cmp0.mp h1))
  · exact vb_t (fun z => h1 (cmp0.mpr z))

theorem dn_RS_isFact : y_RS_isFact.cls ≠ "java/lang/invoke/MethodHandle" ∧ y_RS_isFact.cls ≠ "java/lang/invoke/VarHandle" ∧ (parseMethodDescriptor y_RS_isFact.desc).map (fun d => d.parameters.length) = some 2 := by decide +kernel
abbrev pr_RS_isFact : List Value → Mm → Prop := preV 2 (fun k => a_II (fun x0 x1 μ => FM μ ∧ (k = 5 ∧ vp_in x0 14)))
abbrev po_RS_isFact : List Value → Mm → Option Value → Mm → Prop := qV (fun k => b_II (fun x0 x1 μ r μ' => r = some (.int (b2 (¬ ub (μ.2.2.1 7 x0.toNatClampNeg) x1 = 0))) ∧ μ' = μ))
theorem ft_RS_isFact : ∀ as μ, pr_RS_isFact as μ → μ.1 + 0 ≤ 131 ∧ cz μ.1 + 0 ≤ cz 131 := hf_S (n := 131) (Nat.le_refl _) (fun as μ h => by
  obtain ⟨k, r, rfl, hk, h⟩ := preV_e h
  obtain ⟨x0, x1, rfl, h⟩ := a_II_e h
  exact h.1.1)
theorem nc_RS_isFact : ∀ x ∈ k_RS_isFact, isInv x.2.1 = false := by decide +kernel
set_option maxRecDepth 100000 in
set_option maxHeartbeats 4000000 in
theorem c_RS_isFact : Cn y_RS_isFact b_RS_isFact 3 (some .boolean) (rmm 0 0 0) (2 + 1) 0 0 pr_RS_isFact po_RS_isFact := cv_II (ci := 2) (f := fun k => fun x0 x1 μ => FM μ ∧ (k = 5 ∧ vp_in x0 14)) (g := fun k => fun x0 x1 μ r μ' => r = some (.int (b2 (¬ ub (μ.2.2.1 7 x0.toNatClampNeg) x1 = 0))) ∧ μ' = μ) fun l k x0 x1 μ hk h => by
  obtain ⟨hm, h⟩ := h
  obtain ⟨M, L, rfl⟩ := hm.e
  refine ky_met (own := R_RS) (ini := 0) (rb := 1) (nE := 131) (cd := k_RS_isFact) (C := (fun _ _ _ _ => False)) (by decide) rfl (fun h => by cases h) (Nat.le_of_ble_eq_true rfl) ⟨rfl, rfl⟩ (Or.inr (Or.inl ⟨rfl, rfl⟩)) rfl rfl (by decide) ok_RS_isFact (fun x hx => CS.no (nc_RS_isFact x hx)) rt_RS_isFact (fun K hs => ?_)
  obtain ⟨rfl, hx⟩ := h
  refine hs.go [] 30 _ _ _ _ ⟨rfl, _, rfl, rfl, hx, fun h1 => ⟨rfl, fun _ => Or.inl rfl, ?_, rfl⟩, fun h1 => ⟨rfl, fun _ => Or.inr rfl, ?_, rfl⟩⟩
  · exact vb_f (fun z => z (cmp0.mp h1))
  · exact vb_t (fun z => h1 (cmp0.mpr z))

theorem dn_RS_turnFact : y_RS_turnFact.cls ≠ "java/lang/invoke/MethodHandle" ∧ y_RS_turnFact.cls ≠ "java/lang/invoke/VarHandle" ∧ (parseMethodDescriptor y_RS_turnFact.desc).map (fun d => d.parameters.length) = some 2 := by decide +kernel
abbrev pr_RS_turnFact : List Value → Mm → Prop := preV 2 (fun k => a_II (fun x0 x1 μ => FM μ ∧ (k = 5 ∧ vp_in x0 14)))
abbrev po_RS_turnFact : List Value → Mm → Option Value → Mm → Prop := qV (fun k => b_II (fun x0 x1 μ r μ' => r = none ∧ μ' = sL μ 7 x0.toNatClampNeg (μ.2.2.1 7 x0.toNatClampNeg ^^^ (1 <<< (x1.toInt64 &&& 63)))))
theorem ft_RS_turnFact : ∀ as μ, pr_RS_turnFact as μ → μ.1 + 0 ≤ 131 ∧ cz μ.1 + 0 ≤ cz 131 := hf_S (n := 131) (Nat.le_refl _) (fun as μ h => by
  obtain ⟨k, r, rfl, hk, h⟩ := preV_e h
  obtain ⟨x0, x1, rfl, h⟩ := a_II_e h
  exact h.1.1)
theorem nc_RS_turnFact : ∀ x ∈ k_RS_turnFact, isInv x.2.1 = false := by decide +kernel
set_option maxRecDepth 100000 in
set_option maxHeartbeats 4000000 in
theorem c_RS_turnFact : Cn y_RS_turnFact b_RS_turnFact 3 none (rmm 0 0 0) (2 + 1) 0 0 pr_RS_turnFact po_RS_turnFact := cv_II (ci := 2) (f := fun k => fun x0 x1 μ => FM μ ∧ (k = 5 ∧ vp_in x0 14)) (g := fun k => fun x0 x1 μ r μ' => r = none ∧ μ' = sL μ 7 x0.toNatClampNeg (μ.2.2.1 7 x0.toNatClampNeg ^^^ (1 <<< (x1.toInt64 &&& 63)))) fun l k x0 x1 μ hk h => by
  obtain ⟨hm, h⟩ := h
  obtain ⟨M, L, rfl⟩ := hm.e
  refine ky_met (own := R_RS) (ini := 0) (rb := 3) (nE := 131) (cd := k_RS_turnFact) (C := (fun _ _ _ _ => False)) (by decide) rfl (fun h => by cases h) (Nat.le_of_ble_eq_true rfl) ⟨rfl, rfl⟩ (Or.inr (Or.inr (Or.inr ⟨rfl, rfl⟩))) rfl rfl (by decide) ok_RS_turnFact (fun x hx => CS.no (nc_RS_turnFact x hx)) rt_RS_turnFact (fun K hs => ?_)
  obtain ⟨rfl, hx⟩ := h
  exact hs.go [] 30 _ _ _ _ ⟨rfl, _, rfl, rfl, hx, rfl, hx, rfl, rfl, rfl⟩

theorem dn_RS_add : y_RS_add.cls ≠ "java/lang/invoke/MethodHandle" ∧ y_RS_add.cls ≠ "java/lang/invoke/VarHandle" ∧ (parseMethodDescriptor y_RS_add.desc).map (fun d => d.parameters.length) = some 1 := by decide +kernel
abbrev pr_RS_add : List Value → Mm → Prop := preV 2 (fun k => a_I (fun x0 μ => FM μ ∧ (k = 5 ∧ vp_in (μ.2.1 5 4) 14)))
abbrev po_RS_add : List Value → Mm → Option Value → Mm → Prop := qV (fun k => b_I (fun x0 μ r μ' => r = some (.int (μ.2.1 5 4 + 1 - 1)) ∧ μ' = sI (sI μ 6 (μ.2.1 5 4).toNatClampNeg x0) 5 4 (μ.2.1 5 4 + 1)))
theorem ft_RS_add : ∀ as μ, pr_RS_add as μ → μ.1 + 0 ≤ 131 ∧ cz μ.1 + 0 ≤ cz 131 := hf_S (n := 131) (Nat.le_refl _) (fun as μ h => by
  obtain ⟨k, r, rfl, hk, h⟩ := preV_e h
  obtain ⟨x0, rfl, h⟩ := a_I_e h
  exact h.1.1)
theorem nc_RS_add : ∀ x ∈ k_RS_add, isInv x.2.1 = false := by decide +kernel
set_option maxRecDepth 100000 in
set_option maxHeartbeats 4000000 in
theorem c_RS_add : Cn y_RS_add b_RS_add 2 (some .int) (rmm 0 0 0) (1 + 1) 0 0 pr_RS_add po_RS_add := cv_I (ci := 2) (f := fun k => fun x0 μ => FM μ ∧ (k = 5 ∧ vp_in (μ.2.1 5 4) 14)) (g := fun k => fun x0 μ r μ' => r = some (.int (μ.2.1 5 4 + 1 - 1)) ∧ μ' = sI (sI μ 6 (μ.2.1 5 4).toNatClampNeg x0) 5 4 (μ.2.1 5 4 + 1)) fun l k x0 μ hk h => by
  obtain ⟨hm, h⟩ := h
  obtain ⟨M, L, rfl⟩ := hm.e
  refine ky_met (own := R_RS) (ini := 0) (rb := 0) (nE := 131) (cd := k_RS_add) (C := (fun _ _ _ _ => False)) (by decide) rfl (fun h => by cases h) (Nat.le_of_ble_eq_true rfl) ⟨rfl, rfl⟩ (Or.inl ⟨rfl, rfl⟩) rfl rfl (by decide) ok_RS_add (fun x hx => CS.no (nc_RS_add x hx)) rt_RS_add (fun K hs => ?_)
  obtain ⟨rfl, hx⟩ := h
  refine hs.go [] 30 _ _ _ _ ⟨rfl, _, rfl, rfl, rfl, hx, rfl, rfl, rfl, rfl, fun z => (by cases z), rfl, rfl⟩

theorem dn_RS_remember : y_RS_remember.cls ≠ "java/lang/invoke/MethodHandle" ∧ y_RS_remember.cls ≠ "java/lang/invoke/VarHandle" ∧ (parseMethodDescriptor y_RS_remember.desc).map (fun d => d.parameters.length) = some 0 := by decide +kernel
abbrev pr_RS_remember : List Value → Mm → Prop := preV 2 (fun k => a_0 (fun μ => FM μ ∧ (k = 5)))
abbrev po_RS_remember : List Value → Mm → Option Value → Mm → Prop := qV (fun k => b_0 (fun μ r μ' => r = none ∧ μ' = cpL μ 8 9))
theorem ft_RS_remember : ∀ as μ, pr_RS_remember as μ → μ.1 + 0 ≤ 131 ∧ cz μ.1 + 0 ≤ cz 131 := hf_S (n := 131) (Nat.le_refl _) (fun as μ h => by
  obtain ⟨k, r, rfl, hk, h⟩ := preV_e h
  obtain ⟨rfl, h⟩ := a_0_e h
  exact h.1.1)
def C_RS_remember : Cf := fun id => match id with
  | 0 => trY
  | _ => fun _ _ _ => False
set_option maxRecDepth 100000 in
theorem cs_RS_remember (l : Launch) : ∀ x ∈ k_RS_remember, CS l R_RS b_RS_remember 1 (rmm 1 0 0) 131 131 C_RS_remember x := fc (CS.no rfl) (fc (CS.no rfl) (fc (CS.no rfl) (fc (CS.no rfl) (fc (CS.no rfl) (fc (CS.no rfl) (fc (CS.no rfl) (fc (CS.Y wl_RS_53 ⟨by decide, by decide⟩ rfl (e_RS_remember_12).1) (fc (CS.no rfl) (fun _ h => absurd h List.not_mem_nil)))))))))
set_option maxRecDepth 100000 in
set_option maxHeartbeats 4000000 in
theorem c_RS_remember : Cn y_RS_remember b_RS_remember 1 none (rmm 1 0 0) (0 + 1) 0 0 pr_RS_remember po_RS_remember := cv_0 (ci := 2) (f := fun k => fun μ => FM μ ∧ (k = 5)) (g := fun k => fun μ r μ' => r = none ∧ μ' = cpL μ 8 9) fun l k  μ hk h => by
  obtain ⟨hm, h⟩ := h
  obtain ⟨M, L, rfl⟩ := hm.e
  refine ky_met (own := R_RS) (ini := 0) (rb := 3) (nE := 131) (cd := k_RS_remember) (C := C_RS_remember) (by decide) rfl (fun h => by cases h) (Nat.le_of_ble_eq_true rfl) ⟨rfl, rfl⟩ (Or.inr (Or.inr (Or.inr ⟨rfl, rfl⟩))) rfl rfl (by decide) ok_RS_remember (cs_RS_remember l) rt_RS_remember (fun K hs => ?_)
  subst h
  refine hs.go [] 30 _ _ _ _ ⟨rfl, _, rfl, rfl, _, rfl, rfl, rfl, rfl, rfl, rfl, rfl, Or.inr ⟨rfl, rfl, rfl, rfl, rfl⟩⟩

theorem dn_RS_cellOf : y_RS_cellOf.cls ≠ "java/lang/invoke/MethodHandle" ∧ y_RS_cellOf.cls ≠ "java/lang/invoke/VarHandle" ∧ (parseMethodDescriptor y_RS_cellOf.desc).map (fun d => d.parameters.length) = some 3 := by decide +kernel
abbrev pr_RS_cellOf : List Value → Mm → Prop := preV 2 (fun k => a_III (fun x0 x1 x2 μ => FM μ ∧ (k = 5 ∧ (μ.2.1 5 4 ≤ 14))))
abbrev po_RS_cellOf : List Value → Mm → Option Value → Mm → Prop := qV (fun k => b_III (fun x0 x1 x2 μ r μ' => r = some (.int (cof (μ.2.1 5 4) (μ.2.1 6 x0.toNatClampNeg) x0 x1 x2)) ∧ μ' = μ))
theorem ft_RS_cellOf : ∀ as μ, pr_RS_cellOf as μ → μ.1 + 0 ≤ 131 ∧ cz μ.1 + 0 ≤ cz 131 := hf_S (n := 131) (Nat.le_refl _) (fun as μ h => by
  obtain ⟨k, r, rfl, hk, h⟩ := preV_e h
  obtain ⟨x0, x1, x2, rfl, h⟩ := a_III_e h
  exact h.1.1)
def C_RS_cellOf : Cf := fun id => match id with
  | 0 => trF (1 + 1) pr_RS_isThere po_RS_isThere
  | 1 => trF (2 + 1) pr_RS_secondOf po_RS_secondOf
  | 2 => trF 1 pr_PF_isValue po_PF_isValue
  | 3 => trF 2 pr_PF_cell po_PF_cell
  | _ => fun _ _ _ => False
set_option maxRecDepth 100000 in
theorem cs_RS_cellOf (l : Launch) : ∀ x ∈ k_RS_cellOf, CS l R_RS b_RS_cellOf 5 (rmm 1 0 0) 131 131 C_RS_cellOf x := fc (CS.no rfl) (fc (CS.no rfl) (fc (CS.V c_RS_isThere wk_RS_isThere wl_RS_35 wm_RS_isThere we_RS_isThere rfl rfl wi_RS dn_RS_isThere ⟨rfl, rfl⟩ ⟨by decide, by decide⟩ ft_RS_isThere rfl (e_RS_cellOf_2).1) (fc (CS.no rfl) (fc (CS.no rfl) (fc (CS.no rfl) (fc (CS.no rfl) (fc (CS.no rfl) (fc (CS.no rfl) (fc (CS.V c_RS_secondOf wk_RS_secondOf wl_RS_39 wm_RS_secondOf we_RS_secondOf rfl rfl wi_RS dn_RS_secondOf ⟨rfl, rfl⟩ ⟨by decide, by decide⟩ ft_RS_secondOf rfl (e_RS_cellOf_13).1) (fc (CS.no rfl) (fc (CS.no rfl) (fc (CS.SN c_PF_isValue wk_PF_isValue (host := R_PF) (List.mem_of_getElem? (i := 2) rfl) wt_PF_isValue wi_PF dn_PF_isValue ⟨rfl, rfl⟩ ⟨by decide, by decide⟩ ft_PF_isValue rfl (e_RS_cellOf_19).1) (fc (CS.no rfl) (fc (CS.no rfl) (fc (CS.SN c_PF_isValue wk_PF_isValue (host := R_PF) (List.mem_of_getElem? (i := 2) rfl) wt_PF_isValue wi_PF dn_PF_isValue ⟨rfl, rfl⟩ ⟨by decide, by decide⟩ ft_PF_isValue rfl (e_RS_cellOf_27).1) (fc (CS.no rfl) (fc (CS.no rfl) (fc (CS.no rfl) (fc (CS.SN c_PF_cell wk_PF_cell (host := R_PF) (List.mem_of_getElem? (i := 3) rfl) wt_PF_cell wi_PF dn_PF_cell ⟨rfl, rfl⟩ ⟨by decide, by decide⟩ ft_PF_cell rfl (e_RS_cellOf_36).1) (fc (CS.no rfl) (fc (CS.no rfl) (fc (CS.no rfl) (fun _ h => absurd h List.not_mem_nil)))))))))))))))))))))))
set_option maxRecDepth 100000 in
set_option maxHeartbeats 4000000 in
theorem c_RS_cellOf : Cn y_RS_cellOf b_RS_cellOf 5 (some .int) (rmm 1 0 0) (3 + 1) 0 0 pr_RS_cellOf po_RS_cellOf := cv_III (ci := 2) (f := fun k => fun x0 x1 x2 μ => FM μ ∧ (k = 5 ∧ (μ.2.1 5 4 ≤ 14))) (g := fun k => fun x0 x1 x2 μ r μ' => r = some (.int (cof (μ.2.1 5 4) (μ.2.1 6 x0.toNatClampNeg) x0 x1 x2)) ∧ μ' = μ) fun l k x0 x1 x2 μ hk h => by
  obtain ⟨hm, h⟩ := h
  obtain ⟨M, L, rfl⟩ := hm.e
  refine ky_met (own := R_RS) (ini := 0) (rb := 0) (nE := 131) (cd := k_RS_cellOf) (C := C_RS_cellOf) (by decide) rfl (fun h => by cases h) (Nat.le_of_ble_eq_true rfl) ⟨rfl, rfl⟩ (Or.inl ⟨rfl, rfl⟩) rfl rfl (by decide) ok_RS_cellOf (cs_RS_cellOf l) rt_RS_cellOf (fun K hs => ?_)
  obtain ⟨rfl, h14⟩ := h
  have h14 : M 5 4 ≤ 14 := h14
  refine hs.go [] 50 _ _ _ _ ⟨⟨rfl, ⟨rfl, rfl⟩, rfl⟩, rfl, rfl, ?_⟩
  rintro _ _ ⟨rfl, rfl⟩
  by_cases h0 : 0 ≤ x0 ∧ x0 < M 5 4
  · rw [show b2 (0 ≤ x0 ∧ x0 < M 5 4) = 1 from b2_t h0]
    have hx : vp_in x0 14 := in_lt h0.1 (Int32.lt_of_lt_of_le h0.2 h14)
    refine ⟨fun _ => ⟨⟨rfl, ⟨rfl, rfl⟩, rfl, hx⟩, rfl, rfl, ?_⟩, fun z => absurd z (by decide)⟩
    rintro _ _ ⟨rfl, rfl⟩
    refine ⟨⟨⟨rfl, rfl⟩, trivial⟩, rfl, rfl, ?_⟩
    rintro _ _ ⟨rfl, rfl⟩
    by_cases h1 : 0 ≤ x1 ∧ x1 < 6
    · rw [show b2 (0 ≤ x1 ∧ x1 < 6) = 1 from b2_t h1]
      refine ⟨fun z => absurd z (by decide), fun _ => ⟨⟨⟨rfl, rfl⟩, trivial⟩, rfl, rfl, ?_⟩⟩
      rintro _ _ ⟨rfl, rfl⟩
      by_cases h2 : 0 ≤ sec (M 6 x0.toNatClampNeg) x2 ∧ sec (M 6 x0.toNatClampNeg) x2 < 6
      · rw [show b2 (0 ≤ sec (M 6 x0.toNatClampNeg) x2 ∧ sec (M 6 x0.toNatClampNeg) x2 < 6) = 1 from b2_t h2]
        refine ⟨fun z => absurd z (by decide), fun _ => ⟨⟨⟨rfl, rfl⟩, trivial⟩, rfl, rfl, ?_⟩⟩
        rintro _ _ ⟨rfl, rfl⟩
        exact ⟨rfl, fun z => (by cases z), congrArg (fun v => some (Value.int v)) (if_pos (show 0 ≤ x0 ∧ x0 < M 5 4 ∧ (0 ≤ x1 ∧ x1 < 6) ∧ (0 ≤ sec (M 6 x0.toNatClampNeg) x2 ∧ sec (M 6 x0.toNatClampNeg) x2 < 6) from ⟨h0.1, h0.2, h1, h2⟩)).symm, rfl⟩
      · rw [show b2 (0 ≤ sec (M 6 x0.toNatClampNeg) x2 ∧ sec (M 6 x0.toNatClampNeg) x2 < 6) = 0 from b2_f h2]
        exact ⟨fun _ => ⟨rfl, fun z => (by cases z), congrArg (fun v => some (Value.int v)) (if_neg (show ¬ (0 ≤ x0 ∧ x0 < M 5 4 ∧ (0 ≤ x1 ∧ x1 < 6) ∧ (0 ≤ sec (M 6 x0.toNatClampNeg) x2 ∧ sec (M 6 x0.toNatClampNeg) x2 < 6)) from fun z => h2 z.2.2.2)).symm, rfl⟩, fun z => absurd rfl z⟩
    · rw [show b2 (0 ≤ x1 ∧ x1 < 6) = 0 from b2_f h1]
      exact ⟨fun _ => ⟨rfl, fun z => (by cases z), congrArg (fun v => some (Value.int v)) (if_neg (show ¬ (0 ≤ x0 ∧ x0 < M 5 4 ∧ (0 ≤ x1 ∧ x1 < 6) ∧ (0 ≤ sec (M 6 x0.toNatClampNeg) x2 ∧ sec (M 6 x0.toNatClampNeg) x2 < 6)) from fun z => h1 z.2.2.1)).symm, rfl⟩, fun z => absurd rfl z⟩
  · rw [show b2 (0 ≤ x0 ∧ x0 < M 5 4) = 0 from b2_f h0]
    exact ⟨fun z => absurd rfl z, fun _ => ⟨rfl, fun z => (by cases z), congrArg (fun v => some (Value.int v)) (if_neg (show ¬ (0 ≤ x0 ∧ x0 < M 5 4 ∧ (0 ≤ x1 ∧ x1 < 6) ∧ (0 ≤ sec (M 6 x0.toNatClampNeg) x2 ∧ sec (M 6 x0.toNatClampNeg) x2 < 6)) from fun z => h0 ⟨z.1, z.2.1⟩)).symm, rfl⟩⟩

theorem dn_RS_cellAt : y_RS_cellAt.cls ≠ "java/lang/invoke/MethodHandle" ∧ y_RS_cellAt.cls ≠ "java/lang/invoke/VarHandle" ∧ (parseMethodDescriptor y_RS_cellAt.desc).map (fun d => d.parameters.length) = some 2 := by decide +kernel
abbrev pr_RS_cellAt : List Value → Mm → Prop := preV 2 (fun k => a_II (fun x0 x1 μ => FM μ ∧ (k = 5 ∧ vp_in x0 14)))
abbrev po_RS_cellAt : List Value → Mm → Option Value → Mm → Prop := qV (fun k => b_II (fun x0 x1 μ r μ' => r = some (.int (ca (μ.2.2.1 8 x0.toNatClampNeg) 36 0 x1)) ∧ μ' = μ))
theorem ft_RS_cellAt : ∀ as μ, pr_RS_cellAt as μ → μ.1 + 0 ≤ 131 ∧ cz μ.1 + 0 ≤ cz 131 := hf_S (n := 131) (Nat.le_refl _) (fun as μ h => by
  obtain ⟨k, r, rfl, hk, h⟩ := preV_e h
  obtain ⟨x0, x1, rfl, h⟩ := a_II_e h
  exact h.1.1)
def C_RS_cellAt : Cf := fun id => match id with
  | 0 => trF (2 + 1) pr_RS_has po_RS_has
  | _ => fun _ _ _ => False
set_option maxRecDepth 100000 in
theorem cs_RS_cellAt (l : Launch) : ∀ x ∈ k_RS_cellAt, CS l R_RS b_RS_cellAt 5 (rmm 1 0 0) 131 131 C_RS_cellAt x := fc (CS.no rfl) (fc (CS.no rfl) (fc (CS.no rfl) (fc (CS.no rfl) (fc (CS.no rfl) (fc (CS.no rfl) (fc (CS.no rfl) (fc (CS.no rfl) (fc (CS.no rfl) (fc (CS.no rfl) (fc (CS.V c_RS_has wk_RS_has wl_RS_49 wm_RS_has we_RS_has rfl rfl wi_RS dn_RS_has ⟨rfl, rfl⟩ ⟨by decide, by decide⟩ ft_RS_has rfl (e_RS_cellAt_16).1) (fc (CS.no rfl) (fc (CS.no rfl) (fc (CS.no rfl) (fc (CS.no rfl) (fc (CS.no rfl) (fc (CS.no rfl) (fc (CS.no rfl) (fc (CS.no rfl) (fc (CS.no rfl) (fc (CS.no rfl) (fun _ h => absurd h List.not_mem_nil)))))))))))))))))))))
set_option maxRecDepth 100000 in
set_option maxHeartbeats 4000000 in
theorem c_RS_cellAt : Cn y_RS_cellAt b_RS_cellAt 5 (some .int) (rmm 1 0 0) (2 + 1) 0 0 pr_RS_cellAt po_RS_cellAt := cv_II (ci := 2) (f := fun k => fun x0 x1 μ => FM μ ∧ (k = 5 ∧ vp_in x0 14)) (g := fun k => fun x0 x1 μ r μ' => r = some (.int (ca (μ.2.2.1 8 x0.toNatClampNeg) 36 0 x1)) ∧ μ' = μ) fun l k x0 x1 μ hk h => by
  obtain ⟨hm, h⟩ := h
  obtain ⟨M, L, rfl⟩ := hm.e
  refine ky_met (own := R_RS) (ini := 0) (rb := 0) (nE := 131) (cd := k_RS_cellAt) (C := C_RS_cellAt) (by decide) rfl (fun h => by cases h) (Nat.le_of_ble_eq_true rfl) ⟨rfl, rfl⟩ (Or.inl ⟨rfl, rfl⟩) rfl rfl (by decide) ok_RS_cellAt (cs_RS_cellAt l) rt_RS_cellAt (fun K hs => ?_)
  obtain ⟨rfl, hx⟩ := h
  have loop : ∀ (n c : Nat) (left : Int32), c + n = 36 → ca (L 8 x0.toNatClampNeg) n c left = ca (L 8 x0.toNatClampNeg) 36 0 x1 → K 5 [some (.ref 5), some (.int x0), some (.int x1), some (.int left), some (.int (nI c))] [] (131, M, L, TT) := by
    intro n
    induction n with
    | zero =>
      intro c left hc hr
      rw [show c = 36 by omega] at hr ⊢
      exact hs.go [5] 30 _ _ _ _ ⟨fun _ => ⟨rfl, fun z => (by cases z), by rw [← hr]; rfl, rfl⟩, fun z => absurd (Int32.le_refl _) z⟩
    | succ n ih =>
      intro c left hc hr
      refine hs.go [5] 30 _ _ _ _ ⟨fun z => absurd z (nI_ge (a := c) (b := 36) (by omega) (by decide)), fun _ => ⟨⟨rfl, ⟨rfl, rfl⟩, rfl, hx⟩, rfl, rfl, ?_⟩⟩
      rintro _ _ ⟨rfl, rfl⟩
      by_cases hb : ub (L 8 x0.toNatClampNeg) (nI c) = 0
      · rw [show b2 (¬ ub (L 8 x0.toNatClampNeg) (nI c) = 0) = 0 from b2_f (fun z => z hb)]
        refine ⟨fun _ => ?_, fun z => absurd rfl z⟩
        have h9 := ih (c + 1) left (by omega) (by rw [← hr]; simp only [ca, if_pos hb])
        rw [nI_succ] at h9
        exact h9
      · rw [show b2 (¬ ub (L 8 x0.toNatClampNeg) (nI c) = 0) = 1 from b2_t hb]
        refine ⟨fun z => absurd z (by decide), fun _ => ⟨fun hl => ?_, fun hl => ?_⟩⟩
        · have h9 := ih (c + 1) (left + (-1)) (by omega) (by rw [← hr]; simp only [ca, if_neg hb, if_neg hl])
          rw [nI_succ] at h9
          exact h9
        · exact ⟨rfl, fun z => (by cases z), by rw [← hr]; simp only [ca, if_neg hb, if_pos hl], rfl⟩
  exact hs.go [5] 30 _ _ _ _ (loop 36 0 x1 rfl rfl)
