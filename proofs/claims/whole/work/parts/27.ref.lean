theorem le5 {x : Int32} : x ≤ 5 ↔ x < 6 := by
  rw [Int32.le_iff_toInt_le, Int32.lt_iff_toInt_lt]
  have e3 : (5 : Int32).toInt = 5 := rfl
  have e4 : (6 : Int32).toInt = 6 := rfl
  omega
abbrev isV (x : Int32) : Prop := 0 ≤ x ∧ x < 6
abbrev isT (x : Int32) : Prop := isV x ∨ (10 ≤ x ∧ x ≤ 13)
/-- the reference's place of a tuple -/
def plc (cnt a x0 x1 x2 : Int32) : Int32 := if 0 ≤ x0 ∧ x0 < cnt ∧ isV x1 ∧ (a = 2 → isV x2) then (if a = 1 then x1 else 6 * x1 + x2) else -1
theorem tm4 {t : Int32} (h : tmok t) (h1 : 10 ≤ t) : vp_in (t - 10) 4 := by
  obtain ⟨n, rfl, hn⟩ := h
  have h2 : 10 ≤ n := by
    rcases hn with z | z
    · exact absurd h1 (nI_ge (a := n) (b := 10) (by omega) (by decide))
    · exact z.1
  have e : nI n - 10 = nI (n - 10) := pk_sub (a := n) (b := 10) h2
  rw [e]
  exact vp_in_nI (by omega) (by decide)
/-- a term's value under the reference's bound variables -/
def tvl (v : Nat → Int32) (t : Int32) : Int32 := if 10 ≤ t then v (t - 10).toNatClampNeg else t
abbrev fkl (v : Nat → Int32) (t x : Int32) : Prop := (10 ≤ t ∧ (v (t - 10).toNatClampNeg = -1 ∨ v (t - 10).toNatClampNeg = x)) ∨ (¬ 10 ≤ t ∧ t = x)
def fvl' (v : Nat → Int32) (t x : Int32) : Nat → Int32 := if 10 ≤ t then upd v (t - 10).toNatClampNeg x else v
/-- what holds of a row of the reference's literals -/
def rok (M : mM) (i : Nat) : Prop := vp_in (M 118 i) 14 ∧ tmok (M 119 i) ∧ (M 110 (M 118 i).toNatClampNeg = 1 ∨ tmok (M 120 i)) ∧ (M 121 i = 0 ∨ M 121 i = 1)
abbrev una (M : mM) (i : Nat) : Prop := M 110 (M 118 i).toNatClampNeg = 1
def tpo (M : mM) (v : Nat → Int32) (i : Nat) : Int32 := if una M i then tvl v (M 119 i) else 6 * tvl v (M 119 i) + tvl v (M 120 i)

theorem dn_PM_noValue : y_PM_noValue.cls ≠ "java/lang/invoke/MethodHandle" ∧ y_PM_noValue.cls ≠ "java/lang/invoke/VarHandle" ∧ (parseMethodDescriptor y_PM_noValue.desc).map (fun d => d.parameters.length) = some 1 := by decide +kernel
abbrev pr_PM_noValue : List Value → Mm → Prop := a_I (fun x0 μ => FM μ ∧ (True))
abbrev po_PM_noValue : List Value → Mm → Option Value → Mm → Prop := b_I (fun x0 μ r μ' => r = some (.int (b2 (¬ isV x0))) ∧ μ' = μ)
theorem ft_PM_noValue : ∀ as μ, pr_PM_noValue as μ → μ.1 + 0 ≤ 131 ∧ cz μ.1 + 0 ≤ cz 131 := hf_S (n := 131) (Nat.le_refl _) (fun as μ h => by
  obtain ⟨x0, rfl, h⟩ := a_I_e h
  exact h.1.1)
theorem nc_PM_noValue : ∀ x ∈ k_PM_noValue, isInv x.2.1 = false := by decide +kernel
set_option maxRecDepth 100000 in
set_option maxHeartbeats 4000000 in
theorem c_PM_noValue : Cn y_PM_noValue b_PM_noValue 1 (some .boolean) (rmm 0 0 0) 1 0 0 pr_PM_noValue po_PM_noValue := cn_I (f := fun x0 μ => FM μ ∧ (True)) (g := fun x0 μ r μ' => r = some (.int (b2 (¬ isV x0))) ∧ μ' = μ) fun l x0 μ h => by
  obtain ⟨hm, h⟩ := h
  obtain ⟨M, L, rfl⟩ := hm.e
  refine ky_met (own := R_PM) (ini := 0) (rb := 1) (nE := 131) (cd := k_PM_noValue) (C := (fun _ _ _ _ => False)) (by decide) rfl (fun h => by cases h) (Nat.le_of_ble_eq_true rfl) ⟨rfl, rfl⟩ (Or.inr (Or.inl ⟨rfl, rfl⟩)) rfl rfl (by decide) ok_PM_noValue (fun x hx => CS.no (nc_PM_noValue x hx)) rt_PM_noValue (fun K hs => ?_)
  refine hs.go [] 20 _ _ _ _ ⟨fun h1 => ⟨rfl, fun _ => Or.inr rfl, vb_t (fun z => Int32.not_lt.mpr z.1 h1), rfl⟩, fun h1 => ⟨fun h2 => ⟨rfl, fun _ => Or.inl rfl, vb_f (fun z => z ⟨Int32.not_lt.mp h1, le5.mp h2⟩), rfl⟩, fun h2 => ⟨rfl, fun _ => Or.inr rfl, vb_t (fun z => h2 (le5.mpr z.2)), rfl⟩⟩⟩

theorem dn_PM_noTerm : y_PM_noTerm.cls ≠ "java/lang/invoke/MethodHandle" ∧ y_PM_noTerm.cls ≠ "java/lang/invoke/VarHandle" ∧ (parseMethodDescriptor y_PM_noTerm.desc).map (fun d => d.parameters.length) = some 1 := by decide +kernel
abbrev pr_PM_noTerm : List Value → Mm → Prop := a_I (fun x0 μ => FM μ ∧ (True))
abbrev po_PM_noTerm : List Value → Mm → Option Value → Mm → Prop := b_I (fun x0 μ r μ' => r = some (.int (b2 (¬ isT x0))) ∧ μ' = μ)
theorem ft_PM_noTerm : ∀ as μ, pr_PM_noTerm as μ → μ.1 + 0 ≤ 131 ∧ cz μ.1 + 0 ≤ cz 131 := hf_S (n := 131) (Nat.le_refl _) (fun as μ h => by
  obtain ⟨x0, rfl, h⟩ := a_I_e h
  exact h.1.1)
def C_PM_noTerm : Cf := fun id => match id with
  | 0 => trF 1 pr_PM_noValue po_PM_noValue
  | _ => fun _ _ _ => False
set_option maxRecDepth 100000 in
theorem cs_PM_noTerm (l : Launch) : ∀ x ∈ k_PM_noTerm, CS l R_PM b_PM_noTerm 1 (rmm 1 0 0) 131 131 C_PM_noTerm x := fc (CS.no rfl) (fc (CS.S c_PM_noValue wk_PM_noValue wl_PM_141 wt_PM_noValue wi_PM dn_PM_noValue ⟨rfl, rfl⟩ ⟨by decide, by decide⟩ ft_PM_noValue rfl (e_PM_noTerm_1).1) (fc (CS.no rfl) (fc (CS.no rfl) (fc (CS.no rfl) (fc (CS.no rfl) (fc (CS.no rfl) (fc (CS.no rfl) (fc (CS.no rfl) (fc (CS.no rfl) (fc (CS.no rfl) (fc (CS.no rfl) (fc (CS.no rfl) (fun _ h => absurd h List.not_mem_nil)))))))))))))
set_option maxRecDepth 100000 in
set_option maxHeartbeats 4000000 in
theorem c_PM_noTerm : Cn y_PM_noTerm b_PM_noTerm 1 (some .boolean) (rmm 1 0 0) 1 0 0 pr_PM_noTerm po_PM_noTerm := cn_I (f := fun x0 μ => FM μ ∧ (True)) (g := fun x0 μ r μ' => r = some (.int (b2 (¬ isT x0))) ∧ μ' = μ) fun l x0 μ h => by
  obtain ⟨hm, h⟩ := h
  obtain ⟨M, L, rfl⟩ := hm.e
  refine ky_met (own := R_PM) (ini := 0) (rb := 1) (nE := 131) (cd := k_PM_noTerm) (C := C_PM_noTerm) (by decide) rfl (fun h => by cases h) (Nat.le_of_ble_eq_true rfl) ⟨rfl, rfl⟩ (Or.inr (Or.inl ⟨rfl, rfl⟩)) rfl rfl (by decide) ok_PM_noTerm (cs_PM_noTerm l) rt_PM_noTerm (fun K hs => ?_)
  refine hs.go [] 20 _ _ _ _ ⟨⟨⟨rfl, rfl⟩, trivial⟩, rfl, rfl, ?_⟩
  rintro _ _ ⟨rfl, rfl⟩
  by_cases h1 : isV x0
  · rw [show b2 (¬ isV x0) = 0 from b2_f (fun z => z h1)]
    exact ⟨fun _ => ⟨rfl, fun _ => Or.inl rfl, vb_f (fun z => z (Or.inl h1)), rfl⟩, fun z => absurd rfl z⟩
  · rw [show b2 (¬ isV x0) = 1 from b2_t h1]
    refine ⟨fun z => absurd z (by decide), fun _ => ⟨fun h2 => ⟨rfl, fun _ => Or.inr rfl, vb_t ?_, rfl⟩, fun h2 => ⟨fun h3 => ⟨rfl, fun _ => Or.inl rfl, vb_f (fun z => z (Or.inr ⟨Int32.not_lt.mp h2, h3⟩)), rfl⟩, fun h3 => ⟨rfl, fun _ => Or.inr rfl, vb_t ?_, rfl⟩⟩⟩⟩
    · exact fun z => z.elim h1 (fun q => Int32.not_lt.mpr q.1 h2)
    · exact fun z => z.elim h1 (fun q => h3 q.2)

theorem dn_PM_place : y_PM_place.cls ≠ "java/lang/invoke/MethodHandle" ∧ y_PM_place.cls ≠ "java/lang/invoke/VarHandle" ∧ (parseMethodDescriptor y_PM_place.desc).map (fun d => d.parameters.length) = some 3 := by decide +kernel
abbrev pr_PM_place : List Value → Mm → Prop := preV 8 (fun k => a_III (fun x0 x1 x2 μ => FM μ ∧ (k = 109 ∧ μ.2.1 109 0 ≤ 14)))
abbrev po_PM_place : List Value → Mm → Option Value → Mm → Prop := qV (fun k => b_III (fun x0 x1 x2 μ r μ' => r = some (.int (plc (μ.2.1 109 0) (μ.2.1 110 x0.toNatClampNeg) x0 x1 x2)) ∧ μ' = μ))
theorem ft_PM_place : ∀ as μ, pr_PM_place as μ → μ.1 + 0 ≤ 131 ∧ cz μ.1 + 0 ≤ cz 131 := hf_S (n := 131) (Nat.le_refl _) (fun as μ h => by
  obtain ⟨k, r, rfl, hk, h⟩ := preV_e h
  obtain ⟨x0, x1, x2, rfl, h⟩ := a_III_e h
  exact h.1.1)
def C_PM_place : Cf := fun id => match id with
  | 0 => trF 1 pr_PM_noValue po_PM_noValue
  | 1 => trF 2 pr_PM_bit po_PM_bit
  | _ => fun _ _ _ => False
set_option maxRecDepth 100000 in
theorem cs_PM_place (l : Launch) : ∀ x ∈ k_PM_place, CS l R_PM b_PM_place 4 (rmm 1 0 0) 131 131 C_PM_place x := fc (CS.no rfl) (fc (CS.no rfl) (fc (CS.no rfl) (fc (CS.no rfl) (fc (CS.no rfl) (fc (CS.no rfl) (fc (CS.no rfl) (fc (CS.S c_PM_noValue wk_PM_noValue wl_PM_141 wt_PM_noValue wi_PM dn_PM_noValue ⟨rfl, rfl⟩ ⟨by decide, by decide⟩ ft_PM_noValue rfl (e_PM_place_13).1) (fc (CS.no rfl) (fc (CS.no rfl) (fc (CS.no rfl) (fc (CS.no rfl) (fc (CS.no rfl) (fc (CS.no rfl) (fc (CS.no rfl) (fc (CS.no rfl) (fc (CS.S c_PM_noValue wk_PM_noValue wl_PM_141 wt_PM_noValue wi_PM dn_PM_noValue ⟨rfl, rfl⟩ ⟨by decide, by decide⟩ ft_PM_noValue rfl (e_PM_place_30).1) (fc (CS.no rfl) (fc (CS.no rfl) (fc (CS.no rfl) (fc (CS.no rfl) (fc (CS.no rfl) (fc (CS.no rfl) (fc (CS.no rfl) (fc (CS.no rfl) (fc (CS.no rfl) (fc (CS.no rfl) (fc (CS.no rfl) (fc (CS.no rfl) (fc (CS.no rfl) (fc (CS.S c_PM_bit wk_PM_bit wl_PM_105 wt_PM_bit wi_PM dn_PM_bit ⟨rfl, rfl⟩ ⟨by decide, by decide⟩ ft_PM_bit rfl (e_PM_place_54).1) (fc (CS.no rfl) (fun _ h => absurd h List.not_mem_nil))))))))))))))))))))))))))))))))
set_option maxRecDepth 100000 in
set_option maxHeartbeats 4000000 in
theorem c_PM_place : Cn y_PM_place b_PM_place 4 (some .int) (rmm 1 0 0) (3 + 1) 0 0 pr_PM_place po_PM_place := cv_III (ci := 8) (f := fun k => fun x0 x1 x2 μ => FM μ ∧ (k = 109 ∧ μ.2.1 109 0 ≤ 14)) (g := fun k => fun x0 x1 x2 μ r μ' => r = some (.int (plc (μ.2.1 109 0) (μ.2.1 110 x0.toNatClampNeg) x0 x1 x2)) ∧ μ' = μ) fun l k x0 x1 x2 μ hk h => by
  obtain ⟨hm, h⟩ := h
  obtain ⟨M, L, rfl⟩ := hm.e
  refine ky_met (own := R_PM) (ini := 0) (rb := 0) (nE := 131) (cd := k_PM_place) (C := C_PM_place) (by decide) rfl (fun h => by cases h) (Nat.le_of_ble_eq_true rfl) ⟨rfl, rfl⟩ (Or.inl ⟨rfl, rfl⟩) rfl rfl (by decide) ok_PM_place (cs_PM_place l) rt_PM_place (fun K hs => ?_)
  obtain ⟨rfl, hc⟩ := h
  have hc : M 109 0 ≤ 14 := hc
  have no : ¬ (0 ≤ x0 ∧ x0 < M 109 0 ∧ isV x1 ∧ (M 110 x0.toNatClampNeg = 2 → isV x2)) → K 36 [some (.ref 109), some (.int x0), some (.int x1), some (.int x2)] [] (131, M, L, TT) := by
    intro h
    exact hs.go [36] 40 _ _ _ _ ⟨rfl, fun z => (by cases z), congrArg (fun v => some (Value.int v)) (if_neg h).symm, rfl⟩
  have yes : (0 ≤ x0 ∧ x0 < M 109 0 ∧ isV x1 ∧ (M 110 x0.toNatClampNeg = 2 → isV x2)) → K 38 [some (.ref 109), some (.int x0), some (.int x1), some (.int x2)] [] (131, M, L, TT) := by
    intro h
    have hx : vp_in x0 14 := in_lt h.1 (Int32.lt_of_lt_of_le h.2.1 hc)
    refine hs.go [38] 40 _ _ _ _ ⟨rfl, _, rfl, rfl, hx, fun h1 => ⟨⟨⟨rfl, rfl⟩, trivial⟩, rfl, rfl, ?_⟩, fun h1 => ⟨rfl, fun z => (by cases z), congrArg (fun v => some (Value.int v)) ((if_pos h).trans (if_pos h1)).symm, rfl⟩⟩
    rintro _ _ ⟨rfl, rfl⟩
    exact ⟨rfl, fun z => (by cases z), congrArg (fun v => some (Value.int v)) ((if_pos h).trans (if_neg h1)).symm, rfl⟩
  refine hs.go [36, 38] 40 _ _ _ _ ⟨fun h1 => no (fun z => Int32.not_lt.mpr z.1 h1), fun h1 => ⟨rfl, fun h2 => no (fun z => Int32.not_lt.mpr h2 z.2.1), fun h2 => ⟨⟨⟨rfl, rfl⟩, trivial⟩, rfl, rfl, ?_⟩⟩⟩
  have h1 : 0 ≤ x0 := Int32.not_lt.mp h1
  have h2 : x0 < M 109 0 := Int32.not_le.mp h2
  have hx : vp_in x0 14 := in_lt h1 (Int32.lt_of_lt_of_le h2 hc)
  rintro _ _ ⟨rfl, rfl⟩
  by_cases h3 : isV x1
  · rw [show b2 (¬ isV x1) = 0 from b2_f (fun z => z h3)]
    refine ⟨fun z => absurd rfl z, fun _ => ⟨rfl, _, rfl, rfl, hx, fun h4 => yes ⟨h1, h2, h3, fun z => absurd z h4⟩, fun h4 => ⟨⟨⟨rfl, rfl⟩, trivial⟩, rfl, rfl, ?_⟩⟩⟩
    rintro _ _ ⟨rfl, rfl⟩
    by_cases h5 : isV x2
    · rw [show b2 (¬ isV x2) = 0 from b2_f (fun z => z h5)]
      exact ⟨fun _ => yes ⟨h1, h2, h3, fun _ => h5⟩, fun z => absurd rfl z⟩
    · rw [show b2 (¬ isV x2) = 1 from b2_t h5]
      exact ⟨fun z => absurd z (by decide), fun _ => no (fun z => h5 (z.2.2.2 h4))⟩
  · rw [show b2 (¬ isV x1) = 1 from b2_t h3]
    exact ⟨fun _ => no (fun z => h3 z.2.2.1), fun z => absurd z (by decide)⟩

theorem dn_PM_term : y_PM_term.cls ≠ "java/lang/invoke/MethodHandle" ∧ y_PM_term.cls ≠ "java/lang/invoke/VarHandle" ∧ (parseMethodDescriptor y_PM_term.desc).map (fun d => d.parameters.length) = some 1 := by decide +kernel
abbrev pr_PM_term : List Value → Mm → Prop := preV 8 (fun k => a_I (fun x0 μ => FM μ ∧ (k = 109 ∧ tmok x0)))
abbrev po_PM_term : List Value → Mm → Option Value → Mm → Prop := qV (fun k => b_I (fun x0 μ r μ' => r = some (.int (tvl (μ.2.1 128) x0)) ∧ μ' = μ))
theorem ft_PM_term : ∀ as μ, pr_PM_term as μ → μ.1 + 0 ≤ 131 ∧ cz μ.1 + 0 ≤ cz 131 := hf_S (n := 131) (Nat.le_refl _) (fun as μ h => by
  obtain ⟨k, r, rfl, hk, h⟩ := preV_e h
  obtain ⟨x0, rfl, h⟩ := a_I_e h
  exact h.1.1)
theorem nc_PM_term : ∀ x ∈ k_PM_term, isInv x.2.1 = false := by decide +kernel
set_option maxRecDepth 100000 in
set_option maxHeartbeats 4000000 in
theorem c_PM_term : Cn y_PM_term b_PM_term 2 (some .int) (rmm 0 0 0) (1 + 1) 0 0 pr_PM_term po_PM_term := cv_I (ci := 8) (f := fun k => fun x0 μ => FM μ ∧ (k = 109 ∧ tmok x0)) (g := fun k => fun x0 μ r μ' => r = some (.int (tvl (μ.2.1 128) x0)) ∧ μ' = μ) fun l k x0 μ hk h => by
  obtain ⟨hm, h⟩ := h
  obtain ⟨M, L, rfl⟩ := hm.e
  refine ky_met (own := R_PM) (ini := 0) (rb := 0) (nE := 131) (cd := k_PM_term) (C := (fun _ _ _ _ => False)) (by decide) rfl (fun h => by cases h) (Nat.le_of_ble_eq_true rfl) ⟨rfl, rfl⟩ (Or.inl ⟨rfl, rfl⟩) rfl rfl (by decide) ok_PM_term (fun x hx => CS.no (nc_PM_term x hx)) rt_PM_term (fun K hs => ?_)
  obtain ⟨rfl, ht⟩ := h
  exact hs.go [] 30 _ _ _ _ ⟨fun h1 => ⟨rfl, _, rfl, rfl, tm4 ht h1, rfl, fun z => (by cases z), congrArg (fun v => some (Value.int v)) (if_pos h1).symm, rfl⟩, fun h1 => ⟨rfl, fun z => (by cases z), congrArg (fun v => some (Value.int v)) (if_neg h1).symm, rfl⟩⟩

theorem dn_PM_tupleOf : y_PM_tupleOf.cls ≠ "java/lang/invoke/MethodHandle" ∧ y_PM_tupleOf.cls ≠ "java/lang/invoke/VarHandle" ∧ (parseMethodDescriptor y_PM_tupleOf.desc).map (fun d => d.parameters.length) = some 1 := by decide +kernel
abbrev pr_PM_tupleOf : List Value → Mm → Prop := preV 8 (fun k => a_I (fun x0 μ => FM μ ∧ (k = 109 ∧ vp_in x0 60 ∧ rok μ.2.1 x0.toNatClampNeg)))
abbrev po_PM_tupleOf : List Value → Mm → Option Value → Mm → Prop := qV (fun k => b_I (fun x0 μ r μ' => r = some (.int (tpo μ.2.1 (μ.2.1 128) x0.toNatClampNeg)) ∧ μ' = μ))
theorem ft_PM_tupleOf : ∀ as μ, pr_PM_tupleOf as μ → μ.1 + 0 ≤ 131 ∧ cz μ.1 + 0 ≤ cz 131 := hf_S (n := 131) (Nat.le_refl _) (fun as μ h => by
  obtain ⟨k, r, rfl, hk, h⟩ := preV_e h
  obtain ⟨x0, rfl, h⟩ := a_I_e h
  exact h.1.1)
def C_PM_tupleOf : Cf := fun id => match id with
  | 0 => trF (1 + 1) pr_PM_term po_PM_term
  | 1 => trF 2 pr_PM_bit po_PM_bit
  | _ => fun _ _ _ => False
set_option maxRecDepth 100000 in
theorem cs_PM_tupleOf (l : Launch) : ∀ x ∈ k_PM_tupleOf, CS l R_PM b_PM_tupleOf 2 (rmm 1 0 0) 131 131 C_PM_tupleOf x := fc (CS.no rfl) (fc (CS.no rfl) (fc (CS.no rfl) (fc (CS.no rfl) (fc (CS.no rfl) (fc (CS.no rfl) (fc (CS.no rfl) (fc (CS.no rfl) (fc (CS.no rfl) (fc (CS.no rfl) (fc (CS.no rfl) (fc (CS.no rfl) (fc (CS.no rfl) (fc (CS.no rfl) (fc (CS.V c_PM_term wk_PM_term wl_PM_101 wm_PM_term we_PM_term rfl rfl wi_PM dn_PM_term ⟨rfl, rfl⟩ ⟨by decide, by decide⟩ ft_PM_term rfl (e_PM_tupleOf_22).1) (fc (CS.no rfl) (fc (CS.no rfl) (fc (CS.no rfl) (fc (CS.no rfl) (fc (CS.no rfl) (fc (CS.no rfl) (fc (CS.V c_PM_term wk_PM_term wl_PM_101 wm_PM_term we_PM_term rfl rfl wi_PM dn_PM_term ⟨rfl, rfl⟩ ⟨by decide, by decide⟩ ft_PM_term rfl (e_PM_tupleOf_35).1) (fc (CS.no rfl) (fc (CS.no rfl) (fc (CS.no rfl) (fc (CS.no rfl) (fc (CS.no rfl) (fc (CS.V c_PM_term wk_PM_term wl_PM_101 wm_PM_term we_PM_term rfl rfl wi_PM dn_PM_term ⟨rfl, rfl⟩ ⟨by decide, by decide⟩ ft_PM_term rfl (e_PM_tupleOf_45).1) (fc (CS.S c_PM_bit wk_PM_bit wl_PM_105 wt_PM_bit wi_PM dn_PM_bit ⟨rfl, rfl⟩ ⟨by decide, by decide⟩ ft_PM_bit rfl (e_PM_tupleOf_48).1) (fc (CS.no rfl) (fun _ h => absurd h List.not_mem_nil))))))))))))))))))))))))))))))
set_option maxRecDepth 100000 in
set_option maxHeartbeats 4000000 in
theorem c_PM_tupleOf : Cn y_PM_tupleOf b_PM_tupleOf 2 (some .int) (rmm 1 0 0) (1 + 1) 0 0 pr_PM_tupleOf po_PM_tupleOf := cv_I (ci := 8) (f := fun k => fun x0 μ => FM μ ∧ (k = 109 ∧ vp_in x0 60 ∧ rok μ.2.1 x0.toNatClampNeg)) (g := fun k => fun x0 μ r μ' => r = some (.int (tpo μ.2.1 (μ.2.1 128) x0.toNatClampNeg)) ∧ μ' = μ) fun l k x0 μ hk h => by
  obtain ⟨hm, h⟩ := h
  obtain ⟨M, L, rfl⟩ := hm.e
  refine ky_met (own := R_PM) (ini := 0) (rb := 0) (nE := 131) (cd := k_PM_tupleOf) (C := C_PM_tupleOf) (by decide) rfl (fun h => by cases h) (Nat.le_of_ble_eq_true rfl) ⟨rfl, rfl⟩ (Or.inl ⟨rfl, rfl⟩) rfl rfl (by decide) ok_PM_tupleOf (cs_PM_tupleOf l) rt_PM_tupleOf (fun K hs => ?_)
  obtain ⟨rfl, hx, hr⟩ := h
  have hr : rok M x0.toNatClampNeg := hr
  obtain ⟨r1, r2, r3, r4⟩ := id hr
  refine hs.go [] 50 _ _ _ _ ⟨rfl, _, rfl, rfl, _, rfl, rfl, hx, rfl, r1, fun h1 => ⟨rfl, _, rfl, rfl, hx, ⟨rfl, ⟨rfl, rfl⟩, rfl, r2⟩, rfl, rfl, ?_⟩, fun h1 => ⟨rfl, _, rfl, rfl, hx, ⟨rfl, ⟨rfl, rfl⟩, rfl, r2⟩, rfl, rfl, ?_⟩⟩
  · have h1 : ¬ una M x0.toNatClampNeg := h1
    have r3 : tmok (M 120 x0.toNatClampNeg) := r3.resolve_left h1
    rintro _ _ ⟨rfl, rfl⟩
    refine ⟨rfl, _, rfl, rfl, hx, ⟨rfl, ⟨rfl, rfl⟩, rfl, r3⟩, rfl, rfl, ?_⟩
    rintro _ _ ⟨rfl, rfl⟩
    refine ⟨⟨⟨rfl, rfl⟩, trivial⟩, rfl, rfl, ?_⟩
    rintro _ _ ⟨rfl, rfl⟩
    exact ⟨rfl, fun z => (by cases z), congrArg (fun v => some (Value.int v)) (if_neg h1).symm, rfl⟩
  · have h1 : una M x0.toNatClampNeg := h1
    rintro _ _ ⟨rfl, rfl⟩
    exact ⟨rfl, fun z => (by cases z), congrArg (fun v => some (Value.int v)) (if_pos h1).symm, rfl⟩

theorem dn_PM_fits : y_PM_fits.cls ≠ "java/lang/invoke/MethodHandle" ∧ y_PM_fits.cls ≠ "java/lang/invoke/VarHandle" ∧ (parseMethodDescriptor y_PM_fits.desc).map (fun d => d.parameters.length) = some 2 := by decide +kernel
abbrev pr_PM_fits : List Value → Mm → Prop := preV 8 (fun k => a_II (fun x0 x1 μ => FM μ ∧ (k = 109 ∧ tmok x0)))
abbrev po_PM_fits : List Value → Mm → Option Value → Mm → Prop := qV (fun k => b_II (fun x0 x1 μ r μ' => r = some (.int (b2 (fkl (μ.2.1 128) x0 x1))) ∧ μ' = (131, upr μ.2.1 128 (fvl' (μ.2.1 128) x0 x1), μ.2.2.1, TT)))
theorem ft_PM_fits : ∀ as μ, pr_PM_fits as μ → μ.1 + 0 ≤ 131 ∧ cz μ.1 + 0 ≤ cz 131 := hf_S (n := 131) (Nat.le_refl _) (fun as μ h => by
  obtain ⟨k, r, rfl, hk, h⟩ := preV_e h
  obtain ⟨x0, x1, rfl, h⟩ := a_II_e h
  exact h.1.1)
theorem nc_PM_fits : ∀ x ∈ k_PM_fits, isInv x.2.1 = false := by decide +kernel
set_option maxRecDepth 100000 in
set_option maxHeartbeats 4000000 in
theorem c_PM_fits : Cn y_PM_fits b_PM_fits 4 (some .boolean) (rmm 0 0 0) (2 + 1) 0 0 pr_PM_fits po_PM_fits := cv_II (ci := 8) (f := fun k => fun x0 x1 μ => FM μ ∧ (k = 109 ∧ tmok x0)) (g := fun k => fun x0 x1 μ r μ' => r = some (.int (b2 (fkl (μ.2.1 128) x0 x1))) ∧ μ' = (131, upr μ.2.1 128 (fvl' (μ.2.1 128) x0 x1), μ.2.2.1, TT)) fun l k x0 x1 μ hk h => by
  obtain ⟨hm, h⟩ := h
  obtain ⟨M, L, rfl⟩ := hm.e
  refine ky_met (own := R_PM) (ini := 0) (rb := 1) (nE := 131) (cd := k_PM_fits) (C := (fun _ _ _ _ => False)) (by decide) rfl (fun h => by cases h) (Nat.le_of_ble_eq_true rfl) ⟨rfl, rfl⟩ (Or.inr (Or.inl ⟨rfl, rfl⟩)) rfl rfl (by decide) ok_PM_fits (fun x hx => CS.no (nc_PM_fits x hx)) rt_PM_fits (fun K hs => ?_)
  obtain ⟨rfl, ht⟩ := h
  have s48 : ∀ v : Int32, 10 ≤ x0 → (v = 1 ∨ v = 0) → some (Value.int v) = some (Value.int (b2 (fkl (M 128) x0 x1))) → K 48 [some (.ref 109), some (.int x0), some (.int x1), none] [.int v] (131, M, L, TT) := by
    intro v h1 hv e
    refine hs.go [48] 40 _ _ _ _ ⟨rfl, _, rfl, rfl, tm4 ht h1, rfl, fun _ => hv.symm, e, ?_⟩
    show (131, up2 M 128 (x0 - 10).toNatClampNeg x1, L, TT) = (131, upr M 128 (fvl' (M 128) x0 x1), L, TT)
    unfold fvl'
    rw [if_pos h1, up2_upr]
  have n10 : ¬ 10 ≤ x0 → (131, M, L, TT) = ((131, upr M 128 (fvl' (M 128) x0 x1), L, TT) : Mm) := by
    intro h1
    unfold fvl'
    rw [if_neg h1, upr_id]
  refine hs.go [48] 40 _ _ _ _ ⟨fun h1 => ⟨rfl, _, rfl, rfl, tm4 ht h1, fun h2 => s48 1 h1 (Or.inl rfl) (vb_t (Or.inl ⟨h1, Or.inl h2⟩)), fun h2 => ⟨rfl, _, rfl, rfl, tm4 ht h1, fun h3 => s48 0 h1 (Or.inr rfl) (vb_f ?_), fun h3 => s48 1 h1 (Or.inl rfl) (vb_t (Or.inl ⟨h1, Or.inr h3⟩))⟩⟩, fun h1 => ⟨fun h2 => ⟨rfl, fun _ => Or.inl rfl, vb_f ?_, n10 h1⟩, fun h2 => ⟨rfl, fun _ => Or.inr rfl, vb_t (Or.inr ⟨h1, h2⟩), n10 h1⟩⟩⟩
  · exact fun z => z.elim (fun q => q.2.elim h2 h3) (fun q => q.1 h1)
  · exact fun z => z.elim (fun q => h1 q.1) (fun q => h2 q.2)
