theorem TTh : ∀ i, i < 14 → TT (12 + 6 * i) 0 = some (13 + 6 * i) := by decide
theorem TTb : ∀ i, i < 14 → TT (12 + 6 * i) 1 = some (14 + 6 * i) := by decide
theorem TTl : ∀ i, i < 14 → ∀ j, j < 3 → TT (14 + 6 * i) j = some (15 + 6 * i + j) := by decide
theorem kdR : ∀ i, i < 14 → (Nat.beq (kd (12 + 6 * i)).1 (4 + 5) && Nat.blt (12 + 6 * i) 131) = true := by decide
theorem kdH : ∀ i, i < 14 → (Nat.beq (kd (13 + 6 * i)).1 (5 + 5) && Nat.blt (13 + 6 * i) 131) = true := by decide
theorem kdB : ∀ i, i < 14 → (Nat.beq (kd (14 + 6 * i)).1 3 && Nat.blt (14 + 6 * i) 131) = true := by decide
theorem kdB3 : ∀ i, i < 14 → (kd (14 + 6 * i)).2 = 3 := by decide
theorem kdL : ∀ i, i < 14 → ∀ j, j < 3 → (Nat.beq (kd (15 + 6 * i + j)).1 (5 + 5) && Nat.blt (15 + 6 * i + j) 131) = true := by decide
theorem kdG : ∀ j, j < 4 → (Nat.beq (kd (99 + j)).1 (5 + 5) && Nat.blt (99 + j) 131) = true := by decide
abbrev mM : Type := Nat → Nat → Int32
abbrev mL : Type := Nat → Nat → Int64
abbrev mT : Type := Nat → Nat → Option Nat
theorem ioR {M : mM} {L : mL} {T : mT} {i : Nat} (h : i < 14) : isO (131, M, L, T) (12 + 6 * i) 4 = true := kdR i h
theorem ioH {M : mM} {L : mL} {T : mT} {i : Nat} (h : i < 14) : isO (131, M, L, T) (13 + 6 * i) 5 = true := kdH i h
theorem ioL {M : mM} {L : mL} {T : mT} {i j : Nat} (h : i < 14) (hj : j < 3) : isO (131, M, L, T) (15 + 6 * i + j) 5 = true := kdL i h j hj
theorem ioG {M : mM} {L : mL} {T : mT} {j : Nat} (hj : j < 4) : isO (131, M, L, T) (99 + j) 5 = true := kdG j hj
theorem iaB {M : mM} {L : mL} {T : mT} {i : Nat} (h : i < 14) : (isA (131, M, L, T) (14 + 6 * i) 3 || isA (131, M, L, T) (14 + 6 * i) 4) = true := by
  rw [show isA (131, M, L, T) (14 + 6 * i) 3 = true from kdB i h]
  rfl
theorem cl_lt {x : Int32} {n : Nat} (h : vp_in x n) : x.toNatClampNeg < n := Nat.not_le.mp fun q => h (Or.inr q)
def tmok (t : Int32) : Prop := ∃ n : Nat, t = nI n ∧ (n < 6 ∨ (10 ≤ n ∧ n ≤ 13))
def wL (M : mM) (k : Nat) : Prop := vp_in (M k 0) 14 ∧ tmok (M k 1) ∧ tmok (M k 2) ∧ (M k 3 = 0 ∨ M k 3 = 1)
def wR (M : mM) (i : Nat) : Prop := (M (12 + 6 * i) 4 = 0 ∨ M (12 + 6 * i) 4 = 1) ∧ (∃ n, n ≤ 3 ∧ M (12 + 6 * i) 2 = nI n) ∧ wL M (13 + 6 * i) ∧ ∀ j, j < 3 → wL M (15 + 6 * i + j)
def WM (M : mM) : Prop := (∀ i, i < 14 → wR M i) ∧ (∀ j, j < 4 → wL M (99 + j)) ∧ ∃ g, g ≤ 4 ∧ M 10 4 = nI g
def fnr (M : mM) : Nat → Nat → Int32
  | 0, _ => -1
  | n + 1, i => if M (12 + 6 * i) 4 = 0 then nI i else fnr M n (i + 1)
def sfB (M : mM) : Nat → Int32
  | 0 => 0
  | n + 1 => if M (99 + (n + 1)) 3 = 0 then sfB M n ||| (vbt (M (99 + (n + 1)) 1) ||| vbt (M (99 + (n + 1)) 2)) else sfB M n
def sfN (M : mM) : Nat → Int32
  | 0 => vbt (M 99 1) ||| vbt (M 99 2)
  | n + 1 => if M (99 + (n + 1)) 3 = 0 then sfN M n else sfN M n ||| (vbt (M (99 + (n + 1)) 1) ||| vbt (M (99 + (n + 1)) 2))
def rlv (M : mM) (t : Nat → Int32) (i j : Nat) : Int32 := t (M (15 + 6 * i + j) 0).toNatClampNeg + (if M (15 + 6 * i + j) 3 = 0 then 0 else 1)
def rlt (M : mM) (t : Nat → Int32) (i : Nat) : Nat → Int32
  | 0 => 0
  | j + 1 => if rlt M t i j < rlv M t i j then rlv M t i j else rlt M t i j
def rhd (M : mM) (i : Nat) : Nat := (M (13 + 6 * i) 0).toNatClampNeg
def rln (M : mM) (i : Nat) : Nat := (M (12 + 6 * i) 2).toNatClampNeg
/-- a head is raised -/
def rht (M : mM) (t : Nat → Int32) (i : Nat) : Nat → Int32 := if t (rhd M i) < rlt M t i (rln M i) then upd t (rhd M i) (rlt M t i (rln M i)) else t
theorem up2_upr {M : mM} {k j : Nat} {x : Int32} : up2 M k j x = upr M k (upd (M k) j x) := by
  funext a b
  unfold up2 upr upd
  by_cases ha : a = k
  · subst ha; simp
  · simp [ha]
theorem upr_id {M : mM} {k : Nat} : upr M k (M k) = M := by
  funext a b
  unfold upr
  by_cases ha : a = k
  · subst ha; simp
  · simp [ha]

theorem dn_RB_isUsers : y_RB_isUsers.cls ≠ "java/lang/invoke/MethodHandle" ∧ y_RB_isUsers.cls ≠ "java/lang/invoke/VarHandle" ∧ (parseMethodDescriptor y_RB_isUsers.desc).map (fun d => d.parameters.length) = some 1 := by decide +kernel
abbrev pr_RB_isUsers : List Value → Mm → Prop := preV 3 (fun k => a_I (fun x0 μ => FM μ ∧ (k = 10)))
abbrev po_RB_isUsers : List Value → Mm → Option Value → Mm → Prop := qV (fun k => b_I (fun x0 μ r μ' => r = some (.int (b2 (6 ≤ x0 ∧ x0 < 14 ∧ ¬ μ.2.1 (12 + 6 * x0.toNatClampNeg) 4 = 0))) ∧ μ' = μ))
theorem ft_RB_isUsers : ∀ as μ, pr_RB_isUsers as μ → μ.1 + 0 ≤ 131 ∧ cz μ.1 + 0 ≤ cz 131 := hf_S (n := 131) (Nat.le_refl _) (fun as μ h => by
  obtain ⟨k, r, rfl, hk, h⟩ := preV_e h
  obtain ⟨x0, rfl, h⟩ := a_I_e h
  exact h.1.1)
theorem nc_RB_isUsers : ∀ x ∈ k_RB_isUsers, isInv x.2.1 = false := by decide +kernel
set_option maxRecDepth 100000 in
set_option maxHeartbeats 4000000 in
theorem c_RB_isUsers : Cn y_RB_isUsers b_RB_isUsers 2 (some .boolean) (rmm 0 0 0) (1 + 1) 0 0 pr_RB_isUsers po_RB_isUsers := cv_I (ci := 3) (f := fun k => fun x0 μ => FM μ ∧ (k = 10)) (g := fun k => fun x0 μ r μ' => r = some (.int (b2 (6 ≤ x0 ∧ x0 < 14 ∧ ¬ μ.2.1 (12 + 6 * x0.toNatClampNeg) 4 = 0))) ∧ μ' = μ) fun l k x0 μ hk h => by
  obtain ⟨hm, h⟩ := h
  obtain ⟨M, L, rfl⟩ := hm.e
  refine ky_met (own := R_RB) (ini := 0) (rb := 1) (nE := 131) (cd := k_RB_isUsers) (C := (fun _ _ _ _ => False)) (by decide) rfl (fun h => by cases h) (Nat.le_of_ble_eq_true rfl) ⟨rfl, rfl⟩ (Or.inr (Or.inl ⟨rfl, rfl⟩)) rfl rfl (by decide) ok_RB_isUsers (fun x hx => CS.no (nc_RB_isUsers x hx)) rt_RB_isUsers (fun K hs => ?_)
  subst h
  refine hs.go [] 40 _ _ _ _ ⟨fun h1 => ⟨rfl, fun _ => Or.inl rfl, vb_f (fun z => Int32.not_lt.mpr z.1 h1), rfl⟩, fun h1 => ⟨fun h2 => ⟨rfl, fun _ => Or.inl rfl, vb_f (fun z => Int32.not_lt.mpr h2 z.2.1), rfl⟩, fun h2 => ?_⟩⟩
  have hx : vp_in x0 14 := in_lt (Int32.le_trans (by decide) (Int32.not_lt.mp h1)) (Int32.not_le.mp h2)
  have hi := cl_lt hx
  exact ⟨rfl, _, rfl, rfl, hx, _, rfl, ioR hi, fun h3 => ⟨rfl, fun _ => Or.inl rfl, vb_f (fun z => z.2.2 h3), rfl⟩, fun h3 => ⟨rfl, fun _ => Or.inr rfl, vb_t ⟨Int32.not_lt.mp h1, Int32.not_le.mp h2, h3⟩, rfl⟩⟩

theorem dn_RB_headOf : y_RB_headOf.cls ≠ "java/lang/invoke/MethodHandle" ∧ y_RB_headOf.cls ≠ "java/lang/invoke/VarHandle" ∧ (parseMethodDescriptor y_RB_headOf.desc).map (fun d => d.parameters.length) = some 1 := by decide +kernel
abbrev pr_RB_headOf : List Value → Mm → Prop := preV 3 (fun k => a_I (fun x0 μ => FM μ ∧ (k = 10 ∧ vp_in x0 14)))
abbrev po_RB_headOf : List Value → Mm → Option Value → Mm → Prop := qV (fun k => b_I (fun x0 μ r μ' => r = some (.int (μ.2.1 (13 + 6 * x0.toNatClampNeg) 0)) ∧ μ' = μ))
theorem ft_RB_headOf : ∀ as μ, pr_RB_headOf as μ → μ.1 + 0 ≤ 131 ∧ cz μ.1 + 0 ≤ cz 131 := hf_S (n := 131) (Nat.le_refl _) (fun as μ h => by
  obtain ⟨k, r, rfl, hk, h⟩ := preV_e h
  obtain ⟨x0, rfl, h⟩ := a_I_e h
  exact h.1.1)
theorem nc_RB_headOf : ∀ x ∈ k_RB_headOf, isInv x.2.1 = false := by decide +kernel
set_option maxRecDepth 100000 in
set_option maxHeartbeats 4000000 in
theorem c_RB_headOf : Cn y_RB_headOf b_RB_headOf 2 (some .int) (rmm 0 0 0) (1 + 1) 0 0 pr_RB_headOf po_RB_headOf := cv_I (ci := 3) (f := fun k => fun x0 μ => FM μ ∧ (k = 10 ∧ vp_in x0 14)) (g := fun k => fun x0 μ r μ' => r = some (.int (μ.2.1 (13 + 6 * x0.toNatClampNeg) 0)) ∧ μ' = μ) fun l k x0 μ hk h => by
  obtain ⟨hm, h⟩ := h
  obtain ⟨M, L, rfl⟩ := hm.e
  refine ky_met (own := R_RB) (ini := 0) (rb := 0) (nE := 131) (cd := k_RB_headOf) (C := (fun _ _ _ _ => False)) (by decide) rfl (fun h => by cases h) (Nat.le_of_ble_eq_true rfl) ⟨rfl, rfl⟩ (Or.inl ⟨rfl, rfl⟩) rfl rfl (by decide) ok_RB_headOf (fun x hx => CS.no (nc_RB_headOf x hx)) rt_RB_headOf (fun K hs => ?_)
  obtain ⟨rfl, hx⟩ := h
  have hi := cl_lt hx
  exact hs.go [] 40 _ _ _ _ ⟨rfl, _, rfl, rfl, hx, _, rfl, ioR hi, _, TTh _ hi, ioH hi, rfl, fun z => (by cases z), rfl, rfl⟩

theorem dn_RB_remove : y_RB_remove.cls ≠ "java/lang/invoke/MethodHandle" ∧ y_RB_remove.cls ≠ "java/lang/invoke/VarHandle" ∧ (parseMethodDescriptor y_RB_remove.desc).map (fun d => d.parameters.length) = some 1 := by decide +kernel
abbrev pr_RB_remove : List Value → Mm → Prop := preV 3 (fun k => a_I (fun x0 μ => FM μ ∧ (k = 10 ∧ vp_in x0 14)))
abbrev po_RB_remove : List Value → Mm → Option Value → Mm → Prop := qV (fun k => b_I (fun x0 μ r μ' => r = none ∧ μ' = sI μ (12 + 6 * x0.toNatClampNeg) 4 0))
theorem ft_RB_remove : ∀ as μ, pr_RB_remove as μ → μ.1 + 0 ≤ 131 ∧ cz μ.1 + 0 ≤ cz 131 := hf_S (n := 131) (Nat.le_refl _) (fun as μ h => by
  obtain ⟨k, r, rfl, hk, h⟩ := preV_e h
  obtain ⟨x0, rfl, h⟩ := a_I_e h
  exact h.1.1)
theorem nc_RB_remove : ∀ x ∈ k_RB_remove, isInv x.2.1 = false := by decide +kernel
set_option maxRecDepth 100000 in
set_option maxHeartbeats 4000000 in
theorem c_RB_remove : Cn y_RB_remove b_RB_remove 2 none (rmm 0 0 0) (1 + 1) 0 0 pr_RB_remove po_RB_remove := cv_I (ci := 3) (f := fun k => fun x0 μ => FM μ ∧ (k = 10 ∧ vp_in x0 14)) (g := fun k => fun x0 μ r μ' => r = none ∧ μ' = sI μ (12 + 6 * x0.toNatClampNeg) 4 0) fun l k x0 μ hk h => by
  obtain ⟨hm, h⟩ := h
  obtain ⟨M, L, rfl⟩ := hm.e
  refine ky_met (own := R_RB) (ini := 0) (rb := 3) (nE := 131) (cd := k_RB_remove) (C := (fun _ _ _ _ => False)) (by decide) rfl (fun h => by cases h) (Nat.le_of_ble_eq_true rfl) ⟨rfl, rfl⟩ (Or.inr (Or.inr (Or.inr ⟨rfl, rfl⟩))) rfl rfl (by decide) ok_RB_remove (fun x hx => CS.no (nc_RB_remove x hx)) rt_RB_remove (fun K hs => ?_)
  obtain ⟨rfl, hx⟩ := h
  have hi := cl_lt hx
  exact hs.go [] 40 _ _ _ _ ⟨rfl, _, rfl, rfl, hx, _, rfl, ioR hi, Or.inl rfl, rfl, rfl, rfl⟩

theorem dn_RB_freeNumber : y_RB_freeNumber.cls ≠ "java/lang/invoke/MethodHandle" ∧ y_RB_freeNumber.cls ≠ "java/lang/invoke/VarHandle" ∧ (parseMethodDescriptor y_RB_freeNumber.desc).map (fun d => d.parameters.length) = some 0 := by decide +kernel
abbrev pr_RB_freeNumber : List Value → Mm → Prop := preV 3 (fun k => a_0 (fun μ => FM μ ∧ (k = 10)))
abbrev po_RB_freeNumber : List Value → Mm → Option Value → Mm → Prop := qV (fun k => b_0 (fun μ r μ' => r = some (.int (fnr μ.2.1 8 6)) ∧ μ' = μ))
theorem ft_RB_freeNumber : ∀ as μ, pr_RB_freeNumber as μ → μ.1 + 0 ≤ 131 ∧ cz μ.1 + 0 ≤ cz 131 := hf_S (n := 131) (Nat.le_refl _) (fun as μ h => by
  obtain ⟨k, r, rfl, hk, h⟩ := preV_e h
  obtain ⟨rfl, h⟩ := a_0_e h
  exact h.1.1)
theorem nc_RB_freeNumber : ∀ x ∈ k_RB_freeNumber, isInv x.2.1 = false := by decide +kernel
set_option maxRecDepth 100000 in
set_option maxHeartbeats 4000000 in
theorem c_RB_freeNumber : Cn y_RB_freeNumber b_RB_freeNumber 2 (some .int) (rmm 0 0 0) (0 + 1) 0 0 pr_RB_freeNumber po_RB_freeNumber := cv_0 (ci := 3) (f := fun k => fun μ => FM μ ∧ (k = 10)) (g := fun k => fun μ r μ' => r = some (.int (fnr μ.2.1 8 6)) ∧ μ' = μ) fun l k  μ hk h => by
  obtain ⟨hm, h⟩ := h
  obtain ⟨M, L, rfl⟩ := hm.e
  refine ky_met (own := R_RB) (ini := 0) (rb := 0) (nE := 131) (cd := k_RB_freeNumber) (C := (fun _ _ _ _ => False)) (by decide) rfl (fun h => by cases h) (Nat.le_of_ble_eq_true rfl) ⟨rfl, rfl⟩ (Or.inl ⟨rfl, rfl⟩) rfl rfl (by decide) ok_RB_freeNumber (fun x hx => CS.no (nc_RB_freeNumber x hx)) rt_RB_freeNumber (fun K hs => ?_)
  subst h
  have loop : ∀ (n c : Nat), c + n = 14 → fnr M n c = fnr M 8 6 → K 3 [some (.ref 10), some (.int (nI c))] [] (131, M, L, TT) := by
    intro n
    induction n with
    | zero =>
      intro c hc hr
      rw [show c = 14 by omega] at hr ⊢
      exact hs.go [3] 30 _ _ _ _ ⟨fun _ => ⟨rfl, fun z => (by cases z), by rw [← hr]; rfl, rfl⟩, fun z => absurd (Int32.le_refl _) z⟩
    | succ n ih =>
      intro c hc hr
      have hin : vp_in (nI c) 14 := vp_in_nI (by omega) (by decide)
      have hcl : (nI c).toNatClampNeg = c := nI_clamp (n := c) (by omega)
      refine hs.go [3] 30 _ _ _ _ ⟨fun z => absurd z (nI_ge (a := c) (b := 14) (by omega) (by decide)), fun _ => ⟨rfl, _, rfl, rfl, hin, _, rfl, ioR (cl_lt hin), fun hb => ?_, fun hb => ?_⟩⟩
      · have hb : ¬ M (12 + 6 * (nI c).toNatClampNeg) 4 = 0 := hb
        rw [hcl] at hb
        have h9 := ih (c + 1) (by omega) (by rw [← hr]; simp only [fnr, if_neg hb])
        rw [nI_succ] at h9
        exact h9
      · have hb : M (12 + 6 * (nI c).toNatClampNeg) 4 = 0 := hb
        rw [hcl] at hb
        exact ⟨rfl, fun z => (by cases z), by rw [← hr]; simp only [fnr, if_pos hb], rfl⟩
  exact hs.go [3] 30 _ _ _ _ (loop 8 6 rfl rfl)

theorem dn_RB_dropGiven : y_RB_dropGiven.cls ≠ "java/lang/invoke/MethodHandle" ∧ y_RB_dropGiven.cls ≠ "java/lang/invoke/VarHandle" ∧ (parseMethodDescriptor y_RB_dropGiven.desc).map (fun d => d.parameters.length) = some 0 := by decide +kernel
abbrev pr_RB_dropGiven : List Value → Mm → Prop := preV 3 (fun k => a_0 (fun μ => FM μ ∧ (k = 10)))
abbrev po_RB_dropGiven : List Value → Mm → Option Value → Mm → Prop := qV (fun k => b_0 (fun μ r μ' => r = none ∧ μ' = sI μ 10 4 0))
theorem ft_RB_dropGiven : ∀ as μ, pr_RB_dropGiven as μ → μ.1 + 0 ≤ 131 ∧ cz μ.1 + 0 ≤ cz 131 := hf_S (n := 131) (Nat.le_refl _) (fun as μ h => by
  obtain ⟨k, r, rfl, hk, h⟩ := preV_e h
  obtain ⟨rfl, h⟩ := a_0_e h
  exact h.1.1)
theorem nc_RB_dropGiven : ∀ x ∈ k_RB_dropGiven, isInv x.2.1 = false := by decide +kernel
set_option maxRecDepth 100000 in
set_option maxHeartbeats 4000000 in
theorem c_RB_dropGiven : Cn y_RB_dropGiven b_RB_dropGiven 1 none (rmm 0 0 0) (0 + 1) 0 0 pr_RB_dropGiven po_RB_dropGiven := cv_0 (ci := 3) (f := fun k => fun μ => FM μ ∧ (k = 10)) (g := fun k => fun μ r μ' => r = none ∧ μ' = sI μ 10 4 0) fun l k  μ hk h => by
  obtain ⟨hm, h⟩ := h
  obtain ⟨M, L, rfl⟩ := hm.e
  refine ky_met (own := R_RB) (ini := 0) (rb := 3) (nE := 131) (cd := k_RB_dropGiven) (C := (fun _ _ _ _ => False)) (by decide) rfl (fun h => by cases h) (Nat.le_of_ble_eq_true rfl) ⟨rfl, rfl⟩ (Or.inr (Or.inr (Or.inr ⟨rfl, rfl⟩))) rfl rfl (by decide) ok_RB_dropGiven (fun x hx => CS.no (nc_RB_dropGiven x hx)) rt_RB_dropGiven (fun K hs => ?_)
  subst h
  exact hs.go [] 30 _ _ _ _ ⟨rfl, rfl, rfl, rfl⟩

theorem dn_RB_give : y_RB_give.cls ≠ "java/lang/invoke/MethodHandle" ∧ y_RB_give.cls ≠ "java/lang/invoke/VarHandle" ∧ (parseMethodDescriptor y_RB_give.desc).map (fun d => d.parameters.length) = some 4 := by decide +kernel
abbrev pr_RB_give : List Value → Mm → Prop := preV 3 (fun k => a_IIII (fun x0 x1 x2 x3 μ => FM μ ∧ (k = 10 ∧ vp_in (μ.2.1 10 4) 4 ∧ (x3 = 0 ∨ x3 = 1))))
abbrev po_RB_give : List Value → Mm → Option Value → Mm → Prop := qV (fun k => b_IIII (fun x0 x1 x2 x3 μ r μ' => r = none ∧ μ' = sI (sI (sI (sI (sI μ (99 + (μ.2.1 10 4).toNatClampNeg) 0 x0) (99 + (μ.2.1 10 4).toNatClampNeg) 1 x1) (99 + (μ.2.1 10 4).toNatClampNeg) 2 x2) (99 + (μ.2.1 10 4).toNatClampNeg) 3 x3) 10 4 (μ.2.1 10 4 + 1)))
theorem ft_RB_give : ∀ as μ, pr_RB_give as μ → μ.1 + 0 ≤ 131 ∧ cz μ.1 + 0 ≤ cz 131 := hf_S (n := 131) (Nat.le_refl _) (fun as μ h => by
  obtain ⟨k, r, rfl, hk, h⟩ := preV_e h
  obtain ⟨x0, x1, x2, x3, rfl, h⟩ := a_IIII_e h
  exact h.1.1)
def C_RB_give : Cf := fun id => match id with
  | 0 => trF (4 + 1) pr_LI_become po_LI_become
  | _ => fun _ _ _ => False
set_option maxRecDepth 100000 in
theorem cs_RB_give (l : Launch) : ∀ x ∈ k_RB_give, CS l R_RB b_RB_give 5 (rmm 1 0 0) 131 131 C_RB_give x := fc (CS.no rfl) (fc (CS.no rfl) (fc (CS.no rfl) (fc (CS.no rfl) (fc (CS.no rfl) (fc (CS.no rfl) (fc (CS.no rfl) (fc (CS.no rfl) (fc (CS.no rfl) (fc (CS.V c_LI_become wk_LI_become wl_RB_50 wm_LI_become we_LI_become rfl rfl wi_LI dn_LI_become ⟨rfl, rfl⟩ ⟨by decide, by decide⟩ ft_LI_become rfl (e_RB_give_14).1) (fc (CS.no rfl) (fc (CS.no rfl) (fc (CS.no rfl) (fc (CS.no rfl) (fc (CS.no rfl) (fc (CS.no rfl) (fc (CS.no rfl) (fun _ h => absurd h List.not_mem_nil)))))))))))))))))
set_option maxRecDepth 100000 in
set_option maxHeartbeats 4000000 in
theorem c_RB_give : Cn y_RB_give b_RB_give 5 none (rmm 1 0 0) (4 + 1) 0 0 pr_RB_give po_RB_give := cv_IIII (ci := 3) (f := fun k => fun x0 x1 x2 x3 μ => FM μ ∧ (k = 10 ∧ vp_in (μ.2.1 10 4) 4 ∧ (x3 = 0 ∨ x3 = 1))) (g := fun k => fun x0 x1 x2 x3 μ r μ' => r = none ∧ μ' = sI (sI (sI (sI (sI μ (99 + (μ.2.1 10 4).toNatClampNeg) 0 x0) (99 + (μ.2.1 10 4).toNatClampNeg) 1 x1) (99 + (μ.2.1 10 4).toNatClampNeg) 2 x2) (99 + (μ.2.1 10 4).toNatClampNeg) 3 x3) 10 4 (μ.2.1 10 4 + 1)) fun l k x0 x1 x2 x3 μ hk h => by
  obtain ⟨hm, h⟩ := h
  obtain ⟨M, L, rfl⟩ := hm.e
  refine ky_met (own := R_RB) (ini := 0) (rb := 3) (nE := 131) (cd := k_RB_give) (C := C_RB_give) (by decide) rfl (fun h => by cases h) (Nat.le_of_ble_eq_true rfl) ⟨rfl, rfl⟩ (Or.inr (Or.inr (Or.inr ⟨rfl, rfl⟩))) rfl rfl (by decide) ok_RB_give (cs_RB_give l) rt_RB_give (fun K hs => ?_)
  obtain ⟨rfl, hg, h01⟩ := h
  have hi := cl_lt hg
  refine hs.go [] 40 _ _ _ _ ⟨rfl, _, rfl, rfl, rfl, hg, _, rfl, ⟨ioG hi, ⟨rfl, rfl⟩, h01⟩, rfl, rfl, ?_⟩
  rintro _ _ ⟨rfl, rfl⟩
  have hne : 10 ≠ 99 + (M 10 4).toNatClampNeg := by omega
  have e : up2 (up2 (up2 (up2 M (99 + (M 10 4).toNatClampNeg) 0 x0) (99 + (M 10 4).toNatClampNeg) 1 x1) (99 + (M 10 4).toNatClampNeg) 2 x2) (99 + (M 10 4).toNatClampNeg) 3 x3 10 4 = M 10 4 := by rw [up2_k hne, up2_k hne, up2_k hne, up2_k hne]
  refine ⟨rfl, rfl, rfl, rfl, ?_⟩
  exact congrArg (fun v => sI (sI (sI (sI (sI (131, M, L, TT) (99 + (M 10 4).toNatClampNeg) 0 x0) (99 + (M 10 4).toNatClampNeg) 1 x1) (99 + (M 10 4).toNatClampNeg) 2 x2) (99 + (M 10 4).toNatClampNeg) 3 x3) 10 4 (v + 1)) e

theorem dn_RB_givenIsSafe : y_RB_givenIsSafe.cls ≠ "java/lang/invoke/MethodHandle" ∧ y_RB_givenIsSafe.cls ≠ "java/lang/invoke/VarHandle" ∧ (parseMethodDescriptor y_RB_givenIsSafe.desc).map (fun d => d.parameters.length) = some 0 := by decide +kernel
abbrev pr_RB_givenIsSafe : List Value → Mm → Prop := preV 3 (fun k => a_0 (fun μ => FM μ ∧ (k = 10 ∧ WM μ.2.1 ∧ ¬ μ.2.1 10 4 = 0)))
abbrev po_RB_givenIsSafe : List Value → Mm → Option Value → Mm → Prop := qV (fun k => b_0 (fun μ r μ' => r = some (.int (b2 ((sfN μ.2.1 ((μ.2.1 10 4).toNatClampNeg - 1) &&& (sfB μ.2.1 ((μ.2.1 10 4).toNatClampNeg - 1) ^^^ (-1))) = 0))) ∧ μ' = μ))
theorem ft_RB_givenIsSafe : ∀ as μ, pr_RB_givenIsSafe as μ → μ.1 + 0 ≤ 131 ∧ cz μ.1 + 0 ≤ cz 131 := hf_S (n := 131) (Nat.le_refl _) (fun as μ h => by
  obtain ⟨k, r, rfl, hk, h⟩ := preV_e h
  obtain ⟨rfl, h⟩ := a_0_e h
  exact h.1.1)
def C_RB_givenIsSafe : Cf := fun id => match id with
  | 0 => trF (0 + 1) pr_LI_variables po_LI_variables
  | _ => fun _ _ _ => False
set_option maxRecDepth 100000 in
theorem cs_RB_givenIsSafe (l : Launch) : ∀ x ∈ k_RB_givenIsSafe, CS l R_RB b_RB_givenIsSafe 4 (rmm 1 0 0) 131 131 C_RB_givenIsSafe x := fc (CS.no rfl) (fc (CS.no rfl) (fc (CS.no rfl) (fc (CS.no rfl) (fc (CS.no rfl) (fc (CS.no rfl) (fc (CS.V c_LI_variables wk_LI_variables wl_RB_67 wm_LI_variables we_LI_variables rfl rfl wi_LI dn_LI_variables ⟨rfl, rfl⟩ ⟨by decide, by decide⟩ ft_LI_variables rfl (e_RB_givenIsSafe_8).1) (fc (CS.no rfl) (fc (CS.no rfl) (fc (CS.no rfl) (fc (CS.no rfl) (fc (CS.no rfl) (fc (CS.no rfl) (fc (CS.no rfl) (fc (CS.no rfl) (fc (CS.no rfl) (fc (CS.no rfl) (fc (CS.no rfl) (fc (CS.no rfl) (fc (CS.no rfl) (fc (CS.no rfl) (fc (CS.no rfl) (fc (CS.no rfl) (fc (CS.no rfl) (fc (CS.no rfl) (fc (CS.V c_LI_variables wk_LI_variables wl_RB_67 wm_LI_variables we_LI_variables rfl rfl wi_LI dn_LI_variables ⟨rfl, rfl⟩ ⟨by decide, by decide⟩ ft_LI_variables rfl (e_RB_givenIsSafe_41).1) (fc (CS.no rfl) (fc (CS.no rfl) (fc (CS.no rfl) (fc (CS.no rfl) (fc (CS.no rfl) (fc (CS.no rfl) (fc (CS.no rfl) (fc (CS.no rfl) (fc (CS.V c_LI_variables wk_LI_variables wl_RB_67 wm_LI_variables we_LI_variables rfl rfl wi_LI dn_LI_variables ⟨rfl, rfl⟩ ⟨by decide, by decide⟩ ft_LI_variables rfl (e_RB_givenIsSafe_56).1) (fc (CS.no rfl) (fc (CS.no rfl) (fc (CS.no rfl) (fc (CS.no rfl) (fc (CS.no rfl) (fc (CS.no rfl) (fc (CS.no rfl) (fc (CS.no rfl) (fc (CS.no rfl) (fc (CS.no rfl) (fc (CS.no rfl) (fc (CS.no rfl) (fc (CS.no rfl) (fc (CS.no rfl) (fun _ h => absurd h List.not_mem_nil)))))))))))))))))))))))))))))))))))))))))))))))))
set_option maxRecDepth 100000 in
set_option maxHeartbeats 4000000 in
theorem c_RB_givenIsSafe : Cn y_RB_givenIsSafe b_RB_givenIsSafe 4 (some .boolean) (rmm 1 0 0) (0 + 1) 0 0 pr_RB_givenIsSafe po_RB_givenIsSafe := cv_0 (ci := 3) (f := fun k => fun μ => FM μ ∧ (k = 10 ∧ WM μ.2.1 ∧ ¬ μ.2.1 10 4 = 0)) (g := fun k => fun μ r μ' => r = some (.int (b2 ((sfN μ.2.1 ((μ.2.1 10 4).toNatClampNeg - 1) &&& (sfB μ.2.1 ((μ.2.1 10 4).toNatClampNeg - 1) ^^^ (-1))) = 0))) ∧ μ' = μ) fun l k  μ hk h => by
  obtain ⟨hm, h⟩ := h
  obtain ⟨M, L, rfl⟩ := hm.e
  refine ky_met (own := R_RB) (ini := 0) (rb := 1) (nE := 131) (cd := k_RB_givenIsSafe) (C := C_RB_givenIsSafe) (by decide) rfl (fun h => by cases h) (Nat.le_of_ble_eq_true rfl) ⟨rfl, rfl⟩ (Or.inr (Or.inl ⟨rfl, rfl⟩)) rfl rfl (by decide) ok_RB_givenIsSafe (cs_RB_givenIsSafe l) rt_RB_givenIsSafe (fun K hs => ?_)
  obtain ⟨rfl, hw, hg0⟩ := h
  have hw : WM M := hw
  have hg0 : ¬ M 10 4 = 0 := hg0
  obtain ⟨g, hg, hge⟩ := hw.2.2
  have hgcl : (M 10 4).toNatClampNeg = g := by rw [hge]; exact nI_clamp (n := g) (by omega)
  have hg1 : 1 ≤ g := by
    rcases Nat.lt_or_ge 0 g with z | z
    · exact z
    · exfalso
      apply hg0
      rw [hge, show g = 0 by omega]
      rfl
  have fin : ∀ d, d + 1 = g → K 14 [some (.ref 10), some (.int (sfB M d)), some (.int (sfN M d)), some (.int (nI (d + 1)))] [] (131, M, L, TT) := by
    intro d hd
    refine hs.go [14] 40 _ _ _ _ ⟨rfl, fun _ => ⟨fun h1 => ⟨rfl, fun _ => Or.inl rfl, ?_, rfl⟩, fun h1 => ⟨rfl, fun _ => Or.inr rfl, ?_, rfl⟩⟩, fun z => absurd (show M 10 4 ≤ nI (d + 1) by rw [hge, hd]; exact Int32.le_refl _) z⟩
    · show some (Value.int 0) = some (Value.int (b2 ((sfN M ((M 10 4).toNatClampNeg - 1) &&& (sfB M ((M 10 4).toNatClampNeg - 1) ^^^ (-1))) = 0)))
      rw [hgcl, show g - 1 = d by omega]
      exact vb_f h1
    · show some (Value.int 1) = some (Value.int (b2 ((sfN M ((M 10 4).toNatClampNeg - 1) &&& (sfB M ((M 10 4).toNatClampNeg - 1) ^^^ (-1))) = 0)))
      rw [hgcl, show g - 1 = d by omega]
      exact vb_t h1
  have loop : ∀ (n d : Nat), d + 1 + n = g → K 14 [some (.ref 10), some (.int (sfB M d)), some (.int (sfN M d)), some (.int (nI (d + 1)))] [] (131, M, L, TT) := by
    intro n
    induction n with
    | zero => intro d hd; exact fin d (by omega)
    | succ n ih =>
      intro d hd
      have hin : vp_in (nI (d + 1)) 4 := vp_in_nI (by omega) (by decide)
      have hcl : (nI (d + 1)).toNatClampNeg = d + 1 := nI_clamp (n := d + 1) (by omega)
      have hlt : d + 1 < 4 := by omega
      have h9 := ih (d + 1) (by omega)
      rw [nI_succ (d + 1)] at h9
      have io : isO (131, M, L, TT) (99 + (nI (d + 1)).toNatClampNeg) 5 = true := by rw [hcl]; exact ioG hlt
      refine hs.go [14] 40 _ _ _ _ ⟨rfl, fun z => absurd (show M 10 4 ≤ nI (d + 1) from z) (by rw [hge]; exact nI_ge (a := d + 1) (b := g) (by omega) (by omega)), fun _ => ⟨rfl, _, rfl, rfl, hin, _, rfl, io, fun hb => ⟨rfl, _, rfl, rfl, hin, _, rfl, ⟨io, ⟨rfl, rfl⟩, trivial⟩, rfl, rfl, ?_⟩, fun hb => ⟨rfl, _, rfl, rfl, hin, _, rfl, ⟨io, ⟨rfl, rfl⟩, trivial⟩, rfl, rfl, ?_⟩⟩⟩
      · have hb : M (99 + (nI (d + 1)).toNatClampNeg) 3 = 0 := hb
        rw [hcl] at hb
        rintro _ _ ⟨rfl, rfl⟩
        simp only [sfB, sfN, if_pos hb] at h9
        show K 14 [some (.ref 10), some (.int (sfB M d ||| (vbt (M (99 + (nI (d + 1)).toNatClampNeg) 1) ||| vbt (M (99 + (nI (d + 1)).toNatClampNeg) 2)))), some (.int (sfN M d)), some (.int (nI (d + 1) + 1))] [] (131, M, L, TT)
        rw [hcl]
        exact h9
      · have hb : ¬ M (99 + (nI (d + 1)).toNatClampNeg) 3 = 0 := hb
        rw [hcl] at hb
        rintro _ _ ⟨rfl, rfl⟩
        simp only [sfB, sfN, if_neg hb] at h9
        show K 14 [some (.ref 10), some (.int (sfB M d)), some (.int (sfN M d ||| (vbt (M (99 + (nI (d + 1)).toNatClampNeg) 1) ||| vbt (M (99 + (nI (d + 1)).toNatClampNeg) 2)))), some (.int (nI (d + 1) + 1))] [] (131, M, L, TT)
        rw [hcl]
        exact h9
  refine hs.go [14] 40 _ _ _ _ ⟨rfl, _, rfl, rfl, vp_in_nI (n := 0) (by decide) (by decide), _, rfl, ⟨ioG (j := 0) (by decide), ⟨rfl, rfl⟩, trivial⟩, rfl, rfl, ?_⟩
  rintro _ _ ⟨rfl, rfl⟩
  exact loop (g - 1) 0 (by omega)

theorem dn_RB_raiseHead : y_RB_raiseHead.cls ≠ "java/lang/invoke/MethodHandle" ∧ y_RB_raiseHead.cls ≠ "java/lang/invoke/VarHandle" ∧ (parseMethodDescriptor y_RB_raiseHead.desc).map (fun d => d.parameters.length) = some 1 := by decide +kernel
abbrev pr_RB_raiseHead : List Value → Mm → Prop := preV 3 (fun k => a_R (fun x0 μ => FM μ ∧ (k = 10 ∧ ∃ i, i < 14 ∧ x0 = 12 + 6 * i ∧ wR μ.2.1 i)))
abbrev po_RB_raiseHead : List Value → Mm → Option Value → Mm → Prop := qV (fun k => b_R (fun x0 μ r μ' => ∀ i, x0 = 12 + 6 * i → r = some (.int (b2 (μ.2.1 97 (rhd μ.2.1 i) < rlt μ.2.1 (μ.2.1 97) i (rln μ.2.1 i)))) ∧ μ' = (131, upr μ.2.1 97 (rht μ.2.1 (μ.2.1 97) i), μ.2.2.1, TT)))
theorem ft_RB_raiseHead : ∀ as μ, pr_RB_raiseHead as μ → μ.1 + 0 ≤ 131 ∧ cz μ.1 + 0 ≤ cz 131 := hf_S (n := 131) (Nat.le_refl _) (fun as μ h => by
  obtain ⟨k, r, rfl, hk, h⟩ := preV_e h
  obtain ⟨x0, rfl, h⟩ := a_R_e h
  exact h.1.1)
def C_RB_raiseHead : Cf := fun id => match id with
  | 0 => trM
  | _ => fun _ _ _ => False
set_option maxRecDepth 100000 in
theorem cs_RB_raiseHead (l : Launch) : ∀ x ∈ k_RB_raiseHead, CS l R_RB b_RB_raiseHead 5 (rmm 1 0 0) 131 131 C_RB_raiseHead x := fc (CS.no rfl) (fc (CS.no rfl) (fc (CS.no rfl) (fc (CS.no rfl) (fc (CS.no rfl) (fc (CS.no rfl) (fc (CS.no rfl) (fc (CS.no rfl) (fc (CS.no rfl) (fc (CS.no rfl) (fc (CS.no rfl) (fc (CS.no rfl) (fc (CS.no rfl) (fc (CS.no rfl) (fc (CS.no rfl) (fc (CS.no rfl) (fc (CS.no rfl) (fc (CS.no rfl) (fc (CS.no rfl) (fc (CS.no rfl) (fc (CS.no rfl) (fc (CS.no rfl) (fc (CS.no rfl) (fc (CS.no rfl) (fc (CS.no rfl) (fc (CS.no rfl) (fc (CS.M wl_RB_109 ⟨by decide, by decide⟩ rfl (e_RB_raiseHead_45).1) (fc (CS.no rfl) (fc (CS.no rfl) (fc (CS.no rfl) (fc (CS.no rfl) (fc (CS.no rfl) (fc (CS.no rfl) (fc (CS.no rfl) (fc (CS.no rfl) (fc (CS.no rfl) (fc (CS.no rfl) (fc (CS.no rfl) (fc (CS.no rfl) (fc (CS.no rfl) (fc (CS.no rfl) (fc (CS.no rfl) (fc (CS.no rfl) (fc (CS.no rfl) (fc (CS.no rfl) (fc (CS.no rfl) (fc (CS.no rfl) (fc (CS.no rfl) (fc (CS.no rfl) (fun _ h => absurd h List.not_mem_nil)))))))))))))))))))))))))))))))))))))))))))))))))
set_option maxRecDepth 100000 in
set_option maxHeartbeats 4000000 in
theorem c_RB_raiseHead : Cn y_RB_raiseHead b_RB_raiseHead 5 (some .boolean) (rmm 1 0 0) (1 + 1) 0 0 pr_RB_raiseHead po_RB_raiseHead := cv_R (ci := 3) (f := fun k => fun x0 μ => FM μ ∧ (k = 10 ∧ ∃ i, i < 14 ∧ x0 = 12 + 6 * i ∧ wR μ.2.1 i)) (g := fun k => fun x0 μ r μ' => ∀ i, x0 = 12 + 6 * i → r = some (.int (b2 (μ.2.1 97 (rhd μ.2.1 i) < rlt μ.2.1 (μ.2.1 97) i (rln μ.2.1 i)))) ∧ μ' = (131, upr μ.2.1 97 (rht μ.2.1 (μ.2.1 97) i), μ.2.2.1, TT)) fun l k x0 μ hk h => by
  obtain ⟨hm, h⟩ := h
  obtain ⟨M, L, rfl⟩ := hm.e
  refine ky_met (own := R_RB) (ini := 0) (rb := 1) (nE := 131) (cd := k_RB_raiseHead) (C := C_RB_raiseHead) (by decide) rfl (fun h => by cases h) (Nat.le_of_ble_eq_true rfl) ⟨rfl, rfl⟩ (Or.inr (Or.inl ⟨rfl, rfl⟩)) rfl rfl (by decide) ok_RB_raiseHead (cs_RB_raiseHead l) rt_RB_raiseHead (fun K hs => ?_)
  obtain ⟨rfl, i, hi, rfl, hw⟩ := h
  have hw : wR M i := hw
  obtain ⟨-, ⟨n, hn, hne⟩, hwh, hwb⟩ := hw
  have hln : rln M i = n := by unfold rln; rw [hne]; exact nI_clamp (n := n) (by omega)
  have post : ∀ (r : Option Value) (μ' : Mm), r = some (.int (b2 (M 97 (rhd M i) < rlt M (M 97) i n))) → μ' = (131, upr M 97 (rht M (M 97) i), L, TT) → ∀ i', 12 + 6 * i = 12 + 6 * i' → r = some (.int (b2 (M 97 (rhd M i') < rlt M (M 97) i' (rln M i')))) ∧ μ' = (131, upr M 97 (rht M (M 97) i'), L, TT) := by
    intro r μ' h1 h2 i' hi'
    have : i' = i := by omega
    subst this
    rw [hln]
    exact ⟨h1, h2⟩
  have hr14 := hwh.1
  have loop : ∀ (d c : Nat), c + d = n → ∀ x4 : Option Value, K 4 [some (.ref 10), some (.ref (12 + 6 * i)), some (.int (rlt M (M 97) i c)), some (.int (nI c)), x4] [] (131, M, L, TT) := by
    intro d
    induction d with
    | zero =>
      intro c hc x4
      rw [show c = n by omega]
      refine hs.go [4] 60 _ _ _ _ ⟨ioR hi, fun _ => ⟨rfl, _, rfl, ioR hi, _, TTh i hi, ioH hi, rfl, hr14, fun h1 => ⟨rfl, _, rfl, ioR hi, _, TTh i hi, ioH hi, rfl, hr14, rfl, fun _ => Or.inr rfl, post _ _ (vb_t h1) ?_⟩, fun h1 => ⟨rfl, fun _ => Or.inl rfl, post _ _ (vb_f h1) ?_⟩⟩, fun z => absurd (show M (12 + 6 * i) 2 ≤ nI n by rw [hne]; exact Int32.le_refl _) z⟩
      · have e : rht M (M 97) i = upd (M 97) (rhd M i) (rlt M (M 97) i n) := by
          unfold rht
          rw [hln]
          exact if_pos h1
        rw [e, ← up2_upr]
        rfl
      · have e : rht M (M 97) i = M 97 := by
          unfold rht
          rw [hln]
          exact if_neg h1
        rw [e, upr_id]
    | succ d ih =>
      intro c hc x4
      have hc3 : c < 3 := by omega
      have hin : vp_in (nI c) (kd (14 + 6 * i)).2 := by rw [kdB3 i hi]; exact vp_in_nI hc3 (by decide)
      have hcl : (nI c).toNatClampNeg = c := nI_clamp (n := c) (by omega)
      have h9 := ih (c + 1) (by omega) (some (.ref (15 + 6 * i + c)))
      rw [nI_succ] at h9
      have hb := hwb c hc3
      have nx : ∀ v : Int32, v = rlv M (M 97) i c → K 4 [some (.ref 10), some (.ref (12 + 6 * i)), some (.int (if rlt M (M 97) i c < v then v else rlt M (M 97) i c)), some (.int (nI c + 1)), some (.ref (15 + 6 * i + c))] [] (131, M, L, TT) := by
        intro v hv
        rw [hv]
        exact h9
      refine hs.go [4] 60 _ _ _ _ ⟨ioR hi, fun z => absurd (show M (12 + 6 * i) 2 ≤ nI c from z) (by rw [hne]; exact nI_ge (a := c) (b := n) (by omega) (by omega)), fun _ => ⟨ioR hi, _, TTb i hi, iaB hi, hin, 15 + 6 * i + c, by rw [hcl]; exact TTl i hi c hc3, rfl, _, rfl, ioL hi hc3, rfl, hb.1, ioL hi hc3, fun h1 => ⟨rfl, Nat.le_refl _, nx _ ?_⟩, fun h1 => ⟨rfl, Nat.le_refl _, nx _ ?_⟩⟩⟩
      · show _ = M 97 _ + (if M (15 + 6 * i + c) 3 = 0 then 0 else 1)
        rw [if_pos (show M (15 + 6 * i + c) 3 = 0 from h1)]
      · show _ = M 97 _ + (if M (15 + 6 * i + c) 3 = 0 then 0 else 1)
        rw [if_neg (show ¬ M (15 + 6 * i + c) 3 = 0 from h1)]
  exact hs.go [4] 60 _ _ _ _ (loop n 0 (by omega) none)
