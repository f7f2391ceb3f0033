def FMn (n : Nat) (μ : Mm) : Prop := μ.1 = n ∧ μ.2.2.2 = TT
theorem FMn.e {n : Nat} {μ : Mm} (h : FMn n μ) : ∃ M L, μ = (n, M, L, TT) := by
  obtain ⟨m, M, L, T⟩ := μ
  obtain ⟨h1, h2⟩ := h
  have h1 : m = n := h1
  have h2 : T = TT := h2
  subst h1; subst h2
  exact ⟨M, L, rfl⟩
theorem ioN {n k ci : Nat} {M : mM} {L : mL} {T : mT} (hn : 103 ≤ n) (h : (Nat.beq (kd k).1 (ci + 5) && Nat.blt k 103) = true) : isO (n, M, L, T) k ci = true := by
  rw [Bool.and_eq_true] at h
  unfold isO
  rw [h.1]
  have : k < 103 := Nat.le_of_ble_eq_true h.2
  show (true && Nat.ble (k + 1) n) = true
  rw [Bool.true_and]
  exact Nat.ble_eq_true_of_le (by omega)
theorem iaN {n k t : Nat} {M : mM} {L : mL} {T : mT} (hn : 103 ≤ n) (h : (Nat.beq (kd k).1 t && Nat.blt k 103) = true) : isA (n, M, L, T) k t = true := by
  rw [Bool.and_eq_true] at h
  unfold isA
  rw [h.1]
  have : k < 103 := Nat.le_of_ble_eq_true h.2
  show (true && Nat.ble (k + 1) n) = true
  rw [Bool.true_and]
  exact Nat.ble_eq_true_of_le (by omega)
theorem iaNq {n k t : Nat} {M : mM} {L : mL} {T : mT} (h : isA (n, M, L, T) k t = true) (ht : t = 3 ∨ t = 4) : (isA (n, M, L, T) k 3 || isA (n, M, L, T) k 4) = true := by
  rcases ht with rfl | rfl
  · rw [h]; rfl
  · rw [h]; simp
theorem kcR : ∀ i, i < 14 → (Nat.beq (kd (12 + 6 * i)).1 (4 + 5) && Nat.blt (12 + 6 * i) 103) = true := by decide
theorem kcH : ∀ i, i < 14 → (Nat.beq (kd (13 + 6 * i)).1 (5 + 5) && Nat.blt (13 + 6 * i) 103) = true := by decide
theorem kcB : ∀ i, i < 14 → (Nat.beq (kd (14 + 6 * i)).1 3 && Nat.blt (14 + 6 * i) 103) = true := by decide
theorem kcL : ∀ i, i < 14 → ∀ j, j < 3 → (Nat.beq (kd (15 + 6 * i + j)).1 (5 + 5) && Nat.blt (15 + 6 * i + j) 103) = true := by decide
theorem kcG : ∀ j, j < 4 → (Nat.beq (kd (99 + j)).1 (5 + 5) && Nat.blt (99 + j) 103) = true := by decide
def cpy (M : mM) (d s : Nat) : mM := up2 (up2 (up2 (up2 M d 0 (M s 0)) d 1 (M s 1)) d 2 (M s 2)) d 3 (M s 3)
theorem cpy_k {M : mM} {d s a : Nat} (h : a ≠ d) : cpy M d s a = M a := by
  unfold cpy
  rw [up2_k h, up2_k h, up2_k h, up2_k h]
/-- a given literal joins a body -/
def abS (M : mM) (i kk : Nat) : mM := up2 (up2 (cpy M (15 + 6 * i + rln M i) (99 + kk)) (12 + 6 * i) 2 (M (12 + 6 * i) 2 + 1)) (12 + 6 * i) 3 (M (12 + 6 * i) 3 ||| (1 <<< (M (99 + kk) 0 &&& 31)))
def atb (i : Nat) (neg : Int32) : Nat → Nat → mM → mM
  | 0, _, M => M
  | n + 1, kk, M => atb i neg n (kk + 1) (if M (99 + kk) 3 = neg ∧ M (12 + 6 * i) 2 < 3 then abS M i kk else M)
def bcm (M : mM) (i g : Nat) : mM := up2 (atb i 1 (g - 1) 1 (atb i 0 (g - 1) 1 (up2 (up2 (cpy M (13 + 6 * i) 99) (12 + 6 * i) 2 0) (12 + 6 * i) 3 0))) (12 + 6 * i) 4 1

abbrev pr_LI_becomeN (n : Nat) : List Value → Mm → Prop := preV 5 (fun k => a_IIII (fun x0 x1 x2 x3 μ => FMn n μ ∧ (x3 = 0 ∨ x3 = 1)))
abbrev po_LI_becomeN (n : Nat) : List Value → Mm → Option Value → Mm → Prop := qV (fun k => b_IIII (fun x0 x1 x2 x3 μ r μ' => r = none ∧ μ' = sI (sI (sI (sI μ k 0 x0) k 1 x1) k 2 x2) k 3 x3))
theorem ft_LI_becomeN (n : Nat) : ∀ as μ, pr_LI_becomeN n as μ → μ.1 + 0 ≤ n ∧ cz μ.1 + 0 ≤ cz n := hf_S (n := n) (Nat.le_refl _) (fun as μ h => by
  obtain ⟨k, r, rfl, hk, h⟩ := preV_e h
  obtain ⟨x0, x1, x2, x3, rfl, h⟩ := a_IIII_e h
  exact h.1.1)
set_option maxRecDepth 100000 in
set_option maxHeartbeats 4000000 in
theorem c_LI_becomeN (n : Nat) (hn : 103 ≤ n ∧ n ≤ 900) : Cn y_LI_become b_LI_become 5 none (rmm 0 0 0) (4 + 1) 0 0 (pr_LI_becomeN n) (po_LI_becomeN n) := cv_IIII (ci := 5) (f := fun k => fun x0 x1 x2 x3 μ => FMn n μ ∧ (x3 = 0 ∨ x3 = 1)) (g := fun k => fun x0 x1 x2 x3 μ r μ' => r = none ∧ μ' = sI (sI (sI (sI μ k 0 x0) k 1 x1) k 2 x2) k 3 x3) fun l k x0 x1 x2 x3 μ hk h => by
  obtain ⟨hm, h⟩ := h
  obtain ⟨M, L, rfl⟩ := hm.e
  refine ky_met (own := R_LI) (ini := 0) (rb := 3) (nE := n) (cd := k_LI_become) (C := (fun _ _ _ _ => False)) (by decide) rfl (fun h => by cases h) (Nat.le_of_ble_eq_true rfl) ⟨rfl, rfl⟩ (Or.inr (Or.inr (Or.inr ⟨rfl, rfl⟩))) rfl rfl hn.2 ok_LI_become (fun x hx => CS.no (nc_LI_become x hx)) rt_LI_become (fun K hs => ?_)
  exact hs.go [] 30 _ _ _ _ ⟨hk, hk, hk, hk, h, rfl, rfl, rfl⟩

abbrev pr_LI_copyOfN (n : Nat) : List Value → Mm → Prop := preV 5 (fun k => a_R (fun x0 μ => FMn n μ ∧ (isO μ x0 5 = true ∧ (μ.2.1 x0 3 = 0 ∨ μ.2.1 x0 3 = 1))))
abbrev po_LI_copyOfN (n : Nat) : List Value → Mm → Option Value → Mm → Prop := qV (fun k => b_R (fun x0 μ r μ' => r = none ∧ μ' = (μ.1, cpy μ.2.1 k x0, μ.2.2.1, TT)))
theorem ft_LI_copyOfN (n : Nat) : ∀ as μ, pr_LI_copyOfN n as μ → μ.1 + 0 ≤ n ∧ cz μ.1 + 0 ≤ cz n := hf_S (n := n) (Nat.le_refl _) (fun as μ h => by
  obtain ⟨k, r, rfl, hk, h⟩ := preV_e h
  obtain ⟨x0, rfl, h⟩ := a_R_e h
  exact h.1.1)
def C_LI_copyOfN (n : Nat) : Cf := fun id => match id with
  | 0 => trF (4 + 1) (pr_LI_becomeN n) (po_LI_becomeN n)
  | _ => fun _ _ _ => False
set_option maxRecDepth 100000 in
theorem cs_LI_copyOfN (n : Nat) (hn : 103 ≤ n ∧ n ≤ 900) (l : Launch) : ∀ x ∈ k_LI_copyOf, CS l R_LI b_LI_copyOf 2 (rmm 1 0 0) n n (C_LI_copyOfN n) x := fc (CS.no rfl) (fc (CS.no rfl) (fc (CS.no rfl) (fc (CS.no rfl) (fc (CS.no rfl) (fc (CS.no rfl) (fc (CS.no rfl) (fc (CS.no rfl) (fc (CS.no rfl) (fc (CS.V (c_LI_becomeN n hn) wk_LI_become wl_LI_25 wm_LI_become we_LI_become rfl rfl wi_LI dn_LI_become ⟨rfl, rfl⟩ ⟨by decide, by decide⟩ (ft_LI_becomeN n) rfl (e_LI_copyOf_17).1) (fc (CS.no rfl) (fun _ h => absurd h List.not_mem_nil)))))))))))
set_option maxRecDepth 100000 in
set_option maxHeartbeats 4000000 in
theorem c_LI_copyOfN (n : Nat) (hn : 103 ≤ n ∧ n ≤ 900) : Cn y_LI_copyOf b_LI_copyOf 2 none (rmm 1 0 0) (1 + 1) 0 0 (pr_LI_copyOfN n) (po_LI_copyOfN n) := cv_R (ci := 5) (f := fun k => fun x0 μ => FMn n μ ∧ (isO μ x0 5 = true ∧ (μ.2.1 x0 3 = 0 ∨ μ.2.1 x0 3 = 1))) (g := fun k => fun x0 μ r μ' => r = none ∧ μ' = (μ.1, cpy μ.2.1 k x0, μ.2.2.1, TT)) fun l k x0 μ hk h => by
  obtain ⟨hm, h⟩ := h
  obtain ⟨M, L, rfl⟩ := hm.e
  refine ky_met (own := R_LI) (ini := 0) (rb := 3) (nE := n) (cd := k_LI_copyOf) (C := (C_LI_copyOfN n)) (by decide) rfl (fun h => by cases h) (Nat.le_of_ble_eq_true rfl) ⟨rfl, rfl⟩ (Or.inr (Or.inr (Or.inr ⟨rfl, rfl⟩))) rfl rfl hn.2 ok_LI_copyOf (cs_LI_copyOfN n hn l) rt_LI_copyOf (fun K hs => ?_)
  obtain ⟨hx, h01⟩ := h
  refine hs.go [] 30 _ _ _ _ ⟨hx, hx, hx, hx, ⟨hk, ⟨rfl, rfl⟩, h01⟩, rfl, rfl, ?_⟩
  rintro _ _ ⟨rfl, rfl⟩
  exact ⟨rfl, rfl, rfl⟩

abbrev pr_RB_dropGivenN (n : Nat) : List Value → Mm → Prop := preV 3 (fun k => a_0 (fun μ => FMn n μ ∧ (k = 10)))
abbrev po_RB_dropGivenN (n : Nat) : List Value → Mm → Option Value → Mm → Prop := qV (fun k => b_0 (fun μ r μ' => r = none ∧ μ' = sI μ 10 4 0))
theorem ft_RB_dropGivenN (n : Nat) : ∀ as μ, pr_RB_dropGivenN n as μ → μ.1 + 0 ≤ n ∧ cz μ.1 + 0 ≤ cz n := hf_S (n := n) (Nat.le_refl _) (fun as μ h => by
  obtain ⟨k, r, rfl, hk, h⟩ := preV_e h
  obtain ⟨rfl, h⟩ := a_0_e h
  exact h.1.1)
set_option maxRecDepth 100000 in
set_option maxHeartbeats 4000000 in
theorem c_RB_dropGivenN (n : Nat) (hn : 103 ≤ n ∧ n ≤ 900) : Cn y_RB_dropGiven b_RB_dropGiven 1 none (rmm 0 0 0) (0 + 1) 0 0 (pr_RB_dropGivenN n) (po_RB_dropGivenN n) := cv_0 (ci := 3) (f := fun k => fun μ => FMn n μ ∧ (k = 10)) (g := fun k => fun μ r μ' => r = none ∧ μ' = sI μ 10 4 0) fun l k  μ hk h => by
  obtain ⟨hm, h⟩ := h
  obtain ⟨M, L, rfl⟩ := hm.e
  refine ky_met (own := R_RB) (ini := 0) (rb := 3) (nE := n) (cd := k_RB_dropGiven) (C := (fun _ _ _ _ => False)) (by decide) rfl (fun h => by cases h) (Nat.le_of_ble_eq_true rfl) ⟨rfl, rfl⟩ (Or.inr (Or.inr (Or.inr ⟨rfl, rfl⟩))) rfl rfl hn.2 ok_RB_dropGiven (fun x hx => CS.no (nc_RB_dropGiven x hx)) rt_RB_dropGiven (fun K hs => ?_)
  subst h
  exact hs.go [] 30 _ _ _ _ ⟨ioN hn.1 rfl, rfl, rfl, rfl⟩

abbrev pr_RB_giveN (n : Nat) : List Value → Mm → Prop := preV 3 (fun k => a_IIII (fun x0 x1 x2 x3 μ => FMn n μ ∧ (k = 10 ∧ vp_in (μ.2.1 10 4) 4 ∧ (x3 = 0 ∨ x3 = 1))))
abbrev po_RB_giveN (n : Nat) : List Value → Mm → Option Value → Mm → Prop := qV (fun k => b_IIII (fun x0 x1 x2 x3 μ r μ' => r = none ∧ μ' = sI (sI (sI (sI (sI μ (99 + (μ.2.1 10 4).toNatClampNeg) 0 x0) (99 + (μ.2.1 10 4).toNatClampNeg) 1 x1) (99 + (μ.2.1 10 4).toNatClampNeg) 2 x2) (99 + (μ.2.1 10 4).toNatClampNeg) 3 x3) 10 4 (μ.2.1 10 4 + 1)))
theorem ft_RB_giveN (n : Nat) : ∀ as μ, pr_RB_giveN n as μ → μ.1 + 0 ≤ n ∧ cz μ.1 + 0 ≤ cz n := hf_S (n := n) (Nat.le_refl _) (fun as μ h => by
  obtain ⟨k, r, rfl, hk, h⟩ := preV_e h
  obtain ⟨x0, x1, x2, x3, rfl, h⟩ := a_IIII_e h
  exact h.1.1)
def C_RB_giveN (n : Nat) : Cf := fun id => match id with
  | 0 => trF (4 + 1) (pr_LI_becomeN n) (po_LI_becomeN n)
  | _ => fun _ _ _ => False
set_option maxRecDepth 100000 in
theorem cs_RB_giveN (n : Nat) (hn : 103 ≤ n ∧ n ≤ 900) (l : Launch) : ∀ x ∈ k_RB_give, CS l R_RB b_RB_give 5 (rmm 1 0 0) n n (C_RB_giveN n) x := fc (CS.no rfl) (fc (CS.no rfl) (fc (CS.no rfl) (fc (CS.no rfl) (fc (CS.no rfl) (fc (CS.no rfl) (fc (CS.no rfl) (fc (CS.no rfl) (fc (CS.no rfl) (fc (CS.V (c_LI_becomeN n hn) wk_LI_become wl_RB_50 wm_LI_become we_LI_become rfl rfl wi_LI dn_LI_become ⟨rfl, rfl⟩ ⟨by decide, by decide⟩ (ft_LI_becomeN n) rfl (e_RB_give_14).1) (fc (CS.no rfl) (fc (CS.no rfl) (fc (CS.no rfl) (fc (CS.no rfl) (fc (CS.no rfl) (fc (CS.no rfl) (fc (CS.no rfl) (fun _ h => absurd h List.not_mem_nil)))))))))))))))))
set_option maxRecDepth 100000 in
set_option maxHeartbeats 4000000 in
theorem c_RB_giveN (n : Nat) (hn : 103 ≤ n ∧ n ≤ 900) : Cn y_RB_give b_RB_give 5 none (rmm 1 0 0) (4 + 1) 0 0 (pr_RB_giveN n) (po_RB_giveN n) := cv_IIII (ci := 3) (f := fun k => fun x0 x1 x2 x3 μ => FMn n μ ∧ (k = 10 ∧ vp_in (μ.2.1 10 4) 4 ∧ (x3 = 0 ∨ x3 = 1))) (g := fun k => fun x0 x1 x2 x3 μ r μ' => r = none ∧ μ' = sI (sI (sI (sI (sI μ (99 + (μ.2.1 10 4).toNatClampNeg) 0 x0) (99 + (μ.2.1 10 4).toNatClampNeg) 1 x1) (99 + (μ.2.1 10 4).toNatClampNeg) 2 x2) (99 + (μ.2.1 10 4).toNatClampNeg) 3 x3) 10 4 (μ.2.1 10 4 + 1)) fun l k x0 x1 x2 x3 μ hk h => by
  obtain ⟨hm, h⟩ := h
  obtain ⟨M, L, rfl⟩ := hm.e
  refine ky_met (own := R_RB) (ini := 0) (rb := 3) (nE := n) (cd := k_RB_give) (C := (C_RB_giveN n)) (by decide) rfl (fun h => by cases h) (Nat.le_of_ble_eq_true rfl) ⟨rfl, rfl⟩ (Or.inr (Or.inr (Or.inr ⟨rfl, rfl⟩))) rfl rfl hn.2 ok_RB_give (cs_RB_giveN n hn l) rt_RB_give (fun K hs => ?_)
  obtain ⟨rfl, hg, h01⟩ := h
  have hi := cl_lt hg
  refine hs.go [] 40 _ _ _ _ ⟨ioN hn.1 rfl, _, rfl, ioN hn.1 rfl, iaNq (t := 3) (iaN hn.1 rfl) (Or.inl rfl), hg, _, rfl, ⟨ioN hn.1 (kcG _ hi), ⟨rfl, rfl⟩, h01⟩, rfl, rfl, ?_⟩
  rintro _ _ ⟨rfl, rfl⟩
  have hne : 10 ≠ 99 + (M 10 4).toNatClampNeg := by omega
  have e : up2 (up2 (up2 (up2 M (99 + (M 10 4).toNatClampNeg) 0 x0) (99 + (M 10 4).toNatClampNeg) 1 x1) (99 + (M 10 4).toNatClampNeg) 2 x2) (99 + (M 10 4).toNatClampNeg) 3 x3 10 4 = M 10 4 := by rw [up2_k hne, up2_k hne, up2_k hne, up2_k hne]
  refine ⟨ioN hn.1 rfl, ioN hn.1 rfl, rfl, rfl, ?_⟩
  exact congrArg (fun v => sI (sI (sI (sI (sI (n, M, L, TT) (99 + (M 10 4).toNatClampNeg) 0 x0) (99 + (M 10 4).toNatClampNeg) 1 x1) (99 + (M 10 4).toNatClampNeg) 2 x2) (99 + (M 10 4).toNatClampNeg) 3 x3) 10 4 (v + 1)) e

/-- what joining a body keeps -/
def abI (M : mM) (i : Nat) : Prop := (∃ n, n ≤ 3 ∧ M (12 + 6 * i) 2 = nI n) ∧ ∀ j, j < 4 → (M (99 + j) 3 = 0 ∨ M (99 + j) 3 = 1)
theorem abS_I {M : mM} {i kk : Nat} (hi : i < 14) (h : abI M i) (hl : M (12 + 6 * i) 2 < 3) : abI (abS M i kk) i := by
  obtain ⟨⟨n, hn, hne⟩, h2⟩ := h
  have hn3 : n < 3 := by
    rw [hne] at hl
    rcases Nat.lt_or_ge n 3 with z | z
    · exact z
    · exact absurd hl (nI_nlt (a := n) (b := 3) z (by omega))
  refine ⟨⟨n + 1, hn3, ?_⟩, fun j hj => ?_⟩
  · unfold abS
    rw [up2_j (by decide), up2_s, hne, nI_succ]
  · unfold abS
    rw [up2_k (by omega), up2_k (by omega), cpy_k]
    · exact h2 j hj
    · unfold rln
      rw [hne, nI_clamp (n := n) (by omega)]
      omega

theorem dn_RL_addToBody : y_RL_addToBody.cls ≠ "java/lang/invoke/MethodHandle" ∧ y_RL_addToBody.cls ≠ "java/lang/invoke/VarHandle" ∧ (parseMethodDescriptor y_RL_addToBody.desc).map (fun d => d.parameters.length) = some 3 := by decide +kernel
abbrev pr_RL_addToBodyN (n : Nat) : List Value → Mm → Prop := preV 4 (fun k => a_RII (fun x0 x1 x2 μ => FMn n μ ∧ (x0 = 98 ∧ (x2 = 0 ∨ x2 = 1) ∧ ∃ i g, i < 14 ∧ k = 12 + 6 * i ∧ 1 ≤ g ∧ g ≤ 4 ∧ x1 = nI g ∧ abI μ.2.1 i)))
abbrev po_RL_addToBodyN (n : Nat) : List Value → Mm → Option Value → Mm → Prop := qV (fun k => b_RII (fun x0 x1 x2 μ r μ' => ∀ i g, k = 12 + 6 * i → g ≤ 4 → x1 = nI g → r = none ∧ μ' = (μ.1, atb i x2 (g - 1) 1 μ.2.1, μ.2.2.1, TT)))
theorem ft_RL_addToBodyN (n : Nat) : ∀ as μ, pr_RL_addToBodyN n as μ → μ.1 + 0 ≤ n ∧ cz μ.1 + 0 ≤ cz n := hf_S (n := n) (Nat.le_refl _) (fun as μ h => by
  obtain ⟨k, r, rfl, hk, h⟩ := preV_e h
  obtain ⟨x0, x1, x2, rfl, h⟩ := a_RII_e h
  exact h.1.1)
def C_RL_addToBodyN (n : Nat) : Cf := fun id => match id with
  | 0 => trF (1 + 1) (pr_LI_copyOfN n) (po_LI_copyOfN n)
  | _ => fun _ _ _ => False
set_option maxRecDepth 100000 in
theorem cs_RL_addToBodyN (n : Nat) (hn : 103 ≤ n ∧ n ≤ 900) (l : Launch) : ∀ x ∈ k_RL_addToBody, CS l R_RL b_RL_addToBody 5 (rmm 2 0 0) n n (C_RL_addToBodyN n) x := fc (CS.no rfl) (fc (CS.no rfl) (fc (CS.no rfl) (fc (CS.no rfl) (fc (CS.no rfl) (fc (CS.no rfl) (fc (CS.no rfl) (fc (CS.no rfl) (fc (CS.no rfl) (fc (CS.no rfl) (fc (CS.no rfl) (fc (CS.no rfl) (fc (CS.no rfl) (fc (CS.no rfl) (fc (CS.no rfl) (fc (CS.no rfl) (fc (CS.no rfl) (fc (CS.no rfl) (fc (CS.no rfl) (fc (CS.no rfl) (fc (CS.no rfl) (fc (CS.no rfl) (fc (CS.no rfl) (fc (CS.V (c_LI_copyOfN n hn) wk_LI_copyOf wl_RL_22 wm_LI_copyOf we_LI_copyOf rfl rfl wi_LI dn_LI_copyOf ⟨rfl, rfl⟩ ⟨by decide, by decide⟩ (ft_LI_copyOfN n) rfl (e_RL_addToBody_41).1) (fc (CS.no rfl) (fc (CS.no rfl) (fc (CS.no rfl) (fc (CS.no rfl) (fc (CS.no rfl) (fc (CS.no rfl) (fc (CS.no rfl) (fc (CS.no rfl) (fc (CS.no rfl) (fc (CS.no rfl) (fc (CS.no rfl) (fc (CS.no rfl) (fc (CS.no rfl) (fc (CS.no rfl) (fc (CS.no rfl) (fc (CS.no rfl) (fc (CS.no rfl) (fc (CS.no rfl) (fc (CS.no rfl) (fc (CS.no rfl) (fun _ h => absurd h List.not_mem_nil))))))))))))))))))))))))))))))))))))))))))))
set_option maxRecDepth 100000 in
set_option maxHeartbeats 4000000 in
theorem c_RL_addToBodyN (n : Nat) (hn : 103 ≤ n ∧ n ≤ 900) : Cn y_RL_addToBody b_RL_addToBody 5 none (rmm 2 0 0) (3 + 1) 0 0 (pr_RL_addToBodyN n) (po_RL_addToBodyN n) := cv_RII (ci := 4) (f := fun k => fun x0 x1 x2 μ => FMn n μ ∧ (x0 = 98 ∧ (x2 = 0 ∨ x2 = 1) ∧ ∃ i g, i < 14 ∧ k = 12 + 6 * i ∧ 1 ≤ g ∧ g ≤ 4 ∧ x1 = nI g ∧ abI μ.2.1 i)) (g := fun k => fun x0 x1 x2 μ r μ' => ∀ i g, k = 12 + 6 * i → g ≤ 4 → x1 = nI g → r = none ∧ μ' = (μ.1, atb i x2 (g - 1) 1 μ.2.1, μ.2.2.1, TT)) fun l k x0 x1 x2 μ hk h => by
  obtain ⟨hm, h⟩ := h
  obtain ⟨M, L, rfl⟩ := hm.e
  refine ky_met (own := R_RL) (ini := 0) (rb := 3) (nE := n) (cd := k_RL_addToBody) (C := (C_RL_addToBodyN n)) (by decide) rfl (fun h => by cases h) (Nat.le_of_ble_eq_true rfl) ⟨rfl, rfl⟩ (Or.inr (Or.inr (Or.inr ⟨rfl, rfl⟩))) rfl rfl hn.2 ok_RL_addToBody (cs_RL_addToBodyN n hn l) rt_RL_addToBody (fun K hs => ?_)
  obtain ⟨rfl, hx2, i, g, hi, rfl, hg1, hg4, rfl, hI⟩ := h
  have hI : abI M i := hI
  have post : ∀ (r : Option Value) (μ' : Mm), r = none → μ' = (n, atb i x2 (g - 1) 1 M, L, TT) → ∀ i' g', 12 + 6 * i = 12 + 6 * i' → g' ≤ 4 → nI g = nI g' → r = none ∧ μ' = (n, atb i' x2 (g' - 1) 1 M, L, TT) := by
    intro r μ' h1 h2 i' g' hi' hg' hgg
    have e1 : i' = i := by omega
    have e2 : g = g' := (nI_eq (a := g) (b := g') (by omega) (by omega)).mp hgg
    subst e1; subst e2
    exact ⟨h1, h2⟩
  have loop : ∀ (d c : Nat) (N : mM), c + d = g → abI N i → atb i x2 d c N = atb i x2 (g - 1) 1 M → K 3 [some (.ref (12 + 6 * i)), some (.ref 98), some (.int (nI g)), some (.int x2), some (.int (nI c))] [] (n, N, L, TT) := by
    intro d
    induction d with
    | zero =>
      intro c N hc hN hr
      rw [show c = g by omega]
      exact hs.go [3] 60 _ _ _ _ ⟨fun _ => ⟨rfl, post _ _ rfl (by rw [← hr]; rfl)⟩, fun z => absurd (Int32.le_refl _) z⟩
    | succ d ih =>
      intro c N hc hN hr
      have hc4 : c < 4 := by omega
      have hin : vp_in (nI c) 4 := vp_in_nI hc4 (by decide)
      have hcl : (nI c).toNatClampNeg = c := nI_clamp (n := c) (by omega)
      have hio : ∀ P : mM, isO (n, P, L, TT) (99 + c) 5 = true := fun P => ioN hn.1 (kcG c hc4)
      have hia : ∀ P : mM, (isA (n, P, L, TT) 98 3 || isA (n, P, L, TT) 98 4) = true := fun P => iaNq (t := 3) (iaN hn.1 rfl) (Or.inl rfl)
      have hiR : ∀ P : mM, isO (n, P, L, TT) (12 + 6 * i) 4 = true := fun P => ioN hn.1 (kcR i hi)
      have h98 : TT 98 (nI c).toNatClampNeg = some (99 + c) := by rw [hcl]; rfl
      have no : ¬ (N (99 + c) 3 = x2 ∧ N (12 + 6 * i) 2 < 3) → K 3 [some (.ref (12 + 6 * i)), some (.ref 98), some (.int (nI g)), some (.int x2), some (.int (nI c + 1))] [] (n, N, L, TT) := by
        intro hb
        have h9 := ih (c + 1) N (by omega) hN (by rw [← hr]; simp only [atb, if_neg hb])
        rw [nI_succ] at h9
        exact h9
      refine hs.go [3] 60 _ _ _ _ ⟨fun z => absurd z (nI_ge (a := c) (b := g) (by omega) (by omega)), fun _ => ⟨hia _, hin, 99 + c, h98, hio _, fun hb => ?_, fun hb => ⟨hiR _, fun hb2 => ?_, fun hb2 => ?_⟩⟩⟩
      · exact no (fun z => hb z.1)
      · exact no (fun z => Int32.not_lt.mpr hb2 z.2)
      · have hb : N (99 + c) 3 = x2 := hb
        have hl : N (12 + 6 * i) 2 < 3 := Int32.not_le.mp hb2
        obtain ⟨⟨m, hm, hme⟩, h01⟩ := hN
        have hm3 : m < 3 := by
          rw [hme] at hl
          rcases Nat.lt_or_ge m 3 with z | z
          · exact z
          · exact absurd hl (nI_nlt (a := m) (b := 3) z (by omega))
        have hrl : rln N i = m := by unfold rln; rw [hme]; exact nI_clamp (n := m) (by omega)
        have hinm : vp_in (N (12 + 6 * i) 2) (kd (14 + 6 * i)).2 := by rw [kdB3 i hi, hme]; exact vp_in_nI hm3 (by decide)
        have hTl : TT (14 + 6 * i) (N (12 + 6 * i) 2).toNatClampNeg = some (15 + 6 * i + m) := by rw [show (N (12 + 6 * i) 2).toNatClampNeg = m from hrl]; exact TTl i hi m hm3
        have hiL : ∀ P : mM, isO (n, P, L, TT) (15 + 6 * i + m) 5 = true := fun P => ioN hn.1 (kcL i hi m hm3)
        have hiB : ∀ P : mM, (isA (n, P, L, TT) (14 + 6 * i) 3 || isA (n, P, L, TT) (14 + 6 * i) 4) = true := fun P => iaNq (t := 3) (iaN hn.1 (kcB i hi)) (Or.inl rfl)
        have hN' : abI N i := ⟨⟨m, hm, hme⟩, h01⟩
        have h9 := ih (c + 1) (abS N i c) (by omega) (abS_I hi hN' hl) (by rw [← hr]; simp only [atb, if_pos (show N (99 + c) 3 = x2 ∧ N (12 + 6 * i) 2 < 3 from ⟨hb, hl⟩)])
        rw [nI_succ] at h9
        refine ⟨hiR _, _, TTb i hi, hiR _, hiB _, hinm, 15 + 6 * i + m, hTl, hia _, hin, 99 + c, h98, ⟨hiL _, ⟨rfl, rfl⟩, hio _, h01 c hc4⟩, rfl, rfl, ?_⟩
        rintro _ _ ⟨rfl, rfl⟩
        refine ⟨hiR _, hiR _, hiR _, hia _, hin, 99 + c, h98, hio _, hiR _, ?_⟩
        have e1 : cpy N (15 + 6 * i + m) (99 + c) (12 + 6 * i) = N (12 + 6 * i) := cpy_k (by omega)
        have e2 : cpy N (15 + 6 * i + m) (99 + c) (99 + c) = N (99 + c) := cpy_k (by omega)
        have e3 : abS N i c = up2 (up2 (cpy N (15 + 6 * i + m) (99 + c)) (12 + 6 * i) 2 (cpy N (15 + 6 * i + m) (99 + c) (12 + 6 * i) 2 + 1)) (12 + 6 * i) 3 (up2 (cpy N (15 + 6 * i + m) (99 + c)) (12 + 6 * i) 2 (cpy N (15 + 6 * i + m) (99 + c) (12 + 6 * i) 2 + 1) (12 + 6 * i) 3 ||| (1 <<< (up2 (cpy N (15 + 6 * i + m) (99 + c)) (12 + 6 * i) 2 (cpy N (15 + 6 * i + m) (99 + c) (12 + 6 * i) 2 + 1) (99 + c) 0 &&& 31))) := by
          unfold abS
          rw [hrl, up2_j (show (3 : Nat) ≠ 2 by decide), e1, up2_k (show 99 + c ≠ 12 + 6 * i by omega), e2]
        rw [e3] at h9
        exact h9
  exact hs.go [3] 60 _ _ _ _ (loop (g - 1) 1 M (by omega) hI rfl)
