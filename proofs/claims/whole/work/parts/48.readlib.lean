theorem mx1 {T : mT} {k j : Nat} (h : 1 ≤ k) : mx T 1 k j = TT k j := if_neg (by omega)
theorem TThM {T : mT} (i : Nat) (hi : i < 14) : mx T 1 (12 + 6 * i) 0 = some (13 + 6 * i) := (mx1 (by omega)).trans (TTh i hi)
theorem TTbM {T : mT} (i : Nat) (hi : i < 14) : mx T 1 (12 + 6 * i) 1 = some (14 + 6 * i) := (mx1 (by omega)).trans (TTb i hi)
theorem TTlM {T : mT} (i : Nat) (hi : i < 14) (j : Nat) (hj : j < 3) : mx T 1 (14 + 6 * i) j = some (15 + 6 * i + j) := (mx1 (by omega)).trans (TTl i hi j hj)
/-- n cells stand, and all references but those of cell 0 -/
def FMm (n : Nat) (μ : Mm) : Prop := μ.1 = n ∧ ∃ T, μ.2.2.2 = mx T 1
theorem FMm.e {n : Nat} {μ : Mm} (h : FMm n μ) : ∃ M L T, μ = (n, M, L, mx T 1) := by
  obtain ⟨m, M, L, T⟩ := μ
  obtain ⟨h1, T', h2⟩ := h
  have h1 : m = n := h1
  have h2 : T = mx T' 1 := h2
  subst h1; subst h2
  exact ⟨M, L, T', rfl⟩

abbrev pr_LI_becomeM (n : Nat) : List Value → Mm → Prop := preV 5 (fun k => a_IIII (fun x0 x1 x2 x3 μ => FMm n μ ∧ (x3 = 0 ∨ x3 = 1)))
abbrev po_LI_becomeM (n : Nat) : List Value → Mm → Option Value → Mm → Prop := qV (fun k => b_IIII (fun x0 x1 x2 x3 μ r μ' => r = none ∧ μ' = sI (sI (sI (sI μ k 0 x0) k 1 x1) k 2 x2) k 3 x3))
theorem ft_LI_becomeM (n : Nat) : ∀ as μ, pr_LI_becomeM n as μ → μ.1 + 0 ≤ n ∧ cz μ.1 + 0 ≤ cz n := hf_S (n := n) (Nat.le_refl _) (fun as μ h => by
  obtain ⟨k, r, rfl, hk, h⟩ := preV_e h
  obtain ⟨x0, x1, x2, x3, rfl, h⟩ := a_IIII_e h
  exact h.1.1)
set_option maxRecDepth 100000 in
set_option maxHeartbeats 4000000 in
theorem c_LI_becomeM (n : Nat) (hn : 103 ≤ n ∧ n ≤ 900) : Cn y_LI_become b_LI_become 5 none (rmm 0 0 0) (4 + 1) 0 0 (pr_LI_becomeM n) (po_LI_becomeM n) := cv_IIII (ci := 5) (f := fun k => fun x0 x1 x2 x3 μ => FMm n μ ∧ (x3 = 0 ∨ x3 = 1)) (g := fun k => fun x0 x1 x2 x3 μ r μ' => r = none ∧ μ' = sI (sI (sI (sI μ k 0 x0) k 1 x1) k 2 x2) k 3 x3) fun l k x0 x1 x2 x3 μ hk h => by
  obtain ⟨hm, h⟩ := h
  obtain ⟨M, L, T, rfl⟩ := hm.e
  refine ky_met (own := R_LI) (ini := 0) (rb := 3) (nE := n) (cd := k_LI_become) (C := (fun _ _ _ _ => False)) (by decide) rfl (fun h => by cases h) (Nat.le_of_ble_eq_true rfl) ⟨rfl, rfl⟩ (Or.inr (Or.inr (Or.inr ⟨rfl, rfl⟩))) rfl rfl hn.2 ok_LI_become (fun x hx => CS.no (nc_LI_become x hx)) rt_LI_become (fun K hs => ?_)
  exact hs.go [] 30 _ _ _ _ ⟨hk, hk, hk, hk, h, rfl, rfl, rfl⟩
abbrev pr_LI_copyOfM (n : Nat) : List Value → Mm → Prop := preV 5 (fun k => a_R (fun x0 μ => FMm n μ ∧ (isO μ x0 5 = true ∧ (μ.2.1 x0 3 = 0 ∨ μ.2.1 x0 3 = 1))))
abbrev po_LI_copyOfM (n : Nat) : List Value → Mm → Option Value → Mm → Prop := qV (fun k => b_R (fun x0 μ r μ' => r = none ∧ μ' = (μ.1, cpy μ.2.1 k x0, μ.2.2.1, μ.2.2.2)))
theorem ft_LI_copyOfM (n : Nat) : ∀ as μ, pr_LI_copyOfM n as μ → μ.1 + 0 ≤ n ∧ cz μ.1 + 0 ≤ cz n := hf_S (n := n) (Nat.le_refl _) (fun as μ h => by
  obtain ⟨k, r, rfl, hk, h⟩ := preV_e h
  obtain ⟨x0, rfl, h⟩ := a_R_e h
  exact h.1.1)
def C_LI_copyOfM (n : Nat) : Cf := fun id => match id with
  | 0 => trF (4 + 1) (pr_LI_becomeM n) (po_LI_becomeM n)
  | _ => fun _ _ _ => False
set_option maxRecDepth 100000 in
theorem cs_LI_copyOfM (n : Nat) (hn : 103 ≤ n ∧ n ≤ 900) (l : Launch) : ∀ x ∈ k_LI_copyOf, CS l R_LI b_LI_copyOf 2 (rmm 1 0 0) n n (C_LI_copyOfM n) x := fc (CS.no rfl) (fc (CS.no rfl) (fc (CS.no rfl) (fc (CS.no rfl) (fc (CS.no rfl) (fc (CS.no rfl) (fc (CS.no rfl) (fc (CS.no rfl) (fc (CS.no rfl) (fc (CS.V (c_LI_becomeM n hn) wk_LI_become wl_LI_25 wm_LI_become we_LI_become rfl rfl wi_LI dn_LI_become ⟨rfl, rfl⟩ ⟨by decide, by decide⟩ (ft_LI_becomeM n) rfl (e_LI_copyOf_17).1) (fc (CS.no rfl) (fun _ h => absurd h List.not_mem_nil)))))))))))
set_option maxRecDepth 100000 in
set_option maxHeartbeats 4000000 in
theorem c_LI_copyOfM (n : Nat) (hn : 103 ≤ n ∧ n ≤ 900) : Cn y_LI_copyOf b_LI_copyOf 2 none (rmm 1 0 0) (1 + 1) 0 0 (pr_LI_copyOfM n) (po_LI_copyOfM n) := cv_R (ci := 5) (f := fun k => fun x0 μ => FMm n μ ∧ (isO μ x0 5 = true ∧ (μ.2.1 x0 3 = 0 ∨ μ.2.1 x0 3 = 1))) (g := fun k => fun x0 μ r μ' => r = none ∧ μ' = (μ.1, cpy μ.2.1 k x0, μ.2.2.1, μ.2.2.2)) fun l k x0 μ hk h => by
  obtain ⟨hm, h⟩ := h
  obtain ⟨M, L, T, rfl⟩ := hm.e
  refine ky_met (own := R_LI) (ini := 0) (rb := 3) (nE := n) (cd := k_LI_copyOf) (C := (C_LI_copyOfM n)) (by decide) rfl (fun h => by cases h) (Nat.le_of_ble_eq_true rfl) ⟨rfl, rfl⟩ (Or.inr (Or.inr (Or.inr ⟨rfl, rfl⟩))) rfl rfl hn.2 ok_LI_copyOf (cs_LI_copyOfM n hn l) rt_LI_copyOf (fun K hs => ?_)
  obtain ⟨hx, h01⟩ := h
  refine hs.go [] 30 _ _ _ _ ⟨hx, hx, hx, hx, ⟨hk, ⟨rfl, T, rfl⟩, h01⟩, rfl, rfl, ?_⟩
  rintro _ _ ⟨rfl, rfl⟩
  exact ⟨rfl, rfl, rfl⟩
abbrev pr_RB_dropGivenM (n : Nat) : List Value → Mm → Prop := preV 3 (fun k => a_0 (fun μ => FMm n μ ∧ (k = 10)))
abbrev po_RB_dropGivenM (n : Nat) : List Value → Mm → Option Value → Mm → Prop := qV (fun k => b_0 (fun μ r μ' => r = none ∧ μ' = sI μ 10 4 0))
theorem ft_RB_dropGivenM (n : Nat) : ∀ as μ, pr_RB_dropGivenM n as μ → μ.1 + 0 ≤ n ∧ cz μ.1 + 0 ≤ cz n := hf_S (n := n) (Nat.le_refl _) (fun as μ h => by
  obtain ⟨k, r, rfl, hk, h⟩ := preV_e h
  obtain ⟨rfl, h⟩ := a_0_e h
  exact h.1.1)
set_option maxRecDepth 100000 in
set_option maxHeartbeats 4000000 in
theorem c_RB_dropGivenM (n : Nat) (hn : 103 ≤ n ∧ n ≤ 900) : Cn y_RB_dropGiven b_RB_dropGiven 1 none (rmm 0 0 0) (0 + 1) 0 0 (pr_RB_dropGivenM n) (po_RB_dropGivenM n) := cv_0 (ci := 3) (f := fun k => fun μ => FMm n μ ∧ (k = 10)) (g := fun k => fun μ r μ' => r = none ∧ μ' = sI μ 10 4 0) fun l k  μ hk h => by
  obtain ⟨hm, h⟩ := h
  obtain ⟨M, L, T, rfl⟩ := hm.e
  refine ky_met (own := R_RB) (ini := 0) (rb := 3) (nE := n) (cd := k_RB_dropGiven) (C := (fun _ _ _ _ => False)) (by decide) rfl (fun h => by cases h) (Nat.le_of_ble_eq_true rfl) ⟨rfl, rfl⟩ (Or.inr (Or.inr (Or.inr ⟨rfl, rfl⟩))) rfl rfl hn.2 ok_RB_dropGiven (fun x hx => CS.no (nc_RB_dropGiven x hx)) rt_RB_dropGiven (fun K hs => ?_)
  subst h
  exact hs.go [] 30 _ _ _ _ ⟨ioN hn.1 rfl, rfl, rfl, rfl⟩
abbrev pr_RB_giveM (n : Nat) : List Value → Mm → Prop := preV 3 (fun k => a_IIII (fun x0 x1 x2 x3 μ => FMm n μ ∧ (k = 10 ∧ vp_in (μ.2.1 10 4) 4 ∧ (x3 = 0 ∨ x3 = 1))))
abbrev po_RB_giveM (n : Nat) : List Value → Mm → Option Value → Mm → Prop := qV (fun k => b_IIII (fun x0 x1 x2 x3 μ r μ' => r = none ∧ μ' = sI (sI (sI (sI (sI μ (99 + (μ.2.1 10 4).toNatClampNeg) 0 x0) (99 + (μ.2.1 10 4).toNatClampNeg) 1 x1) (99 + (μ.2.1 10 4).toNatClampNeg) 2 x2) (99 + (μ.2.1 10 4).toNatClampNeg) 3 x3) 10 4 (μ.2.1 10 4 + 1)))
theorem ft_RB_giveM (n : Nat) : ∀ as μ, pr_RB_giveM n as μ → μ.1 + 0 ≤ n ∧ cz μ.1 + 0 ≤ cz n := hf_S (n := n) (Nat.le_refl _) (fun as μ h => by
  obtain ⟨k, r, rfl, hk, h⟩ := preV_e h
  obtain ⟨x0, x1, x2, x3, rfl, h⟩ := a_IIII_e h
  exact h.1.1)
def C_RB_giveM (n : Nat) : Cf := fun id => match id with
  | 0 => trF (4 + 1) (pr_LI_becomeM n) (po_LI_becomeM n)
  | _ => fun _ _ _ => False
set_option maxRecDepth 100000 in
theorem cs_RB_giveM (n : Nat) (hn : 103 ≤ n ∧ n ≤ 900) (l : Launch) : ∀ x ∈ k_RB_give, CS l R_RB b_RB_give 5 (rmm 1 0 0) n n (C_RB_giveM n) x := fc (CS.no rfl) (fc (CS.no rfl) (fc (CS.no rfl) (fc (CS.no rfl) (fc (CS.no rfl) (fc (CS.no rfl) (fc (CS.no rfl) (fc (CS.no rfl) (fc (CS.no rfl) (fc (CS.V (c_LI_becomeM n hn) wk_LI_become wl_RB_50 wm_LI_become we_LI_become rfl rfl wi_LI dn_LI_become ⟨rfl, rfl⟩ ⟨by decide, by decide⟩ (ft_LI_becomeM n) rfl (e_RB_give_14).1) (fc (CS.no rfl) (fc (CS.no rfl) (fc (CS.no rfl) (fc (CS.no rfl) (fc (CS.no rfl) (fc (CS.no rfl) (fc (CS.no rfl) (fun _ h => absurd h List.not_mem_nil)))))))))))))))))
set_option maxRecDepth 100000 in
set_option maxHeartbeats 4000000 in
theorem c_RB_giveM (n : Nat) (hn : 103 ≤ n ∧ n ≤ 900) : Cn y_RB_give b_RB_give 5 none (rmm 1 0 0) (4 + 1) 0 0 (pr_RB_giveM n) (po_RB_giveM n) := cv_IIII (ci := 3) (f := fun k => fun x0 x1 x2 x3 μ => FMm n μ ∧ (k = 10 ∧ vp_in (μ.2.1 10 4) 4 ∧ (x3 = 0 ∨ x3 = 1))) (g := fun k => fun x0 x1 x2 x3 μ r μ' => r = none ∧ μ' = sI (sI (sI (sI (sI μ (99 + (μ.2.1 10 4).toNatClampNeg) 0 x0) (99 + (μ.2.1 10 4).toNatClampNeg) 1 x1) (99 + (μ.2.1 10 4).toNatClampNeg) 2 x2) (99 + (μ.2.1 10 4).toNatClampNeg) 3 x3) 10 4 (μ.2.1 10 4 + 1)) fun l k x0 x1 x2 x3 μ hk h => by
  obtain ⟨hm, h⟩ := h
  obtain ⟨M, L, T, rfl⟩ := hm.e
  refine ky_met (own := R_RB) (ini := 0) (rb := 3) (nE := n) (cd := k_RB_give) (C := (C_RB_giveM n)) (by decide) rfl (fun h => by cases h) (Nat.le_of_ble_eq_true rfl) ⟨rfl, rfl⟩ (Or.inr (Or.inr (Or.inr ⟨rfl, rfl⟩))) rfl rfl hn.2 ok_RB_give (cs_RB_giveM n hn l) rt_RB_give (fun K hs => ?_)
  obtain ⟨rfl, hg, h01⟩ := h
  have hi := cl_lt hg
  refine hs.go [] 40 _ _ _ _ ⟨ioN hn.1 rfl, _, rfl, ioN hn.1 rfl, iaNq (t := 3) (iaN hn.1 rfl) (Or.inl rfl), hg, _, rfl, ⟨ioN hn.1 (kcG _ hi), ⟨rfl, T, rfl⟩, h01⟩, rfl, rfl, ?_⟩
  rintro _ _ ⟨rfl, rfl⟩
  have hne : 10 ≠ 99 + (M 10 4).toNatClampNeg := by omega
  have e : up2 (up2 (up2 (up2 M (99 + (M 10 4).toNatClampNeg) 0 x0) (99 + (M 10 4).toNatClampNeg) 1 x1) (99 + (M 10 4).toNatClampNeg) 2 x2) (99 + (M 10 4).toNatClampNeg) 3 x3 10 4 = M 10 4 := by rw [up2_k hne, up2_k hne, up2_k hne, up2_k hne]
  refine ⟨ioN hn.1 rfl, ioN hn.1 rfl, rfl, rfl, ?_⟩
  exact congrArg (fun v => sI (sI (sI (sI (sI (n, M, L, mx T 1) (99 + (M 10 4).toNatClampNeg) 0 x0) (99 + (M 10 4).toNatClampNeg) 1 x1) (99 + (M 10 4).toNatClampNeg) 2 x2) (99 + (M 10 4).toNatClampNeg) 3 x3) 10 4 (v + 1)) e
abbrev pr_RL_addToBodyM (n : Nat) : List Value → Mm → Prop := preV 4 (fun k => a_RII (fun x0 x1 x2 μ => FMm n μ ∧ (x0 = 98 ∧ (x2 = 0 ∨ x2 = 1) ∧ ∃ i g, i < 14 ∧ k = 12 + 6 * i ∧ 1 ≤ g ∧ g ≤ 4 ∧ x1 = nI g ∧ abI μ.2.1 i)))
abbrev po_RL_addToBodyM (n : Nat) : List Value → Mm → Option Value → Mm → Prop := qV (fun k => b_RII (fun x0 x1 x2 μ r μ' => ∀ i g, k = 12 + 6 * i → g ≤ 4 → x1 = nI g → r = none ∧ μ' = (μ.1, atb i x2 (g - 1) 1 μ.2.1, μ.2.2.1, μ.2.2.2)))
theorem ft_RL_addToBodyM (n : Nat) : ∀ as μ, pr_RL_addToBodyM n as μ → μ.1 + 0 ≤ n ∧ cz μ.1 + 0 ≤ cz n := hf_S (n := n) (Nat.le_refl _) (fun as μ h => by
  obtain ⟨k, r, rfl, hk, h⟩ := preV_e h
  obtain ⟨x0, x1, x2, rfl, h⟩ := a_RII_e h
  exact h.1.1)
def C_RL_addToBodyM (n : Nat) : Cf := fun id => match id with
  | 0 => trF (1 + 1) (pr_LI_copyOfM n) (po_LI_copyOfM n)
  | _ => fun _ _ _ => False
set_option maxRecDepth 100000 in
theorem cs_RL_addToBodyM (n : Nat) (hn : 103 ≤ n ∧ n ≤ 900) (l : Launch) : ∀ x ∈ k_RL_addToBody, CS l R_RL b_RL_addToBody 5 (rmm 2 0 0) n n (C_RL_addToBodyM n) x := fc (CS.no rfl) (fc (CS.no rfl) (fc (CS.no rfl) (fc (CS.no rfl) (fc (CS.no rfl) (fc (CS.no rfl) (fc (CS.no rfl) (fc (CS.no rfl) (fc (CS.no rfl) (fc (CS.no rfl) (fc (CS.no rfl) (fc (CS.no rfl) (fc (CS.no rfl) (fc (CS.no rfl) (fc (CS.no rfl) (fc (CS.no rfl) (fc (CS.no rfl) (fc (CS.no rfl) (fc (CS.no rfl) (fc (CS.no rfl) (fc (CS.no rfl) (fc (CS.no rfl) (fc (CS.no rfl) (fc (CS.V (c_LI_copyOfM n hn) wk_LI_copyOf wl_RL_22 wm_LI_copyOf we_LI_copyOf rfl rfl wi_LI dn_LI_copyOf ⟨rfl, rfl⟩ ⟨by decide, by decide⟩ (ft_LI_copyOfM n) rfl (e_RL_addToBody_41).1) (fc (CS.no rfl) (fc (CS.no rfl) (fc (CS.no rfl) (fc (CS.no rfl) (fc (CS.no rfl) (fc (CS.no rfl) (fc (CS.no rfl) (fc (CS.no rfl) (fc (CS.no rfl) (fc (CS.no rfl) (fc (CS.no rfl) (fc (CS.no rfl) (fc (CS.no rfl) (fc (CS.no rfl) (fc (CS.no rfl) (fc (CS.no rfl) (fc (CS.no rfl) (fc (CS.no rfl) (fc (CS.no rfl) (fc (CS.no rfl) (fun _ h => absurd h List.not_mem_nil))))))))))))))))))))))))))))))))))))))))))))
set_option maxRecDepth 100000 in
set_option maxHeartbeats 4000000 in
theorem c_RL_addToBodyM (n : Nat) (hn : 103 ≤ n ∧ n ≤ 900) : Cn y_RL_addToBody b_RL_addToBody 5 none (rmm 2 0 0) (3 + 1) 0 0 (pr_RL_addToBodyM n) (po_RL_addToBodyM n) := cv_RII (ci := 4) (f := fun k => fun x0 x1 x2 μ => FMm n μ ∧ (x0 = 98 ∧ (x2 = 0 ∨ x2 = 1) ∧ ∃ i g, i < 14 ∧ k = 12 + 6 * i ∧ 1 ≤ g ∧ g ≤ 4 ∧ x1 = nI g ∧ abI μ.2.1 i)) (g := fun k => fun x0 x1 x2 μ r μ' => ∀ i g, k = 12 + 6 * i → g ≤ 4 → x1 = nI g → r = none ∧ μ' = (μ.1, atb i x2 (g - 1) 1 μ.2.1, μ.2.2.1, μ.2.2.2)) fun l k x0 x1 x2 μ hk h => by
  obtain ⟨hm, h⟩ := h
  obtain ⟨M, L, T, rfl⟩ := hm.e
  refine ky_met (own := R_RL) (ini := 0) (rb := 3) (nE := n) (cd := k_RL_addToBody) (C := (C_RL_addToBodyM n)) (by decide) rfl (fun h => by cases h) (Nat.le_of_ble_eq_true rfl) ⟨rfl, rfl⟩ (Or.inr (Or.inr (Or.inr ⟨rfl, rfl⟩))) rfl rfl hn.2 ok_RL_addToBody (cs_RL_addToBodyM n hn l) rt_RL_addToBody (fun K hs => ?_)
  obtain ⟨rfl, hx2, i, g, hi, rfl, hg1, hg4, rfl, hI⟩ := h
  have hI : abI M i := hI
  have post : ∀ (r : Option Value) (μ' : Mm), r = none → μ' = (n, atb i x2 (g - 1) 1 M, L, mx T 1) → ∀ i' g', 12 + 6 * i = 12 + 6 * i' → g' ≤ 4 → nI g = nI g' → r = none ∧ μ' = (n, atb i' x2 (g' - 1) 1 M, L, mx T 1) := by
    intro r μ' h1 h2 i' g' hi' hg' hgg
    have e1 : i' = i := by omega
    have e2 : g = g' := (nI_eq (a := g) (b := g') (by omega) (by omega)).mp hgg
    subst e1; subst e2
    exact ⟨h1, h2⟩
  have loop : ∀ (d c : Nat) (N : mM), c + d = g → abI N i → atb i x2 d c N = atb i x2 (g - 1) 1 M → K 3 [some (.ref (12 + 6 * i)), some (.ref 98), some (.int (nI g)), some (.int x2), some (.int (nI c))] [] (n, N, L, mx T 1) := by
    intro d
    induction d with
    | zero =>
      intro c N hc hN hr
      rw [show c = g by omega]
      exact hs.go [3] 60 _ _ _ _ ⟨fun _ => ⟨rfl, post _ _ rfl (by rw [← hr]; rfl)⟩, fun z => absurd (Int32.le_refl _) z⟩
    | succ d ih =>
      intro c N hc hN hr
      have hc4 : c < 4 := by omega
      have hin : vp_in (nI c) 4 := vp_in_nI hc4 (by decide)
      have hcl : (nI c).toNatClampNeg = c := nI_clamp (n := c) (by omega)
      have hio : ∀ P : mM, isO (n, P, L, mx T 1) (99 + c) 5 = true := fun P => ioN hn.1 (kcG c hc4)
      have hia : ∀ P : mM, (isA (n, P, L, mx T 1) 98 3 || isA (n, P, L, mx T 1) 98 4) = true := fun P => iaNq (t := 3) (iaN hn.1 rfl) (Or.inl rfl)
      have hiR : ∀ P : mM, isO (n, P, L, mx T 1) (12 + 6 * i) 4 = true := fun P => ioN hn.1 (kcR i hi)
      have h98 : mx T 1 98 (nI c).toNatClampNeg = some (99 + c) := by rw [hcl]; rfl
      have no : ¬ (N (99 + c) 3 = x2 ∧ N (12 + 6 * i) 2 < 3) → K 3 [some (.ref (12 + 6 * i)), some (.ref 98), some (.int (nI g)), some (.int x2), some (.int (nI c + 1))] [] (n, N, L, mx T 1) := by
        intro hb
        have h9 := ih (c + 1) N (by omega) hN (by rw [← hr]; simp only [atb, if_neg hb])
        rw [nI_succ] at h9
        exact h9
      refine hs.go [3] 60 _ _ _ _ ⟨fun z => absurd z (nI_ge (a := c) (b := g) (by omega) (by omega)), fun _ => ⟨hia _, hin, 99 + c, h98, hio _, fun hb => ?_, fun hb => ⟨hiR _, fun hb2 => ?_, fun hb2 => ?_⟩⟩⟩
      · exact no (fun z => hb z.1)
      · exact no (fun z => Int32.not_lt.mpr hb2 z.2)
      · have hb : N (99 + c) 3 = x2 := hb
        have hl : N (12 + 6 * i) 2 < 3 := Int32.not_le.mp hb2
        obtain ⟨⟨m, hm, hme⟩, h01⟩ := hN
        have hm3 : m < 3 := by
          rw [hme] at hl
          rcases Nat.lt_or_ge m 3 with z | z
          · exact z
          · exact absurd hl (nI_nlt (a := m) (b := 3) z (by omega))
        have hrl : rln N i = m := by unfold rln; rw [hme]; exact nI_clamp (n := m) (by omega)
        have hinm : vp_in (N (12 + 6 * i) 2) (kd (14 + 6 * i)).2 := by rw [kdB3 i hi, hme]; exact vp_in_nI hm3 (by decide)
        have hTl : mx T 1 (14 + 6 * i) (N (12 + 6 * i) 2).toNatClampNeg = some (15 + 6 * i + m) := by rw [show (N (12 + 6 * i) 2).toNatClampNeg = m from hrl]; exact TTlM i hi m hm3
        have hiL : ∀ P : mM, isO (n, P, L, mx T 1) (15 + 6 * i + m) 5 = true := fun P => ioN hn.1 (kcL i hi m hm3)
        have hiB : ∀ P : mM, (isA (n, P, L, mx T 1) (14 + 6 * i) 3 || isA (n, P, L, mx T 1) (14 + 6 * i) 4) = true := fun P => iaNq (t := 3) (iaN hn.1 (kcB i hi)) (Or.inl rfl)
        have hN' : abI N i := ⟨⟨m, hm, hme⟩, h01⟩
        have h9 := ih (c + 1) (abS N i c) (by omega) (abS_I hi hN' hl) (by rw [← hr]; simp only [atb, if_pos (show N (99 + c) 3 = x2 ∧ N (12 + 6 * i) 2 < 3 from ⟨hb, hl⟩)])
        rw [nI_succ] at h9
        refine ⟨hiR _, _, TTbM i hi, hiR _, hiB _, hinm, 15 + 6 * i + m, hTl, hia _, hin, 99 + c, h98, ⟨hiL _, ⟨rfl, T, rfl⟩, hio _, h01 c hc4⟩, rfl, rfl, ?_⟩
        rintro _ _ ⟨rfl, rfl⟩
        refine ⟨hiR _, hiR _, hiR _, hia _, hin, 99 + c, h98, hio _, hiR _, ?_⟩
        have e1 : cpy N (15 + 6 * i + m) (99 + c) (12 + 6 * i) = N (12 + 6 * i) := cpy_k (by omega)
        have e2 : cpy N (15 + 6 * i + m) (99 + c) (99 + c) = N (99 + c) := cpy_k (by omega)
        have e3 : abS N i c = up2 (up2 (cpy N (15 + 6 * i + m) (99 + c)) (12 + 6 * i) 2 (cpy N (15 + 6 * i + m) (99 + c) (12 + 6 * i) 2 + 1)) (12 + 6 * i) 3 (up2 (cpy N (15 + 6 * i + m) (99 + c)) (12 + 6 * i) 2 (cpy N (15 + 6 * i + m) (99 + c) (12 + 6 * i) 2 + 1) (12 + 6 * i) 3 ||| (1 <<< (up2 (cpy N (15 + 6 * i + m) (99 + c)) (12 + 6 * i) 2 (cpy N (15 + 6 * i + m) (99 + c) (12 + 6 * i) 2 + 1) (99 + c) 0 &&& 31))) := by
          unfold abS
          rw [hrl, up2_j (show (3 : Nat) ≠ 2 by decide), e1, up2_k (show 99 + c ≠ 12 + 6 * i by omega), e2]
        rw [e3] at h9
        exact h9
  exact hs.go [3] 60 _ _ _ _ (loop (g - 1) 1 M (by omega) hI rfl)
abbrev pr_RL_becomeM (n : Nat) : List Value → Mm → Prop := preV 4 (fun k => a_RI (fun x0 x1 μ => FMm n μ ∧ (x0 = 98 ∧ ∃ i g, i < 14 ∧ k = 12 + 6 * i ∧ 1 ≤ g ∧ g ≤ 4 ∧ x1 = nI g ∧ (∀ j, j < 4 → (μ.2.1 (99 + j) 3 = 0 ∨ μ.2.1 (99 + j) 3 = 1)))))
abbrev po_RL_becomeM (n : Nat) : List Value → Mm → Option Value → Mm → Prop := qV (fun k => b_RI (fun x0 x1 μ r μ' => ∀ i g, k = 12 + 6 * i → g ≤ 4 → x1 = nI g → r = none ∧ μ' = (μ.1, bcm μ.2.1 i g, μ.2.2.1, μ.2.2.2)))
theorem ft_RL_becomeM (n : Nat) : ∀ as μ, pr_RL_becomeM n as μ → μ.1 + 0 ≤ n ∧ cz μ.1 + 0 ≤ cz n := hf_S (n := n) (Nat.le_refl _) (fun as μ h => by
  obtain ⟨k, r, rfl, hk, h⟩ := preV_e h
  obtain ⟨x0, x1, rfl, h⟩ := a_RI_e h
  exact h.1.1)
def C_RL_becomeM (n : Nat) : Cf := fun id => match id with
  | 0 => trF (1 + 1) (pr_LI_copyOfM n) (po_LI_copyOfM n)
  | 1 => trF (3 + 1) (pr_RL_addToBodyM n) (po_RL_addToBodyM n)
  | _ => fun _ _ _ => False
set_option maxRecDepth 100000 in
theorem cs_RL_becomeM (n : Nat) (hn : 103 ≤ n ∧ n ≤ 900) (l : Launch) : ∀ x ∈ k_RL_become, CS l R_RL b_RL_become 3 (rmm 3 0 0) n n (C_RL_becomeM n) x := fc (CS.no rfl) (fc (CS.no rfl) (fc (CS.no rfl) (fc (CS.no rfl) (fc (CS.no rfl) (fc (CS.V (c_LI_copyOfM n hn) wk_LI_copyOf wl_RL_22 wm_LI_copyOf we_LI_copyOf rfl rfl wi_LI dn_LI_copyOf ⟨rfl, rfl⟩ ⟨by decide, by decide⟩ (ft_LI_copyOfM n) rfl (e_RL_become_7).1) (fc (CS.no rfl) (fc (CS.no rfl) (fc (CS.no rfl) (fc (CS.no rfl) (fc (CS.no rfl) (fc (CS.no rfl) (fc (CS.no rfl) (fc (CS.no rfl) (fc (CS.no rfl) (fc (CS.no rfl) (fc (CS.V (c_RL_addToBodyM n hn) wk_RL_addToBody wl_RL_33 wm_RL_addToBody we_RL_addToBody rfl rfl wi_RL dn_RL_addToBody ⟨rfl, rfl⟩ ⟨by decide, by decide⟩ (ft_RL_addToBodyM n) rfl (e_RL_become_24).1) (fc (CS.no rfl) (fc (CS.no rfl) (fc (CS.no rfl) (fc (CS.no rfl) (fc (CS.V (c_RL_addToBodyM n hn) wk_RL_addToBody wl_RL_33 wm_RL_addToBody we_RL_addToBody rfl rfl wi_RL dn_RL_addToBody ⟨rfl, rfl⟩ ⟨by decide, by decide⟩ (ft_RL_addToBodyM n) rfl (e_RL_become_31).1) (fc (CS.no rfl) (fc (CS.no rfl) (fc (CS.no rfl) (fc (CS.no rfl) (fun _ h => absurd h List.not_mem_nil))))))))))))))))))))))))))
set_option maxRecDepth 100000 in
set_option maxHeartbeats 4000000 in
theorem c_RL_becomeM (n : Nat) (hn : 103 ≤ n ∧ n ≤ 900) : Cn y_RL_become b_RL_become 3 none (rmm 3 0 0) (2 + 1) 0 0 (pr_RL_becomeM n) (po_RL_becomeM n) := cv_RI (ci := 4) (f := fun k => fun x0 x1 μ => FMm n μ ∧ (x0 = 98 ∧ ∃ i g, i < 14 ∧ k = 12 + 6 * i ∧ 1 ≤ g ∧ g ≤ 4 ∧ x1 = nI g ∧ (∀ j, j < 4 → (μ.2.1 (99 + j) 3 = 0 ∨ μ.2.1 (99 + j) 3 = 1)))) (g := fun k => fun x0 x1 μ r μ' => ∀ i g, k = 12 + 6 * i → g ≤ 4 → x1 = nI g → r = none ∧ μ' = (μ.1, bcm μ.2.1 i g, μ.2.2.1, μ.2.2.2)) fun l k x0 x1 μ hk h => by
  obtain ⟨hm, h⟩ := h
  obtain ⟨M, L, T, rfl⟩ := hm.e
  refine ky_met (own := R_RL) (ini := 0) (rb := 3) (nE := n) (cd := k_RL_become) (C := (C_RL_becomeM n)) (by decide) rfl (fun h => by cases h) (Nat.le_of_ble_eq_true rfl) ⟨rfl, rfl⟩ (Or.inr (Or.inr (Or.inr ⟨rfl, rfl⟩))) rfl rfl hn.2 ok_RL_become (cs_RL_becomeM n hn l) rt_RL_become (fun K hs => ?_)
  obtain ⟨rfl, i, g, hi, rfl, hg1, hg4, rfl, h01⟩ := h
  have h01 : ∀ j, j < 4 → (M (99 + j) 3 = 0 ∨ M (99 + j) 3 = 1) := h01
  have post : ∀ (r : Option Value) (μ' : Mm), r = none → μ' = (n, bcm M i g, L, mx T 1) → ∀ i' g', 12 + 6 * i = 12 + 6 * i' → g' ≤ 4 → nI g = nI g' → r = none ∧ μ' = (n, bcm M i' g', L, mx T 1) := by
    intro r μ' h1 h2 i' g' hi' hg' hgg
    have e1 : i' = i := by omega
    have e2 : g = g' := (nI_eq (a := g) (b := g') (by omega) (by omega)).mp hgg
    subst e1; subst e2
    exact ⟨h1, h2⟩
  have hiR : ∀ P : mM, isO (n, P, L, mx T 1) (12 + 6 * i) 4 = true := fun P => ioN hn.1 (kcR i hi)
  have hI1 : abI (up2 (up2 (cpy M (13 + 6 * i) 99) (12 + 6 * i) 2 0) (12 + 6 * i) 3 0) i := by
    refine ⟨⟨0, by decide, ?_⟩, fun j hj => ?_⟩
    · rw [up2_j (by decide), up2_s]; rfl
    · rw [up2_k (by omega), up2_k (by omega), cpy_k (by omega)]
      exact h01 j hj
  refine hs.go [] 60 _ _ _ _ ⟨hiR _, _, TThM i hi, iaNq (t := 3) (iaN hn.1 rfl) (Or.inl rfl), vp_in_nI (n := 0) (by decide) (by decide), 99, rfl, ⟨ioN hn.1 (kcH i hi), ⟨rfl, T, rfl⟩, ioN hn.1 rfl, h01 0 (by decide)⟩, rfl, rfl, ?_⟩
  rintro _ _ ⟨rfl, rfl⟩
  refine ⟨hiR _, hiR _, ⟨hiR _, ⟨rfl, T, rfl⟩, rfl, Or.inl rfl, i, g, hi, rfl, hg1, hg4, rfl, hI1⟩, rfl, rfl, ?_⟩
  intro r μ' hp
  obtain ⟨h1, h2⟩ := hp i g rfl hg4 rfl
  rw [h1, h2]
  refine ⟨⟨hiR _, ⟨rfl, T, rfl⟩, rfl, Or.inr rfl, i, g, hi, rfl, hg1, hg4, rfl, atb_I hi _ _ _ hI1⟩, rfl, rfl, ?_⟩
  intro r μ' hp
  obtain ⟨h1, h2⟩ := hp i g rfl hg4 rfl
  rw [h1, h2]
  exact ⟨hiR _, Or.inr rfl, rfl, post _ _ rfl rfl⟩
/-- the library is read: one literal given -/
def gvM (M : mM) (x0 x1 x2 : Int32) : mM := up2 (up2 (up2 (up2 (up2 M (99 + (M 10 4).toNatClampNeg) 0 x0) (99 + (M 10 4).toNatClampNeg) 1 x1) (99 + (M 10 4).toNatClampNeg) 2 x2) (99 + (M 10 4).toNatClampNeg) 3 0) 10 4 (M 10 4 + 1)
def lk1 (i c : Nat) (M : mM) : mM := if lib (3 * (4 * i + c)) = -1 then M else gvM M (lib (3 * (4 * i + c))) (lib (3 * (4 * i + c) + 1)) (lib (3 * (4 * i + c) + 2))
def lkn (i : Nat) : Nat → Nat → mM → mM
  | 0, _, M => M
  | d + 1, c, M => lkn i d (c + 1) (lk1 i c M)
def lgc (i : Nat) : Nat := if i = 0 then 2 else if i = 1 then 3 else 4
def lrl (i : Nat) (M : mM) : mM := up2 (bcm (lkn i 4 0 M) i (lgc i)) 10 4 0
def lrn : Nat → Nat → mM → mM
  | 0, _, M => M
  | d + 1, i, M => lrn d (i + 1) (lrl i M)
theorem lb_at : ∀ i, i < 6 → ∀ c, c < 4 → 3 * (nI i * 4 + nI c) = nI (3 * (4 * i + c)) ∧ 3 * (nI i * 4 + nI c) + 1 = nI (3 * (4 * i + c) + 1) ∧ 3 * (nI i * 4 + nI c) + 2 = nI (3 * (4 * i + c) + 2) := by decide +kernel
theorem lb_no : ∀ i, i < 6 → ∀ c, c < 4 → (lib (3 * (4 * i + c)) = -1 ↔ lgc i ≤ c) := by decide +kernel
theorem lgc_4 (i : Nat) : 1 ≤ lgc i ∧ lgc i ≤ 4 := by
  unfold lgc
  split
  · exact ⟨by decide, by decide⟩
  · split <;> exact ⟨by decide, by decide⟩
/-- what reading the library keeps: the number given, and bits -/
def lbI (M : mM) (g : Nat) : Prop := M 10 4 = nI g ∧ ∀ j, j < 4 → (M (99 + j) 3 = 0 ∨ M (99 + j) 3 = 1)
theorem gvM_I {M : mM} {g : Nat} {x0 x1 x2 : Int32} (hg : g < 4) (h : lbI M g) : lbI (gvM M x0 x1 x2) (g + 1) := by
  have e : (M 10 4).toNatClampNeg = g := by rw [h.1]; exact nI_clamp (n := g) (by omega)
  refine ⟨?_, fun j hj => ?_⟩
  · unfold gvM
    rw [up2_s, h.1, nI_succ]
  · unfold gvM
    rw [e, up2_k (by omega)]
    by_cases hj2 : j = g
    · subst hj2
      rw [up2_s]
      exact Or.inl rfl
    · rw [up2_k (by omega), up2_k (by omega), up2_k (by omega), up2_k (by omega)]
      exact h.2 j hj
theorem lk1_I {M : mM} {i c : Nat} (hi : i < 6) (hc : c < 4) (h : lbI M (min c (lgc i))) : lbI (lk1 i c M) (min (c + 1) (lgc i)) := by
  have hl := lgc_4 i
  unfold lk1
  by_cases hb : lib (3 * (4 * i + c)) = -1
  · rw [if_pos hb]
    have := (lb_no i hi c hc).mp hb
    rw [show min (c + 1) (lgc i) = min c (lgc i) by omega]
    exact h
  · rw [if_neg hb]
    have hb2 : ¬ lgc i ≤ c := fun z => hb ((lb_no i hi c hc).mpr z)
    rw [show min (c + 1) (lgc i) = min c (lgc i) + 1 by omega]
    exact gvM_I (by omega) h
theorem lkn_I {i : Nat} (hi : i < 6) : ∀ (d c : Nat) (M : mM), c + d = 4 → lbI M (min c (lgc i)) → lbI (lkn i d c M) (lgc i)
  | 0, c, M, hc, h => by
    have hl := lgc_4 i
    rw [show min c (lgc i) = lgc i by omega] at h
    exact h
  | d + 1, c, M, hc, h => lkn_I hi d (c + 1) _ (by omega) (lk1_I hi (by omega) h)
theorem atb_o {i : Nat} {neg : Int32} (hi : i < 14) : ∀ (n kk : Nat) (M : mM), abI M i → ∀ a, (a < 12 + 6 * i ∨ 18 + 6 * i ≤ a) → atb i neg n kk M a = M a
  | 0, _, _, _, _, _ => rfl
  | n + 1, kk, M, h, a, ha => by
    simp only [atb]
    split
    · rename_i hc
      have hm := abS_I (kk := kk) hi h hc.2
      rw [atb_o hi n (kk + 1) _ hm a ha]
      obtain ⟨⟨m, hm3, hme⟩, _⟩ := h
      have hm4 : m < 3 := by
        have hl := hc.2
        rw [hme] at hl
        rcases Nat.lt_or_ge m 3 with z | z
        · exact z
        · exact absurd hl (nI_nlt (a := m) (b := 3) z (by omega))
      have hrl : rln M i = m := by unfold rln; rw [hme]; exact nI_clamp (n := m) (by omega)
      unfold abS
      rw [up2_k (by omega), up2_k (by omega), hrl, cpy_k (by omega)]
    · exact atb_o hi n (kk + 1) _ h a ha
theorem bcm_o {M : mM} {i g : Nat} (hi : i < 14) (h : ∀ j, j < 4 → (M (99 + j) 3 = 0 ∨ M (99 + j) 3 = 1)) (a : Nat) (ha : a < 12 + 6 * i ∨ 18 + 6 * i ≤ a) : bcm M i g a = M a := by
  have hI1 : abI (up2 (up2 (cpy M (13 + 6 * i) 99) (12 + 6 * i) 2 0) (12 + 6 * i) 3 0) i := by
    refine ⟨⟨0, by decide, ?_⟩, fun j hj => ?_⟩
    · rw [up2_j (by decide), up2_s]; rfl
    · rw [up2_k (by omega), up2_k (by omega), cpy_k (by omega)]
      exact h j hj
  unfold bcm
  rw [up2_k (by omega), atb_o hi _ _ _ (atb_I hi _ _ _ hI1) a ha, atb_o hi _ _ _ hI1 a ha, up2_k (by omega), up2_k (by omega), cpy_k (by omega)]
theorem lrl_I {M : mM} {i : Nat} (hi : i < 6) (h : lbI M 0) : lbI (lrl i M) 0 := by
  have h1 := lkn_I hi 4 0 M rfl (by rw [Nat.zero_min]; exact h)
  refine ⟨?_, fun j hj => ?_⟩
  · unfold lrl
    rw [up2_s]; rfl
  · unfold lrl
    rw [up2_k (by omega), bcm_o (by omega) h1.2 _ (Or.inr (by omega))]
    exact h1.2 j hj

theorem dn_RB_readLibrary : y_RB_readLibrary.cls ≠ "java/lang/invoke/MethodHandle" ∧ y_RB_readLibrary.cls ≠ "java/lang/invoke/VarHandle" ∧ (parseMethodDescriptor y_RB_readLibrary.desc).map (fun d => d.parameters.length) = some 0 := by decide +kernel
abbrev f_RBr (k : Nat) : Mm → Prop := fun μ => FMm 103 μ ∧ k = 10 ∧ lbI μ.2.1 0
abbrev g_RBr (k : Nat) : Mm → Option Value → Mm → Prop := fun μ r μ' => r = none ∧ μ' = (103, lrn 6 0 μ.2.1, μ.2.2.1, μ.2.2.2)
abbrev pr_RB_readLibrary : List Value → Mm → Prop := preV 3 (fun k => a_0 (f_RBr k))
abbrev po_RB_readLibrary : List Value → Mm → Option Value → Mm → Prop := qV (fun k => b_0 (g_RBr k))
theorem ft_RB_readLibrary : ∀ as μ, pr_RB_readLibrary as μ → μ.1 + 0 ≤ 103 ∧ cz μ.1 + 0 ≤ cz 103 := hf_S (n := 103) (Nat.le_refl _) (fun as μ h => by
  obtain ⟨k, r, rfl, hk, h⟩ := preV_e h
  obtain ⟨rfl, h⟩ := a_0_e h
  exact h.1.1)
def C_RB_readLibrary : Cf := fun id => match id with
  | 0 => trF (4 + 1) (pr_RB_giveM 103) (po_RB_giveM 103)
  | 1 => trF (2 + 1) (pr_RL_becomeM 103) (po_RL_becomeM 103)
  | 2 => trF (0 + 1) (pr_RB_dropGivenM 103) (po_RB_dropGivenM 103)
  | _ => fun _ _ _ => False
set_option maxRecDepth 100000 in
theorem cs_RB_readLibrary (l : Launch) : ∀ x ∈ k_RB_readLibrary, CS l R_RB b_RB_readLibrary 4 (rmm 4 0 0) 103 103 C_RB_readLibrary x := fc (CS.no rfl) (fc (CS.no rfl) (fc (CS.no rfl) (fc (CS.no rfl) (fc (CS.no rfl) (fc (CS.no rfl) (fc (CS.no rfl) (fc (CS.no rfl) (fc (CS.no rfl) (fc (CS.no rfl) (fc (CS.no rfl) (fc (CS.no rfl) (fc (CS.no rfl) (fc (CS.no rfl) (fc (CS.no rfl) (fc (CS.no rfl) (fc (CS.no rfl) (fc (CS.no rfl) (fc (CS.no rfl) (fc (CS.no rfl) (fc (CS.no rfl) (fc (CS.no rfl) (fc (CS.no rfl) (fc (CS.no rfl) (fc (CS.no rfl) (fc (CS.no rfl) (fc (CS.no rfl) (fc (CS.no rfl) (fc (CS.no rfl) (fc (CS.no rfl) (fc (CS.no rfl) (fc (CS.no rfl) (fc (CS.no rfl) (fc (CS.no rfl) (fc (CS.no rfl) (fc (CS.no rfl) (fc (CS.no rfl) (fc (CS.no rfl) (fc (CS.V (c_RB_giveM 103 (by decide)) wk_RB_give wl_RB_35 wm_RB_give we_RB_give rfl rfl wi_RB dn_RB_give ⟨rfl, rfl⟩ ⟨by decide, by decide⟩ (ft_RB_giveM 103) rfl (e_RB_readLibrary_53).1) (fc (CS.no rfl) (fc (CS.no rfl) (fc (CS.no rfl) (fc (CS.no rfl) (fc (CS.no rfl) (fc (CS.no rfl) (fc (CS.no rfl) (fc (CS.no rfl) (fc (CS.no rfl) (fc (CS.no rfl) (fc (CS.V (c_RL_becomeM 103 (by decide)) wk_RL_become wl_RB_43 wm_RL_become we_RL_become rfl rfl wi_RL dn_RL_become ⟨rfl, rfl⟩ ⟨by decide, by decide⟩ (ft_RL_becomeM 103) rfl (e_RB_readLibrary_76).1) (fc (CS.no rfl) (fc (CS.V (c_RB_dropGivenM 103 (by decide)) wk_RB_dropGiven wl_RB_47 wm_RB_dropGiven we_RB_dropGiven rfl rfl wi_RB dn_RB_dropGiven ⟨rfl, rfl⟩ ⟨by decide, by decide⟩ (ft_RB_dropGivenM 103) rfl (e_RB_readLibrary_80).1) (fc (CS.no rfl) (fc (CS.no rfl) (fc (CS.no rfl) (fun _ h => absurd h List.not_mem_nil)))))))))))))))))))))))))))))))))))))))))))))))))))))))
set_option maxRecDepth 100000 in
set_option maxHeartbeats 4000000 in
theorem c_RB_readLibrary : Cn y_RB_readLibrary b_RB_readLibrary 4 none (rmm 4 0 0) (0 + 1) 0 0 pr_RB_readLibrary po_RB_readLibrary := cv_0 (ci := 3) (f := f_RBr) (g := g_RBr) fun l k μ hk h => by
  obtain ⟨hm, rfl, hI⟩ := h
  obtain ⟨M, L, T, rfl⟩ := hm.e
  have hI : lbI M 0 := hI
  refine ky_met (own := R_RB) (ini := 0) (rb := 3) (nE := 103) (cd := k_RB_readLibrary) (C := C_RB_readLibrary) (by decide) rfl (fun h => by cases h) (Nat.le_of_ble_eq_true rfl) ⟨rfl, rfl⟩ (Or.inr (Or.inr (Or.inr ⟨rfl, rfl⟩))) rfl rfl (by decide) ok_RB_readLibrary (cs_RB_readLibrary l) rt_RB_readLibrary (fun K hs => ?_)
  have inner : ∀ (i : Nat) (w : Option Value), i < 6 → (∀ (P : mM) (w : Option Value), lbI P (lgc i) → K 62 [some (.ref 10), some (.int (nI i)), some (.int (nI 4)), w] [] (103, P, L, mx T 1) → True) → ∀ (d c : Nat) (N : mM) (w : Option Value), c + d = 4 → lbI N (min c (lgc i)) → (∀ w, K 62 [some (.ref 10), some (.int (nI i)), some (.int (nI 4)), w] [] (103, lkn i d c N, L, mx T 1)) → K 10 [some (.ref 10), some (.int (nI i)), some (.int (nI c)), w] [] (103, N, L, mx T 1) := by
    intro i _ hi _ d
    induction d with
    | zero =>
      intro c N w hc hN hr
      have hc : c = 4 := by omega
      subst hc
      exact hs.go [62] 10 _ _ _ _ ⟨fun _ => hr w, fun z => absurd (Int32.le_refl _) z⟩
    | succ d ih =>
      intro c N w hc hN hr
      have hc4 : c < 4 := by omega
      obtain ⟨a0, a1, a2⟩ := lb_at i hi c hc4
      have hl := lgc_4 i
      have i0 : vp_in (3 * (nI i * 4 + nI c)) 72 := by rw [a0]; exact vp_in_nI (by omega) (by decide)
      have i1 : vp_in (3 * (nI i * 4 + nI c) + 1) 72 := by rw [a1]; exact vp_in_nI (by omega) (by decide)
      have i2 : vp_in (3 * (nI i * 4 + nI c) + 2) 72 := by rw [a2]; exact vp_in_nI (by omega) (by decide)
      have c0 : (3 * (nI i * 4 + nI c)).toNatClampNeg = 3 * (4 * i + c) := by rw [a0]; exact nI_clamp (by omega)
      have c1 : (3 * (nI i * 4 + nI c) + 1).toNatClampNeg = 3 * (4 * i + c) + 1 := by rw [a1]; exact nI_clamp (by omega)
      have c2 : (3 * (nI i * 4 + nI c) + 2).toNatClampNeg = 3 * (4 * i + c) + 2 := by rw [a2]; exact nI_clamp (by omega)
      have h9 := fun w => ih (c + 1) (lk1 i c N) w (by omega) (lk1_I hi hc4 hN) hr
      rw [nI_succ] at h9
      by_cases hb : lib (3 * (4 * i + c)) = -1
      · have e1 : lk1 i c N = N := if_pos hb
        rw [e1] at h9
        have hb' : lib (3 * (nI i * 4 + nI c)).toNatClampNeg = -1 := by rw [c0]; exact hb
        exact hs.go [10] 60 _ _ _ _ ⟨fun z => absurd z (nI_ge (a := c) (b := 4) (by omega) (by decide)), fun _ => ⟨i0, fun _ => h9 _, fun z => absurd hb' z⟩⟩
      · have e1 : lk1 i c N = gvM N (lib (3 * (4 * i + c))) (lib (3 * (4 * i + c) + 1)) (lib (3 * (4 * i + c) + 2)) := if_neg hb
        rw [e1, ← c1, ← c2, ← c0] at h9
        have hb' : ¬ lib (3 * (nI i * 4 + nI c)).toNatClampNeg = -1 := by rw [c0]; exact hb
        have hb2 : ¬ lgc i ≤ c := fun z => hb ((lb_no i hi c hc4).mpr z)
        have hg : vp_in (N 10 4) 4 := by rw [hN.1]; exact vp_in_nI (by omega) (by decide)
        refine hs.go [10] 60 _ _ _ _ ⟨fun z => absurd z (nI_ge (a := c) (b := 4) (by omega) (by decide)), fun _ => ⟨i0, fun z => absurd z hb', fun _ => ⟨i0, i1, i2, ⟨rfl, ⟨rfl, T, rfl⟩, rfl, hg, Or.inl rfl⟩, rfl, rfl, ?_⟩⟩⟩
        rintro _ _ ⟨rfl, rfl⟩
        exact h9 _
  have outer : ∀ (d i : Nat) (N : mM) (w w' : Option Value), i + d = 6 → lbI N 0 → lrn d i N = lrn 6 0 M → K 2 [some (.ref 10), some (.int (nI i)), w, w'] [] (103, N, L, mx T 1) := by
    intro d
    induction d with
    | zero =>
      intro i N w w' hi hN hr
      have hi : i = 6 := by omega
      subst hi
      exact hs.go [2] 10 _ _ _ _ ⟨fun _ => ⟨rfl, rfl, by rw [← hr]; rfl⟩, fun z => absurd (Int32.le_refl _) z⟩
    | succ d ih =>
      intro i N w w' hi hN hr
      have hi6 : i < 6 := by omega
      have hl := lgc_4 i
      have hP := lkn_I hi6 4 0 N rfl (by rw [Nat.zero_min]; exact hN)
      have h9 := fun w w' => ih (i + 1) (lrl i N) w w' (by omega) (lrl_I hi6 hN) hr
      rw [nI_succ] at h9
      refine hs.go [2, 10] 10 _ _ _ _ ⟨fun z => absurd z (nI_ge (a := i) (b := 6) (by omega) (by decide)), fun _ => ?_⟩
      refine inner i none hi6 (fun _ _ _ _ => trivial) 4 0 N _ rfl (by rw [Nat.zero_min]; exact hN) (fun w => ?_)
      have hin : vp_in (nI i) 14 := vp_in_nI (by omega) (by decide)
      have hcl : (nI i).toNatClampNeg = i := nI_clamp (n := i) (by omega)
      have hT : mx T 1 11 (nI i).toNatClampNeg = some (12 + 6 * i) := by rw [hcl]; exact (mx1 (by decide)).trans ((show ∀ i, i < 6 → TT 11 i = some (12 + 6 * i) by decide) i hi6)
      refine hs.go [2, 10] 60 _ _ _ _ ⟨rfl, _, rfl, rfl, hin, _, hT, rfl, _, rfl, rfl, ⟨ioN (by decide) (kcR i (by omega)), ⟨rfl, T, rfl⟩, rfl, i, lgc i, by omega, rfl, hl.1, hl.2, hP.1, hP.2⟩, rfl, rfl, ?_⟩
      intro r μ' hp
      obtain ⟨h1, h2⟩ := hp i (lgc i) rfl hl.2 hP.1
      rw [h1, h2]
      refine ⟨⟨rfl, ⟨rfl, T, rfl⟩, rfl⟩, rfl, rfl, ?_⟩
      rintro _ _ ⟨rfl, rfl⟩
      exact h9 _ _
  exact hs.go [2] 10 _ _ _ _ (outer 6 0 M none none rfl hI rfl)
