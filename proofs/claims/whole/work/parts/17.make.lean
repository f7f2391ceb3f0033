theorem atb_I {i : Nat} {neg : Int32} (hi : i < 14) : ∀ (n kk : Nat) (M : mM), abI M i → abI (atb i neg n kk M) i
  | 0, _, _, h => h
  | n + 1, kk, M, h => by
    simp only [atb]
    split
    · rename_i hc
      exact atb_I hi n (kk + 1) _ (abS_I hi h hc.2)
    · exact atb_I hi n (kk + 1) _ h
def WQ (M : mM) : Prop := (∀ i, i < 14 → wR M i) ∧ ∀ j, j < 4 → wL M (99 + j)
theorem wL_cpy {M : mM} {d s k : Nat} (hk : k ≠ d → wL M k) (hs : wL M s) : wL (cpy M d s) k := by
  by_cases h : k = d
  · subst h
    have e0 : cpy M k s k 0 = M s 0 := by unfold cpy; rw [up2_j (by decide), up2_j (by decide), up2_j (by decide), up2_s]
    have e1 : cpy M k s k 1 = M s 1 := by unfold cpy; rw [up2_j (by decide), up2_j (by decide), up2_s]
    have e2 : cpy M k s k 2 = M s 2 := by unfold cpy; rw [up2_j (by decide), up2_s]
    have e3 : cpy M k s k 3 = M s 3 := by unfold cpy; rw [up2_s]
    unfold wL
    rw [e0, e1, e2, e3]
    exact hs
  · exact fr_wL (cpy_k h) (hk h)
theorem WQ_cpy {M : mM} {d s : Nat} (h : WQ M) (hd : (∃ i, i < 14 ∧ d = 13 + 6 * i) ∨ ∃ i j, i < 14 ∧ j < 3 ∧ d = 15 + 6 * i + j) (hs : wL M s) : WQ (cpy M d s) := by
  have hr : ∀ i, i < 14 → cpy M d s (12 + 6 * i) = M (12 + 6 * i) := fun i hi => cpy_k (by
    rcases hd with ⟨a, ha, rfl⟩ | ⟨a, b, ha, hb, rfl⟩ <;> omega)
  refine ⟨fun i hi => ?_, fun j hj => wL_cpy (fun _ => h.2 j hj) hs⟩
  obtain ⟨h1, h2, h3, h4⟩ := h.1 i hi
  refine ⟨by rw [hr i hi]; exact h1, by rw [hr i hi]; exact h2, wL_cpy (fun _ => h3) hs, fun j hj => wL_cpy (fun _ => h4 j hj) hs⟩
theorem WQ_up {M : mM} {i j : Nat} {x : Int32} (h : WQ M) (hi : i < 14) (hx : (j = 2 ∧ ∃ n, n ≤ 3 ∧ x = nI n) ∨ j = 3 ∨ (j = 4 ∧ (x = 0 ∨ x = 1))) : WQ (up2 M (12 + 6 * i) j x) := by
  have key : ∀ a, a ≠ 12 + 6 * i → up2 M (12 + 6 * i) j x a = M a := fun a ha => up2_k ha
  refine ⟨fun i' hi' => ?_, fun a ha => fr_wL (key _ (by omega)) (h.2 a ha)⟩
  obtain ⟨h1, h2, h3, h4⟩ := h.1 i' hi'
  refine ⟨?_, ?_, fr_wL (key _ (by omega)) h3, fun a ha => fr_wL (key _ (by omega)) (h4 a ha)⟩
  · by_cases e : i' = i
    · subst e
      rcases hx with ⟨rfl, -⟩ | rfl | ⟨rfl, hx⟩
      · rw [up2_j (by decide)]; exact h1
      · rw [up2_j (by decide)]; exact h1
      · rw [up2_s]; exact hx
    · rw [key _ (by omega)]; exact h1
  · by_cases e : i' = i
    · subst e
      rcases hx with ⟨rfl, hx⟩ | rfl | ⟨rfl, -⟩
      · rw [up2_s]; exact hx
      · rw [up2_j (by decide)]; exact h2
      · rw [up2_j (by decide)]; exact h2
    · rw [key _ (by omega)]; exact h2
theorem WQ_abS {M : mM} {i kk : Nat} (h : WQ M) (hi : i < 14) (hk : kk < 4) (hl : M (12 + 6 * i) 2 < 3) : WQ (abS M i kk) := by
  obtain ⟨-, ⟨n, hn, hne⟩, -⟩ := h.1 i hi
  have hn3 : n < 3 := by
    rw [hne] at hl
    rcases Nat.lt_or_ge n 3 with z | z
    · exact z
    · exact absurd hl (nI_nlt (a := n) (b := 3) z (by omega))
  have hrl : rln M i = n := by unfold rln; rw [hne]; exact nI_clamp (n := n) (by omega)
  unfold abS
  rw [hrl]
  refine WQ_up (WQ_up (WQ_cpy h (Or.inr ⟨i, n, hi, hn3, rfl⟩) (h.2 kk hk)) hi (Or.inl ⟨rfl, n + 1, hn3, by rw [hne, nI_succ]⟩)) hi (Or.inr (Or.inl rfl))
theorem WQ_atb {i : Nat} {neg : Int32} (hi : i < 14) : ∀ (n kk : Nat) (M : mM), kk + n ≤ 4 → WQ M → WQ (atb i neg n kk M)
  | 0, _, _, _, h => h
  | n + 1, kk, M, hk, h => by
    simp only [atb]
    split
    · rename_i hc
      exact WQ_atb hi n (kk + 1) _ (by omega) (WQ_abS h hi (by omega) hc.2)
    · exact WQ_atb hi n (kk + 1) _ (by omega) h
theorem WQ_bcm {M : mM} {i g : Nat} (h : WQ M) (hi : i < 14) (hg1 : 1 ≤ g) (hg : g ≤ 4) : WQ (bcm M i g) := by
  unfold bcm
  exact WQ_up (WQ_atb hi _ _ _ (by omega) (WQ_atb hi _ _ _ (by omega) (WQ_up (WQ_up (WQ_cpy h (Or.inl ⟨i, hi, rfl⟩) (h.2 0 (by decide))) hi (Or.inl ⟨rfl, 0, by decide, rfl⟩)) hi (Or.inr (Or.inl rfl))))) hi (Or.inr (Or.inr ⟨rfl, Or.inr rfl⟩))

theorem dn_RL_become : y_RL_become.cls ≠ "java/lang/invoke/MethodHandle" ∧ y_RL_become.cls ≠ "java/lang/invoke/VarHandle" ∧ (parseMethodDescriptor y_RL_become.desc).map (fun d => d.parameters.length) = some 2 := by decide +kernel
abbrev pr_RL_becomeN (n : Nat) : List Value → Mm → Prop := preV 4 (fun k => a_RI (fun x0 x1 μ => FMn n μ ∧ (x0 = 98 ∧ ∃ i g, i < 14 ∧ k = 12 + 6 * i ∧ 1 ≤ g ∧ g ≤ 4 ∧ x1 = nI g ∧ (∀ j, j < 4 → (μ.2.1 (99 + j) 3 = 0 ∨ μ.2.1 (99 + j) 3 = 1)))))
abbrev po_RL_becomeN (n : Nat) : List Value → Mm → Option Value → Mm → Prop := qV (fun k => b_RI (fun x0 x1 μ r μ' => ∀ i g, k = 12 + 6 * i → g ≤ 4 → x1 = nI g → r = none ∧ μ' = (μ.1, bcm μ.2.1 i g, μ.2.2.1, TT)))
theorem ft_RL_becomeN (n : Nat) : ∀ as μ, pr_RL_becomeN n as μ → μ.1 + 0 ≤ n ∧ cz μ.1 + 0 ≤ cz n := hf_S (n := n) (Nat.le_refl _) (fun as μ h => by
  obtain ⟨k, r, rfl, hk, h⟩ := preV_e h
  obtain ⟨x0, x1, rfl, h⟩ := a_RI_e h
  exact h.1.1)
def C_RL_becomeN (n : Nat) : Cf := fun id => match id with
  | 0 => trF (1 + 1) (pr_LI_copyOfN n) (po_LI_copyOfN n)
  | 1 => trF (3 + 1) (pr_RL_addToBodyN n) (po_RL_addToBodyN n)
  | _ => fun _ _ _ => False
set_option maxRecDepth 100000 in
theorem cs_RL_becomeN (n : Nat) (hn : 103 ≤ n ∧ n ≤ 900) (l : Launch) : ∀ x ∈ k_RL_become, CS l R_RL b_RL_become 3 (rmm 3 0 0) n n (C_RL_becomeN n) x := fc (CS.no rfl) (fc (CS.no rfl) (fc (CS.no rfl) (fc (CS.no rfl) (fc (CS.no rfl) (fc (CS.V (c_LI_copyOfN n hn) wk_LI_copyOf wl_RL_22 wm_LI_copyOf we_LI_copyOf rfl rfl wi_LI dn_LI_copyOf ⟨rfl, rfl⟩ ⟨by decide, by decide⟩ (ft_LI_copyOfN n) rfl (e_RL_become_7).1) (fc (CS.no rfl) (fc (CS.no rfl) (fc (CS.no rfl) (fc (CS.no rfl) (fc (CS.no rfl) (fc (CS.no rfl) (fc (CS.no rfl) (fc (CS.no rfl) (fc (CS.no rfl) (fc (CS.no rfl) (fc (CS.V (c_RL_addToBodyN n hn) wk_RL_addToBody wl_RL_33 wm_RL_addToBody we_RL_addToBody rfl rfl wi_RL dn_RL_addToBody ⟨rfl, rfl⟩ ⟨by decide, by decide⟩ (ft_RL_addToBodyN n) rfl (e_RL_become_24).1) (fc (CS.no rfl) (fc (CS.no rfl) (fc (CS.no rfl) (fc (CS.no rfl) (fc (CS.V (c_RL_addToBodyN n hn) wk_RL_addToBody wl_RL_33 wm_RL_addToBody we_RL_addToBody rfl rfl wi_RL dn_RL_addToBody ⟨rfl, rfl⟩ ⟨by decide, by decide⟩ (ft_RL_addToBodyN n) rfl (e_RL_become_31).1) (fc (CS.no rfl) (fc (CS.no rfl) (fc (CS.no rfl) (fc (CS.no rfl) (fun _ h => absurd h List.not_mem_nil))))))))))))))))))))))))))
set_option maxRecDepth 100000 in
set_option maxHeartbeats 4000000 in
theorem c_RL_becomeN (n : Nat) (hn : 103 ≤ n ∧ n ≤ 900) : Cn y_RL_become b_RL_become 3 none (rmm 3 0 0) (2 + 1) 0 0 (pr_RL_becomeN n) (po_RL_becomeN n) := cv_RI (ci := 4) (f := fun k => fun x0 x1 μ => FMn n μ ∧ (x0 = 98 ∧ ∃ i g, i < 14 ∧ k = 12 + 6 * i ∧ 1 ≤ g ∧ g ≤ 4 ∧ x1 = nI g ∧ (∀ j, j < 4 → (μ.2.1 (99 + j) 3 = 0 ∨ μ.2.1 (99 + j) 3 = 1)))) (g := fun k => fun x0 x1 μ r μ' => ∀ i g, k = 12 + 6 * i → g ≤ 4 → x1 = nI g → r = none ∧ μ' = (μ.1, bcm μ.2.1 i g, μ.2.2.1, TT)) fun l k x0 x1 μ hk h => by
  obtain ⟨hm, h⟩ := h
  obtain ⟨M, L, rfl⟩ := hm.e
  refine ky_met (own := R_RL) (ini := 0) (rb := 3) (nE := n) (cd := k_RL_become) (C := (C_RL_becomeN n)) (by decide) rfl (fun h => by cases h) (Nat.le_of_ble_eq_true rfl) ⟨rfl, rfl⟩ (Or.inr (Or.inr (Or.inr ⟨rfl, rfl⟩))) rfl rfl hn.2 ok_RL_become (cs_RL_becomeN n hn l) rt_RL_become (fun K hs => ?_)
  obtain ⟨rfl, i, g, hi, rfl, hg1, hg4, rfl, h01⟩ := h
  have h01 : ∀ j, j < 4 → (M (99 + j) 3 = 0 ∨ M (99 + j) 3 = 1) := h01
  have post : ∀ (r : Option Value) (μ' : Mm), r = none → μ' = (n, bcm M i g, L, TT) → ∀ i' g', 12 + 6 * i = 12 + 6 * i' → g' ≤ 4 → nI g = nI g' → r = none ∧ μ' = (n, bcm M i' g', L, TT) := by
    intro r μ' h1 h2 i' g' hi' hg' hgg
    have e1 : i' = i := by omega
    have e2 : g = g' := (nI_eq (a := g) (b := g') (by omega) (by omega)).mp hgg
    subst e1; subst e2
    exact ⟨h1, h2⟩
  have hiR : ∀ P : mM, isO (n, P, L, TT) (12 + 6 * i) 4 = true := fun P => ioN hn.1 (kcR i hi)
  have hI1 : abI (up2 (up2 (cpy M (13 + 6 * i) 99) (12 + 6 * i) 2 0) (12 + 6 * i) 3 0) i := by
    refine ⟨⟨0, by decide, ?_⟩, fun j hj => ?_⟩
    · rw [up2_j (by decide), up2_s]; rfl
    · rw [up2_k (by omega), up2_k (by omega), cpy_k (by omega)]
      exact h01 j hj
  refine hs.go [] 60 _ _ _ _ ⟨hiR _, _, TTh i hi, iaNq (t := 3) (iaN hn.1 rfl) (Or.inl rfl), vp_in_nI (n := 0) (by decide) (by decide), 99, rfl, ⟨ioN hn.1 (kcH i hi), ⟨rfl, rfl⟩, ioN hn.1 rfl, h01 0 (by decide)⟩, rfl, rfl, ?_⟩
  rintro _ _ ⟨rfl, rfl⟩
  refine ⟨hiR _, hiR _, ⟨hiR _, ⟨rfl, rfl⟩, rfl, Or.inl rfl, i, g, hi, rfl, hg1, hg4, rfl, hI1⟩, rfl, rfl, ?_⟩
  intro r μ' hp
  obtain ⟨h1, h2⟩ := hp i g rfl hg4 rfl
  rw [h1, h2]
  refine ⟨⟨hiR _, ⟨rfl, rfl⟩, rfl, Or.inr rfl, i, g, hi, rfl, hg1, hg4, rfl, atb_I hi _ _ _ hI1⟩, rfl, rfl, ?_⟩
  intro r μ' hp
  obtain ⟨h1, h2⟩ := hp i g rfl hg4 rfl
  rw [h1, h2]
  exact ⟨hiR _, Or.inr rfl, rfl, post _ _ rfl rfl⟩

abbrev pr_RL_become : List Value → Mm → Prop := pr_RL_becomeN 131
abbrev po_RL_become : List Value → Mm → Option Value → Mm → Prop := po_RL_becomeN 131
theorem c_RL_become : Cn y_RL_become b_RL_become 3 none (rmm 3 0 0) (2 + 1) 0 0 pr_RL_become po_RL_become := c_RL_becomeN 131 (by decide)
theorem ft_RL_become : ∀ as μ, pr_RL_become as μ → μ.1 + 0 ≤ 131 ∧ cz μ.1 + 0 ≤ cz 131 := ft_RL_becomeN 131
def msafe (M : mM) : Prop := (sfN M ((M 10 4).toNatClampNeg - 1) &&& (sfB M ((M 10 4).toNatClampNeg - 1) ^^^ (-1))) = 0
theorem fnr_lt {M : mM} : ∀ (n i : Nat), i + n ≤ 14 → fnr M n i = -1 ∨ ∃ j, i ≤ j ∧ j < 14 ∧ fnr M n i = nI j ∧ M (12 + 6 * j) 4 = 0
  | 0, _, _ => Or.inl rfl
  | n + 1, i, h => by
    simp only [fnr]
    split
    · rename_i hb
      exact Or.inr ⟨i, Nat.le_refl _, by omega, rfl, hb⟩
    · rcases fnr_lt n (i + 1) (by omega) with h1 | ⟨j, a, b, c, d⟩
      · exact Or.inl h1
      · exact Or.inr ⟨j, by omega, b, c, d⟩

theorem dn_RB_makeRule : y_RB_makeRule.cls ≠ "java/lang/invoke/MethodHandle" ∧ y_RB_makeRule.cls ≠ "java/lang/invoke/VarHandle" ∧ (parseMethodDescriptor y_RB_makeRule.desc).map (fun d => d.parameters.length) = some 0 := by decide +kernel
abbrev pr_RB_makeRule : List Value → Mm → Prop := preV 3 (fun k => a_0 (fun μ => FM μ ∧ (k = 10 ∧ WM μ.2.1)))
abbrev po_RB_makeRule : List Value → Mm → Option Value → Mm → Prop := qV (fun k => b_0 (fun μ r μ' => ((μ.2.1 10 4 = 0 ∨ fnr μ.2.1 8 6 = -1) → r = some (.int (-1)) ∧ μ' = μ) ∧ (¬ (μ.2.1 10 4 = 0 ∨ fnr μ.2.1 8 6 = -1) → (¬ msafe μ.2.1 → r = some (.int (-2)) ∧ μ' = μ) ∧ (msafe μ.2.1 → ∀ M1, M1 = bcm μ.2.1 (fnr μ.2.1 8 6).toNatClampNeg (μ.2.1 10 4).toNatClampNeg → (∀ t, sty M1 14 (z14 (M1 97)) = some t → r = some (.int (fnr μ.2.1 8 6)) ∧ μ' = (131, upr (upr M1 97 t) 96 t, μ.2.2.1, TT)) ∧ (sty M1 14 (z14 (M1 97)) = none → r = some (.int (-3)) ∧ ∃ t, μ' = (131, up2 (upr M1 97 t) (12 + 6 * (fnr μ.2.1 8 6).toNatClampNeg) 4 0, μ.2.2.1, TT))))))
theorem ft_RB_makeRule : ∀ as μ, pr_RB_makeRule as μ → μ.1 + 0 ≤ 131 ∧ cz μ.1 + 0 ≤ cz 131 := hf_S (n := 131) (Nat.le_refl _) (fun as μ h => by
  obtain ⟨k, r, rfl, hk, h⟩ := preV_e h
  obtain ⟨rfl, h⟩ := a_0_e h
  exact h.1.1)
def C_RB_makeRule : Cf := fun id => match id with
  | 0 => trF (0 + 1) pr_RB_freeNumber po_RB_freeNumber
  | 1 => trF (0 + 1) pr_RB_givenIsSafe po_RB_givenIsSafe
  | 2 => trF (2 + 1) pr_RL_become po_RL_become
  | 3 => trF (0 + 1) pr_RB_stratify po_RB_stratify
  | 4 => trF (1 + 1) pr_RB_remove po_RB_remove
  | _ => fun _ _ _ => False
set_option maxRecDepth 100000 in
theorem cs_RB_makeRule (l : Launch) : ∀ x ∈ k_RB_makeRule, CS l R_RB b_RB_makeRule 2 (rmm 4 0 0) 131 131 C_RB_makeRule x := fc (CS.no rfl) (fc (CS.V c_RB_freeNumber wk_RB_freeNumber wl_RB_52 wm_RB_freeNumber we_RB_freeNumber rfl rfl wi_RB dn_RB_freeNumber ⟨rfl, rfl⟩ ⟨by decide, by decide⟩ ft_RB_freeNumber rfl (e_RB_makeRule_1).1) (fc (CS.no rfl) (fc (CS.no rfl) (fc (CS.no rfl) (fc (CS.no rfl) (fc (CS.no rfl) (fc (CS.no rfl) (fc (CS.no rfl) (fc (CS.no rfl) (fc (CS.no rfl) (fc (CS.no rfl) (fc (CS.V c_RB_givenIsSafe wk_RB_givenIsSafe wl_RB_56 wm_RB_givenIsSafe we_RB_givenIsSafe rfl rfl wi_RB dn_RB_givenIsSafe ⟨rfl, rfl⟩ ⟨by decide, by decide⟩ ft_RB_givenIsSafe rfl (e_RB_makeRule_20).1) (fc (CS.no rfl) (fc (CS.no rfl) (fc (CS.no rfl) (fc (CS.no rfl) (fc (CS.no rfl) (fc (CS.no rfl) (fc (CS.no rfl) (fc (CS.no rfl) (fc (CS.no rfl) (fc (CS.no rfl) (fc (CS.no rfl) (fc (CS.V c_RL_become wk_RL_become wl_RB_43 wm_RL_become we_RL_become rfl rfl wi_RL dn_RL_become ⟨rfl, rfl⟩ ⟨by decide, by decide⟩ ft_RL_become rfl (e_RB_makeRule_43).1) (fc (CS.no rfl) (fc (CS.V c_RB_stratify wk_RB_stratify wl_RB_60 wm_RB_stratify we_RB_stratify rfl rfl wi_RB dn_RB_stratify ⟨rfl, rfl⟩ ⟨by decide, by decide⟩ ft_RB_stratify rfl (e_RB_makeRule_47).1) (fc (CS.no rfl) (fc (CS.no rfl) (fc (CS.no rfl) (fc (CS.V c_RB_remove wk_RB_remove wl_RB_63 wm_RB_remove we_RB_remove rfl rfl wi_RB dn_RB_remove ⟨rfl, rfl⟩ ⟨by decide, by decide⟩ ft_RB_remove rfl (e_RB_makeRule_55).1) (fc (CS.no rfl) (fc (CS.no rfl) (fc (CS.no rfl) (fc (CS.no rfl) (fun _ h => absurd h List.not_mem_nil)))))))))))))))))))))))))))))))))))
set_option maxRecDepth 100000 in
set_option maxHeartbeats 4000000 in
theorem c_RB_makeRule : Cn y_RB_makeRule b_RB_makeRule 2 (some .int) (rmm 4 0 0) (0 + 1) 0 0 pr_RB_makeRule po_RB_makeRule := cv_0 (ci := 3) (f := fun k => fun μ => FM μ ∧ (k = 10 ∧ WM μ.2.1)) (g := fun k => fun μ r μ' => ((μ.2.1 10 4 = 0 ∨ fnr μ.2.1 8 6 = -1) → r = some (.int (-1)) ∧ μ' = μ) ∧ (¬ (μ.2.1 10 4 = 0 ∨ fnr μ.2.1 8 6 = -1) → (¬ msafe μ.2.1 → r = some (.int (-2)) ∧ μ' = μ) ∧ (msafe μ.2.1 → ∀ M1, M1 = bcm μ.2.1 (fnr μ.2.1 8 6).toNatClampNeg (μ.2.1 10 4).toNatClampNeg → (∀ t, sty M1 14 (z14 (M1 97)) = some t → r = some (.int (fnr μ.2.1 8 6)) ∧ μ' = (131, upr (upr M1 97 t) 96 t, μ.2.2.1, TT)) ∧ (sty M1 14 (z14 (M1 97)) = none → r = some (.int (-3)) ∧ ∃ t, μ' = (131, up2 (upr M1 97 t) (12 + 6 * (fnr μ.2.1 8 6).toNatClampNeg) 4 0, μ.2.2.1, TT))))) fun l k  μ hk h => by
  obtain ⟨hm, h⟩ := h
  obtain ⟨M, L, rfl⟩ := hm.e
  refine ky_met (own := R_RB) (ini := 0) (rb := 0) (nE := 131) (cd := k_RB_makeRule) (C := C_RB_makeRule) (by decide) rfl (fun h => by cases h) (Nat.le_of_ble_eq_true rfl) ⟨rfl, rfl⟩ (Or.inl ⟨rfl, rfl⟩) rfl rfl (by decide) ok_RB_makeRule (cs_RB_makeRule l) rt_RB_makeRule (fun K hs => ?_)
  obtain ⟨rfl, hw⟩ := h
  have hw : WM M := hw
  obtain ⟨g, hg, hge⟩ := hw.2.2
  have hgcl : (M 10 4).toNatClampNeg = g := by rw [hge]; exact nI_clamp (n := g) (by omega)
  refine hs.go [] 60 _ _ _ _ ⟨⟨rfl, ⟨rfl, rfl⟩, rfl⟩, rfl, rfl, ?_⟩
  rintro _ _ ⟨rfl, rfl⟩
  refine ⟨rfl, fun h0 => ⟨rfl, fun z => (by cases z), fun _ => ⟨rfl, rfl⟩, fun z => absurd (Or.inl h0) z⟩, fun h0 => ⟨fun h1 => ?_, fun h1 => ⟨rfl, fun z => (by cases z), fun _ => ⟨rfl, rfl⟩, fun z => absurd (Or.inr h1) z⟩⟩⟩
  have h0 : ¬ M 10 4 = 0 := h0
  have h1 : ¬ fnr M 8 6 = -1 := h1
  have hno : ¬ (M 10 4 = 0 ∨ fnr M 8 6 = -1) := fun z => z.elim h0 h1
  have hg1 : 1 ≤ g := by
    rcases Nat.lt_or_ge 0 g with z | z
    · exact z
    · exfalso
      apply h0
      rw [hge, show g = 0 by omega]
      rfl
  obtain ⟨j, hj6, hj, hje, hj0⟩ := (fnr_lt (M := M) 8 6 (by decide)).resolve_left h1
  have hjcl : (fnr M 8 6).toNatClampNeg = j := by rw [hje]; exact nI_clamp (n := j) (by omega)
  have hjin : vp_in (fnr M 8 6) 14 := by rw [hje]; exact vp_in_nI hj (by decide)
  refine ⟨⟨rfl, ⟨rfl, rfl⟩, rfl, hw, h0⟩, rfl, rfl, ?_⟩
  rintro _ _ ⟨rfl, rfl⟩
  by_cases hsf : msafe M
  · rw [show b2 ((sfN M ((M 10 4).toNatClampNeg - 1) &&& (sfB M ((M 10 4).toNatClampNeg - 1) ^^^ (-1))) = 0) = 1 from b2_t hsf]
    have hQ : WQ M := ⟨hw.1, hw.2.1⟩
    have hQ1 : WQ (bcm M j g) := WQ_bcm hQ hj hg1 hg
    refine ⟨fun _ => ⟨rfl, _, rfl, rfl, hjin, 12 + 6 * j, by show TT 11 _ = _; rw [hjcl]; rfl, rfl, _, rfl, rfl, ⟨ioR hj, ⟨rfl, rfl⟩, rfl, j, g, hj, rfl, hg1, hg, hge, fun a ha => (hw.2.1 a ha).2.2.2⟩, rfl, rfl, ?_⟩, fun z => absurd z (by decide)⟩
    intro r μ' hp
    obtain ⟨e1, e2⟩ := hp j g rfl hg hge
    rw [e1, e2]
    refine ⟨⟨rfl, ⟨rfl, rfl⟩, rfl, hQ1.1⟩, rfl, rfl, ?_⟩
    intro r μ' hp2
    have hp2 : (∀ t, sty (bcm M j g) 14 (z14 (bcm M j g 97)) = some t → r = some (.int 1) ∧ μ' = (131, upr (upr (bcm M j g) 97 t) 96 t, L, TT)) ∧ (sty (bcm M j g) 14 (z14 (bcm M j g 97)) = none → r = some (.int 0) ∧ ∃ t, μ' = (131, upr (bcm M j g) 97 t, L, TT)) := hp2
    cases hst : sty (bcm M j g) 14 (z14 (bcm M j g 97)) with
    | some t =>
      obtain ⟨f1, f2⟩ := hp2.1 t hst
      rw [f1, f2]
      refine ⟨fun _ => ⟨rfl, fun z => (by cases z), fun z => absurd z hno, fun _ => ⟨fun z => absurd hsf z, fun _ M1 hM1 => ?_⟩⟩, fun z => absurd z (by decide)⟩
      have hM1 : M1 = bcm M (fnr M 8 6).toNatClampNeg (M 10 4).toNatClampNeg := hM1
      rw [hjcl, hgcl] at hM1
      subst hM1
      refine ⟨fun t' ht' => ?_, fun z => absurd (hst.symm.trans z) (by simp)⟩
      have : t = t' := Option.some.inj (hst.symm.trans ht')
      subst this
      exact ⟨rfl, rfl⟩
    | none =>
      obtain ⟨f1, t, f2⟩ := hp2.2 hst
      rw [f1, f2]
      refine ⟨fun z => absurd rfl z, fun _ => ⟨⟨rfl, ⟨rfl, rfl⟩, rfl, hjin⟩, rfl, rfl, ?_⟩⟩
      rintro _ _ ⟨rfl, rfl⟩
      refine ⟨rfl, fun z => (by cases z), fun z => absurd z hno, fun _ => ⟨fun z => absurd hsf z, fun _ M1 hM1 => ?_⟩⟩
      have hM1 : M1 = bcm M (fnr M 8 6).toNatClampNeg (M 10 4).toNatClampNeg := hM1
      rw [hjcl, hgcl] at hM1
      subst hM1
      exact ⟨fun t' ht' => absurd (hst.symm.trans ht') (by simp), fun _ => ⟨rfl, t, rfl⟩⟩
  · rw [show b2 ((sfN M ((M 10 4).toNatClampNeg - 1) &&& (sfB M ((M 10 4).toNatClampNeg - 1) ^^^ (-1))) = 0) = 0 from b2_f hsf]
    exact ⟨fun z => absurd rfl z, fun _ => ⟨rfl, fun z => (by cases z), fun z => absurd z hno, fun _ => ⟨fun _ => ⟨rfl, rfl⟩, fun z => absurd z hsf⟩⟩⟩
