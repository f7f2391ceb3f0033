theorem dn_PF_init : y_PF_init.cls ≠ "java/lang/invoke/MethodHandle" ∧ y_PF_init.cls ≠ "java/lang/invoke/VarHandle" ∧ (parseMethodDescriptor y_PF_init.desc).map (fun d => d.parameters.length) = some 0 := by decide +kernel
/-- the class's cells as its constructor leaves them -/
def pf1 (M : mM) : mM := upr (upr (upr (upr (upr M 1 (fun _ => 0)) 2 (fun _ => 0)) 3 (fun _ => 0)) 4 (fun _ => 0)) 2 (fun j => if j < 12 then -1 else 0)
def pf2 (M : mM) : mM := upr (up2 (upr (upr (upr (upr (upr M 5 (fun _ => 0)) 6 (fun _ => 0)) 7 (fun _ => 0)) 8 (fun _ => 0)) 9 (fun _ => 0)) 5 4 9) 6 (fun j => if j < 14 then 2 else 0)
def pf3 (M : mM) : mM := zr 0 (upr M 10 (fun _ => 0)) 11 92
def pf4 (M : mM) : mM := upr (upr M 103 (fun _ => 0)) 104 (rlv4 (ivl 6) 14)
def pf5 (M : mM) : mM := upr (upr (upr (upr (upr M 105 (fun _ => 0)) 106 (fun _ => 0)) 107 (fun _ => 0)) 108 (fun _ => 0)) 106 (fun j => if j < 6 then -1 else 0)
def pfM (M : mM) : mM := up2 (pf5 (pf4 (lrn 6 0 (pf3 (pf2 (pf1 M)))))) 0 5 0
def pl3 (L : mL) : mL := zr 0 (upr (upr (upr (upr (upr (upr (upr (upr (upr (upr L 1 (fun _ => 0)) 2 (fun _ => 0)) 3 (fun _ => 0)) 4 (fun _ => 0)) 5 (fun _ => 0)) 6 (fun _ => 0)) 7 (fun _ => 0)) 8 (fun _ => 0)) 9 (fun _ => 0)) 10 (fun _ => 0)) 11 92
def pfL (L : mL) : mL := upr (upr (upr (upr (upr (upr (pl3 L) 103 (fun _ => 0)) 104 (fun _ => 0)) 105 (fun _ => 0)) 106 (fun _ => 0)) 107 (fun _ => 0)) 108 (fun _ => 0)
theorem nT_k {T : mT} {a k : Nat} (h : k ≠ a) : nT T a k = T k := upr_k h
def T10 : mT := fun _ j => if j = 0 then some 1 else if j = 1 then some 5 else if j = 2 then some 10 else none
theorem lb3 (M : mM) : lbI (pf3 M) 0 := by
  refine ⟨?_, fun j hj => Or.inl ?_⟩
  · unfold pf3 zr
    rw [if_neg (by omega), upr_s]; rfl
  · unfold pf3 zr
    rw [if_pos (by omega)]
abbrev f_PFi (k : Nat) : Mm → Prop := fun μ => k = 0 ∧ ∃ M L T, μ = (1, M, L, nT T 0)
abbrev g_PFi (k : Nat) : Mm → Option Value → Mm → Prop := fun μ r μ' => r = none ∧ μ' = (109, pfM μ.2.1, pfL μ.2.2.1, TT)
abbrev pr_PF_init : List Value → Mm → Prop := preV 0 (fun k => a_0 (f_PFi k))
abbrev po_PF_init : List Value → Mm → Option Value → Mm → Prop := qV (fun k => b_0 (g_PFi k))

theorem ft_PF_init (N : Nat) (hN : 109 ≤ N) : ∀ as μ, pr_PF_init as μ → μ.1 + 108 ≤ N ∧ cz μ.1 + 589 ≤ cz N := by
  intro as μ h
  obtain ⟨k, r, rfl, hk, h⟩ := preV_e h
  obtain ⟨rfl, h⟩ := a_0_e h
  obtain ⟨rfl, M, L, T, rfl⟩ := h
  exact ⟨Nat.le_trans (Nat.le_of_ble_eq_true rfl) hN, Nat.le_trans (show cz 1 + 589 ≤ cz 109 from Nat.le_of_ble_eq_true rfl) (cz_mono hN)⟩
def C_PF_init : Cf := fun id => match id with
  | 0 => trO
  | 1 => trF (0 + 1) pr_PG_init po_PG_init
  | 2 => trF (0 + 1) pr_RS_init po_RS_init
  | 3 => trF (0 + 1) pr_RB_init po_RB_init
  | 4 => trF (0 + 1) pr_RB_readLibrary po_RB_readLibrary
  | 5 => trF (0 + 1) pr_DV_init po_DV_init
  | 6 => trF (0 + 1) pr_RN_init po_RN_init
  | _ => fun _ _ _ => False
set_option maxRecDepth 100000 in
theorem cs_PF_init (l : Launch) : ∀ x ∈ k_PF_init, CS l R_PF b_PF_init 1 (rmm 5 108 589) 1 109 C_PF_init x := fc (CS.no rfl) (fc (CS.O wl_PF_3 ⟨by decide, by decide⟩ rfl (e_PF_init_1).1) (fc (CS.no rfl) (fc (CS.no rfl) (fc (CS.no rfl) (fc (CS.I c_PG_init wk_PG_init wl_PF_11 wm_PG_init rfl rfl wi_PG dn_PG_init ⟨rfl, rfl⟩ ⟨by decide, by decide⟩ (fun as μ h => ⟨Nat.le_trans (ft_PG_init as μ h).1 (by decide), Nat.le_trans (ft_PG_init as μ h).2 (cz_mono (by decide))⟩) rfl (e_PF_init_9).1) (fc (CS.no rfl) (fc (CS.no rfl) (fc (CS.no rfl) (fc (CS.no rfl) (fc (CS.I c_RS_init wk_RS_init wl_PF_18 wm_RS_init rfl rfl wi_RS dn_RS_init ⟨rfl, rfl⟩ ⟨by decide, by decide⟩ (fun as μ h => ⟨Nat.le_trans (ft_RS_init as μ h).1 (by decide), Nat.le_trans (ft_RS_init as μ h).2 (cz_mono (by decide))⟩) rfl (e_PF_init_20).1) (fc (CS.no rfl) (fc (CS.no rfl) (fc (CS.no rfl) (fc (CS.no rfl) (fc (CS.I c_RB_init wk_RB_init wl_PF_25 wm_RB_init rfl rfl wi_RB dn_RB_init ⟨rfl, rfl⟩ ⟨by decide, by decide⟩ (fun as μ h => ⟨Nat.le_trans (ft_RB_init as μ h).1 (by decide), Nat.le_trans (ft_RB_init as μ h).2 (cz_mono (by decide))⟩) rfl (e_PF_init_31).1) (fc (CS.no rfl) (fc (CS.no rfl) (fc (CS.no rfl) (fc (CS.V c_RB_readLibrary wk_RB_readLibrary wl_PF_30 wm_RB_readLibrary we_RB_readLibrary rfl rfl wi_RB dn_RB_readLibrary ⟨rfl, rfl⟩ ⟨by decide, by decide⟩ (fun as μ h => ⟨Nat.le_trans (ft_RB_readLibrary as μ h).1 (by decide), Nat.le_trans (ft_RB_readLibrary as μ h).2 (cz_mono (by decide))⟩) rfl (e_PF_init_41).1) (fc (CS.no rfl) (fc (CS.no rfl) (fc (CS.no rfl) (fc (CS.I c_DV_init wk_DV_init wl_PF_35 wm_DV_init rfl rfl wi_DV dn_DV_init ⟨rfl, rfl⟩ ⟨by decide, by decide⟩ (fun as μ h => ⟨Nat.le_trans (ft_DV_init as μ h).1 (by decide), Nat.le_trans (ft_DV_init as μ h).2 (cz_mono (by decide))⟩) rfl (e_PF_init_49).1) (fc (CS.no rfl) (fc (CS.no rfl) (fc (CS.no rfl) (fc (CS.no rfl) (fc (CS.I c_RN_init wk_RN_init wl_PF_42 wm_RN_init rfl rfl wi_RN dn_RN_init ⟨rfl, rfl⟩ ⟨by decide, by decide⟩ (fun as μ h => ⟨Nat.le_trans (ft_RN_init as μ h).1 (by decide), Nat.le_trans (ft_RN_init as μ h).2 (cz_mono (by decide))⟩) rfl (e_PF_init_60).1) (fc (CS.no rfl) (fc (CS.no rfl) (fc (CS.no rfl) (fc (CS.no rfl) (fc (CS.no rfl) (fun _ h => absurd h List.not_mem_nil))))))))))))))))))))))))))))))))))
set_option maxRecDepth 100000 in
set_option maxHeartbeats 4000000 in
theorem c_PF_init : Cn y_PF_init b_PF_init 1 none (rmm 5 108 589) (0 + 1) 108 589 pr_PF_init po_PF_init := cv_0 (ci := 0) (f := f_PFi) (g := g_PFi) fun l k μ hk h => by
  obtain ⟨rfl, M, L, T, rfl⟩ := h
  refine ky_metC (own := R_PF) (ini := 1) (rb := 3) (nE := 109) (cd := k_PF_init) (C := C_PF_init) (by decide) rfl (fun _ => rfl) (Nat.le_of_ble_eq_true rfl) ⟨rfl, rfl⟩ (Or.inr (Or.inr (Or.inr ⟨rfl, rfl⟩))) rfl rfl (by decide) ok_PF_init (cs_PF_init l) rt_PF_init (fun K hs hcv => ?_)
  have h9 : K 71 [some (.ref 0)] [] (109, pfM M, pfL L, TT) := hs.go [] 5 _ _ _ _ ⟨rfl, rfl, rfl⟩
  refine hs.go [37] 60 _ _ _ _ ⟨rfl, Nat.le_of_ble_eq_true rfl, rfl, ⟨rfl, rfl, _, _, _, rfl⟩, rfl, rfl, ?_⟩
  rintro _ _ ⟨rfl, rfl⟩
  refine ⟨rfl, Nat.le_of_ble_eq_true rfl, rfl, ⟨rfl, rfl, _, _, _, rfl⟩, rfl, rfl, ?_⟩
  rintro _ _ ⟨rfl, rfl⟩
  refine ⟨rfl, Nat.le_of_ble_eq_true rfl, rfl, ⟨rfl, rfl, _, _, _, rfl⟩, rfl, rfl, ?_⟩
  rintro _ _ ⟨rfl, rfl⟩
  refine ⟨rfl, ?_⟩
  refine hcv 37 _ _ 103 _ (pf3 (pf2 (pf1 M))) _ (pl3 L) _ (mx T10 1) (fun k hk => ⟨rfl, rfl, fun j hj => ?_⟩) ?_
  · show mx T10 1 k j = up2 (mx (nT (up2 (mx (nT (up2 (mx (nT (nT T 0) 1) 1) 0 0 (some 1)) 5) 5) 0 1 (some 5)) 10) 10) 0 2 (some 10) k j
    by_cases h0 : k = 0
    · subst h0
      have hj : j < 6 := hj
      rcases (show j = 0 ∨ j = 1 ∨ j = 2 ∨ j = 3 ∨ j = 4 ∨ j = 5 by omega) with rfl | rfl | rfl | rfl | rfl | rfl <;> rfl
    · rw [mx1 (by omega), up2_k h0]
      by_cases h1 : k < 10
      · refine Eq.trans ?_ (if_pos h1).symm
        rw [nT_k (by omega), up2_k h0]
        by_cases h2 : k < 5
        · refine Eq.trans ?_ (if_pos h2).symm
          rw [nT_k (by omega), up2_k h0, mx1 (by omega)]
        · exact (if_neg h2).symm
      · exact (if_neg h1).symm
  refine hs.go [71] 60 _ _ _ _ ⟨rfl, _, rfl, ⟨rfl, ⟨rfl, _, rfl⟩, rfl, lb3 _⟩, rfl, rfl, ?_⟩
  rintro _ _ ⟨rfl, rfl⟩
  refine ⟨Nat.le_of_ble_eq_true rfl, rfl, ⟨rfl, rfl, _, _, _, rfl⟩, rfl, rfl, ?_⟩
  rintro _ _ ⟨rfl, rfl⟩
  refine ⟨rfl, Nat.le_of_ble_eq_true rfl, rfl, ⟨rfl, rfl, _, _, _, rfl⟩, rfl, rfl, ?_⟩
  rintro _ _ ⟨rfl, rfl⟩
  refine ⟨rfl, rfl, ?_⟩
  refine hcv 71 _ _ 109 _ (pfM M) _ (pfL L) _ TT (fun k hk => ⟨rfl, rfl, fun j hj => ?_⟩) h9
  show TT k j = up2 (mx (nT (up2 (mx (nT (mx T10 1) 103) 103) 0 3 (some 103)) 105) 105) 0 4 (some 105) k j
  by_cases h0 : k = 0
  · subst h0
    have hj : j < 6 := hj
    rcases (show j = 0 ∨ j = 1 ∨ j = 2 ∨ j = 3 ∨ j = 4 ∨ j = 5 by omega) with rfl | rfl | rfl | rfl | rfl | rfl <;> rfl
  · rw [up2_k h0]
    by_cases h1 : k < 105
    · refine Eq.trans ?_ (if_pos h1).symm
      rw [nT_k (by omega), up2_k h0]
      by_cases h2 : k < 103
      · refine Eq.trans ?_ (if_pos h2).symm
        rw [nT_k (by omega), mx1 (by omega)]
      · exact (if_neg h2).symm
    · exact (if_neg h1).symm
