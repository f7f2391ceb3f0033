theorem dn_PM_init : y_PM_init.cls ≠ "java/lang/invoke/MethodHandle" ∧ y_PM_init.cls ≠ "java/lang/invoke/VarHandle" ∧ (parseMethodDescriptor y_PM_init.desc).map (fun d => d.parameters.length) = some 0 := by decide +kernel
/-- the memory when the reference's constructor begins -/
def MZ : mM := upr (pfM (upr (fun _ _ => 0) 0 (fun _ => 0))) 109 (fun _ => 0)
def LZ : mL := upr (pfL (upr (fun _ _ => 0) 0 (fun _ => 0))) 109 (fun _ => 0)
def pA5 : mM := upr (upr (upr (upr (upr (up2 MZ 109 0 9) 110 (fun _ => 0)) 111 (fun _ => 0)) 112 (fun _ => 0)) 113 (fun _ => 0)) 114 (fun _ => 0)
def LI5 : mL := upr (upr (upr (upr (upr (LZ) 110 (fun _ => 0)) 111 (fun _ => 0)) 112 (fun _ => 0)) 113 (fun _ => 0)) 114 (fun _ => 0)
def tA5 : mT := up2 (upr (up2 (upr (up2 (upr (up2 (upr (up2 (upr (nT TT 109) 110 (fun _ => none)) 109 1 (some 110)) 111 (fun _ => none)) 109 2 (some 111)) 112 (fun _ => none)) 109 3 (some 112)) 113 (fun _ => none)) 109 4 (some 113)) 114 (fun _ => none)) 109 5 (some 114)
def pA10 : mM := upr (upr (upr (upr (upr (pA5) 115 (fun _ => 0)) 116 (fun _ => 0)) 117 (fun _ => 0)) 118 (fun _ => 0)) 119 (fun _ => 0)
def LI10 : mL := upr (upr (upr (upr (upr (LI5) 115 (fun _ => 0)) 116 (fun _ => 0)) 117 (fun _ => 0)) 118 (fun _ => 0)) 119 (fun _ => 0)
def tA10 : mT := up2 (upr (up2 (upr (up2 (upr (up2 (upr (up2 (upr (tA5) 115 (fun _ => none)) 109 6 (some 115)) 116 (fun _ => none)) 109 9 (some 116)) 117 (fun _ => none)) 109 10 (some 117)) 118 (fun _ => none)) 109 11 (some 118)) 119 (fun _ => none)) 109 12 (some 119)
def pA15 : mM := upr (upr (upr (upr (upr (pA10) 120 (fun _ => 0)) 121 (fun _ => 0)) 122 (fun _ => 0)) 123 (fun _ => 0)) 124 (fun _ => 0)
def LI15 : mL := upr (upr (upr (upr (upr (LI10) 120 (fun _ => 0)) 121 (fun _ => 0)) 122 (fun _ => 0)) 123 (fun _ => 0)) 124 (fun _ => 0)
def tA15 : mT := up2 (upr (up2 (upr (up2 (upr (up2 (upr (up2 (upr (tA10) 120 (fun _ => none)) 109 13 (some 120)) 121 (fun _ => none)) 109 14 (some 121)) 122 (fun _ => none)) 109 15 (some 122)) 123 (fun _ => none)) 109 16 (some 123)) 124 (fun _ => none)) 109 17 (some 124)
def pA : mM := upr (upr (upr (upr (upr (upr (pA15) 125 (fun _ => 0)) 126 (fun _ => 0)) 127 (fun _ => 0)) 128 (fun _ => 0)) 129 (fun _ => 0)) 130 (fun _ => 0)
def LI0 : mL := upr (upr (upr (upr (upr (upr (LI15) 125 (fun _ => 0)) 126 (fun _ => 0)) 127 (fun _ => 0)) 128 (fun _ => 0)) 129 (fun _ => 0)) 130 (fun _ => 0)
def tA : mT := up2 (upr (up2 (upr (up2 (upr (up2 (upr (up2 (upr (up2 (upr (tA15) 125 (fun _ => none)) 109 18 (some 125)) 126 (fun _ => none)) 109 20 (some 126)) 127 (fun _ => none)) 109 21 (some 127)) 128 (fun _ => none)) 109 22 (some 128)) 129 (fun _ => none)) 109 23 (some 129)) 130 (fun _ => none)) 109 24 (some 130)
def pB1 (c : Nat) : mM := upr pA 110 (stc (fun _ => 0) (fun _ => 2) c)
def pB2 (c : Nat) : mM := upr (pB1 9) 122 (stc (fun _ => 0) (fun _ => -1) c)
def pB3 (c : Nat) : mM := upr (pB2 12) 125 (stc (fun _ => 0) (fun _ => -1) c)
def pC0 : mM := lbM (pB3 6) 0 6 10 11 0 10 11
def pC1 : mM := bdM (lbM pC0 1 6 10 12 1 10 11) 1 6 11 12
def pC (f : Int32) (M : mM) : mM := bdM (bdM (lbM (bdM (bdM (lbM M (2 + 2 * f) (7 + f) 12 13 (3 + 2 * f) 10 11) (2 + 2 * f) 6 10 12) (2 + 2 * f) 6 11 13) (2 + 2 * f + 1) 6 10 13 (2 + 2 * f) 10 11) (2 + 2 * f + 1) 6 11 12) (2 + 2 * f + 1) (7 + f) 12 13
/-- the places that the library's bodies take -/
def pcK (f : Int32) (M : mM) : Prop := vp_in (2 + 2 * f) 14 ∧ vp_in (2 + 2 * f + 1) 14 ∧ vp_in (4 * (2 + 2 * f) + (lbM M (2 + 2 * f) (7 + f) 12 13 (3 + 2 * f) 10 11) 117 (2 + 2 * f).toNatClampNeg) 60 ∧ vp_in (4 * (2 + 2 * f) + (bdM (lbM M (2 + 2 * f) (7 + f) 12 13 (3 + 2 * f) 10 11) (2 + 2 * f) 6 10 12) 117 (2 + 2 * f).toNatClampNeg) 60 ∧ vp_in (4 * (2 + 2 * f + 1) + (lbM (bdM (bdM (lbM M (2 + 2 * f) (7 + f) 12 13 (3 + 2 * f) 10 11) (2 + 2 * f) 6 10 12) (2 + 2 * f) 6 11 13) (2 + 2 * f + 1) 6 10 13 (2 + 2 * f) 10 11) 117 (2 + 2 * f + 1).toNatClampNeg) 60 ∧ vp_in (4 * (2 + 2 * f + 1) + (bdM (lbM (bdM (bdM (lbM M (2 + 2 * f) (7 + f) 12 13 (3 + 2 * f) 10 11) (2 + 2 * f) 6 10 12) (2 + 2 * f) 6 11 13) (2 + 2 * f + 1) 6 10 13 (2 + 2 * f) 10 11) (2 + 2 * f + 1) 6 11 12) 117 (2 + 2 * f + 1).toNatClampNeg) 60
set_option maxRecDepth 100000 in
theorem pcK0 : pcK 0 pC1 := ⟨(show ¬ (_ < 0 ∨ _ ≤ _) by decide +kernel), (show ¬ (_ < 0 ∨ _ ≤ _) by decide +kernel), (show ¬ (_ < 0 ∨ _ ≤ _) by decide +kernel), (show ¬ (_ < 0 ∨ _ ≤ _) by decide +kernel), (show ¬ (_ < 0 ∨ _ ≤ _) by decide +kernel), (show ¬ (_ < 0 ∨ _ ≤ _) by decide +kernel)⟩
set_option maxRecDepth 100000 in
theorem pcK1 : pcK (0 + 1) (pC 0 pC1) := ⟨(show ¬ (_ < 0 ∨ _ ≤ _) by decide +kernel), (show ¬ (_ < 0 ∨ _ ≤ _) by decide +kernel), (show ¬ (_ < 0 ∨ _ ≤ _) by decide +kernel), (show ¬ (_ < 0 ∨ _ ≤ _) by decide +kernel), (show ¬ (_ < 0 ∨ _ ≤ _) by decide +kernel), (show ¬ (_ < 0 ∨ _ ≤ _) by decide +kernel)⟩
set_option maxRecDepth 100000 in
theorem pcKm : vp_in (4 * 1 + lbM (lbM (pB3 6) 0 6 10 11 0 10 11) 1 6 10 12 1 10 11 117 (1 : Int32).toNatClampNeg) 60 := (show ¬ (_ < 0 ∨ _ ≤ _) by decide +kernel)
def MY : mM := pC (0 + 1) (pC 0 pC1)
def MI : mM := rkM MY 14
set_option maxRecDepth 100000 in
theorem tA_TT : ∀ k, k < 131 → ∀ j, j < sz (kd k) → TT k j = tA k j := by decide +kernel
theorem pB1_0 : pB1 0 = pA := by
  unfold pB1
  rw [stc_0]
  exact upr_id (M := pA) (k := 110)
theorem pB2_0 : pB2 0 = pB1 9 := by
  unfold pB2
  rw [stc_0]
  exact upr_id (M := pB1 9) (k := 122)
theorem pB3_0 : pB3 0 = pB2 12 := by
  unfold pB3
  rw [stc_0]
  exact upr_id (M := pB2 12) (k := 125)
theorem tmok_d {t : Int32} (h : t = nI t.toNatClampNeg ∧ (t.toNatClampNeg < 6 ∨ (10 ≤ t.toNatClampNeg ∧ t.toNatClampNeg ≤ 13))) : tmok t := ⟨_, h.1, h.2⟩
set_option maxRecDepth 100000 in
theorem MY_PI : PI MY := by
  refine ⟨⟨9, by decide, by decide, by decide +kernel⟩, ⟨0, by decide, by decide +kernel⟩, ⟨0, by decide, by decide +kernel⟩, by decide +kernel, fun j hj => ?_, fun i hi => ?_, fun j hj => Or.inl ?_, fun l hl => Or.inl ?_⟩
  · have h := (show ∀ j, j < 14 → (MY 117 j).toNatClampNeg ≤ 4 ∧ MY 117 j = nI (MY 117 j).toNatClampNeg ∧ (¬ MY 116 j = 0 → 1 ≤ (MY 117 j).toNatClampNeg) by decide +kernel) j hj
    exact ⟨_, h⟩
  · have h := (show ∀ i, i < 60 → (¬ (MY 118 i < 0 ∨ 14 ≤ (MY 118 i).toNatClampNeg)) ∧ (MY 119 i = nI (MY 119 i).toNatClampNeg ∧ ((MY 119 i).toNatClampNeg < 6 ∨ (10 ≤ (MY 119 i).toNatClampNeg ∧ (MY 119 i).toNatClampNeg ≤ 13))) ∧ (MY 120 i = nI (MY 120 i).toNatClampNeg ∧ ((MY 120 i).toNatClampNeg < 6 ∨ (10 ≤ (MY 120 i).toNatClampNeg ∧ (MY 120 i).toNatClampNeg ≤ 13))) ∧ MY 121 i = 0 ∧ MY 118 i < MY 109 0 by decide +kernel) i hi
    exact ⟨⟨h.1, tmok_d h.2.1, Or.inr (tmok_d h.2.2.1), Or.inl h.2.2.2.1⟩, h.2.2.2.2⟩
  · exact (show ∀ j, j < 6 → MY 125 j = -1 by decide +kernel) j hj
  · exact (show ∀ l, l < 12 → MY 122 l = -1 by decide +kernel) l hl
abbrev f_PMi (k : Nat) : Mm → Prop := fun μ => k = 109 ∧ μ = (110, MZ, LZ, nT TT 109)
abbrev g_PMi (k : Nat) : Mm → Option Value → Mm → Prop := fun μ r μ' => r = none ∧ μ' = (131, MI, LI0, TT)
abbrev pr_PM_init : List Value → Mm → Prop := preV 8 (fun k => a_0 (f_PMi k))
abbrev po_PM_init : List Value → Mm → Option Value → Mm → Prop := qV (fun k => b_0 (g_PMi k))
theorem ft_PM_init : ∀ as μ, pr_PM_init as μ → μ.1 + 21 ≤ 131 ∧ cz μ.1 + 478 ≤ cz 131 := by
  intro as μ h
  obtain ⟨k, r, rfl, hk, h⟩ := preV_e h
  obtain ⟨rfl, h⟩ := a_0_e h
  obtain ⟨rfl, rfl⟩ := h
  exact ⟨Nat.le_of_ble_eq_true rfl, Nat.le_of_ble_eq_true rfl⟩
def C_PM_init : Cf := fun id => match id with
  | 0 => trO
  | 1 => trF (7 + 1) pr_PM_library po_PM_library
  | 2 => trF (4 + 1) pr_PM_body po_PM_body
  | 3 => trF (1 + 1) pr_PM_rank po_PM_rank
  | _ => fun _ _ _ => False
set_option maxRecDepth 100000 in
theorem cs_PM_init (l : Launch) : ∀ x ∈ k_PM_init, CS l R_PM b_PM_init 3 (rmm 3 21 478) 110 131 C_PM_init x := fc (CS.no rfl) (fc (CS.O wl_PM_1 ⟨by decide, by decide⟩ rfl (e_PM_init_1).1) (fc (CS.no rfl) (fc (CS.no rfl) (fc (CS.no rfl) (fc (CS.no rfl) (fc (CS.no rfl) (fc (CS.no rfl) (fc (CS.no rfl) (fc (CS.no rfl) (fc (CS.no rfl) (fc (CS.no rfl) (fc (CS.no rfl) (fc (CS.no rfl) (fc (CS.no rfl) (fc (CS.no rfl) (fc (CS.no rfl) (fc (CS.no rfl) (fc (CS.no rfl) (fc (CS.no rfl) (fc (CS.no rfl) (fc (CS.no rfl) (fc (CS.no rfl) (fc (CS.no rfl) (fc (CS.no rfl) (fc (CS.no rfl) (fc (CS.no rfl) (fc (CS.no rfl) (fc (CS.no rfl) (fc (CS.no rfl) (fc (CS.no rfl) (fc (CS.no rfl) (fc (CS.no rfl) (fc (CS.no rfl) (fc (CS.no rfl) (fc (CS.no rfl) (fc (CS.no rfl) (fc (CS.no rfl) (fc (CS.no rfl) (fc (CS.no rfl) (fc (CS.no rfl) (fc (CS.no rfl) (fc (CS.no rfl) (fc (CS.no rfl) (fc (CS.no rfl) (fc (CS.no rfl) (fc (CS.no rfl) (fc (CS.no rfl) (fc (CS.no rfl) (fc (CS.no rfl) (fc (CS.no rfl) (fc (CS.no rfl) (fc (CS.no rfl) (fc (CS.no rfl) (fc (CS.no rfl) (fc (CS.no rfl) (fc (CS.no rfl) (fc (CS.no rfl) (fc (CS.no rfl) (fc (CS.no rfl) (fc (CS.no rfl) (fc (CS.no rfl) (fc (CS.no rfl) (fc (CS.no rfl) (fc (CS.no rfl) (fc (CS.no rfl) (fc (CS.no rfl) (fc (CS.no rfl) (fc (CS.no rfl) (fc (CS.no rfl) (fc (CS.no rfl) (fc (CS.no rfl) (fc (CS.no rfl) (fc (CS.no rfl) (fc (CS.no rfl) (fc (CS.no rfl) (fc (CS.no rfl) (fc (CS.no rfl) (fc (CS.no rfl) (fc (CS.no rfl) (fc (CS.no rfl) (fc (CS.no rfl) (fc (CS.no rfl) (fc (CS.no rfl) (fc (CS.no rfl) (fc (CS.no rfl) (fc (CS.no rfl) (fc (CS.no rfl) (fc (CS.no rfl) (fc (CS.no rfl) (fc (CS.no rfl) (fc (CS.no rfl) (fc (CS.no rfl) (fc (CS.no rfl) (fc (CS.no rfl) (fc (CS.no rfl) (fc (CS.no rfl) (fc (CS.no rfl) (fc (CS.no rfl) (fc (CS.no rfl) (fc (CS.no rfl) (fc (CS.no rfl) (fc (CS.no rfl) (fc (CS.no rfl) (fc (CS.no rfl) (fc (CS.no rfl) (fc (CS.no rfl) (fc (CS.no rfl) (fc (CS.no rfl) (fc (CS.no rfl) (fc (CS.no rfl) (fc (CS.no rfl) (fc (CS.no rfl) (fc (CS.no rfl) (fc (CS.no rfl) (fc (CS.no rfl) (fc (CS.no rfl) (fc (CS.no rfl) (fc (CS.no rfl) (fc (CS.no rfl) (fc (CS.no rfl) (fc (CS.no rfl) (fc (CS.no rfl) (fc (CS.no rfl) (fc (CS.no rfl) (fc (CS.no rfl) (fc (CS.no rfl) (fc (CS.no rfl) (fc (CS.no rfl) (fc (CS.no rfl) (fc (CS.no rfl) (fc (CS.no rfl) (fc (CS.no rfl) (fc (CS.V c_PM_library wk_PM_library wl_PM_79 wm_PM_library we_PM_library rfl rfl wi_PM dn_PM_library ⟨rfl, rfl⟩ ⟨by decide, by decide⟩ ft_PM_library rfl (e_PM_init_252).1) (fc (CS.no rfl) (fc (CS.no rfl) (fc (CS.no rfl) (fc (CS.no rfl) (fc (CS.no rfl) (fc (CS.no rfl) (fc (CS.no rfl) (fc (CS.no rfl) (fc (CS.V c_PM_library wk_PM_library wl_PM_79 wm_PM_library we_PM_library rfl rfl wi_PM dn_PM_library ⟨rfl, rfl⟩ ⟨by decide, by decide⟩ ft_PM_library rfl (e_PM_init_268).1) (fc (CS.no rfl) (fc (CS.no rfl) (fc (CS.no rfl) (fc (CS.no rfl) (fc (CS.no rfl) (fc (CS.V c_PM_body wk_PM_body wl_PM_83 wm_PM_body we_PM_body rfl rfl wi_PM dn_PM_body ⟨rfl, rfl⟩ ⟨by decide, by decide⟩ ft_PM_body rfl (e_PM_init_279).1) (fc (CS.no rfl) (fc (CS.no rfl) (fc (CS.no rfl) (fc (CS.no rfl) (fc (CS.no rfl) (fc (CS.no rfl) (fc (CS.no rfl) (fc (CS.no rfl) (fc (CS.no rfl) (fc (CS.no rfl) (fc (CS.no rfl) (fc (CS.no rfl) (fc (CS.no rfl) (fc (CS.no rfl) (fc (CS.no rfl) (fc (CS.no rfl) (fc (CS.no rfl) (fc (CS.no rfl) (fc (CS.no rfl) (fc (CS.no rfl) (fc (CS.no rfl) (fc (CS.no rfl) (fc (CS.no rfl) (fc (CS.no rfl) (fc (CS.no rfl) (fc (CS.V c_PM_library wk_PM_library wl_PM_79 wm_PM_library we_PM_library rfl rfl wi_PM dn_PM_library ⟨rfl, rfl⟩ ⟨by decide, by decide⟩ ft_PM_library rfl (e_PM_init_314).1) (fc (CS.no rfl) (fc (CS.no rfl) (fc (CS.no rfl) (fc (CS.no rfl) (fc (CS.no rfl) (fc (CS.V c_PM_body wk_PM_body wl_PM_83 wm_PM_body we_PM_body rfl rfl wi_PM dn_PM_body ⟨rfl, rfl⟩ ⟨by decide, by decide⟩ ft_PM_body rfl (e_PM_init_325).1) (fc (CS.no rfl) (fc (CS.no rfl) (fc (CS.no rfl) (fc (CS.no rfl) (fc (CS.no rfl) (fc (CS.V c_PM_body wk_PM_body wl_PM_83 wm_PM_body we_PM_body rfl rfl wi_PM dn_PM_body ⟨rfl, rfl⟩ ⟨by decide, by decide⟩ ft_PM_body rfl (e_PM_init_336).1) (fc (CS.no rfl) (fc (CS.no rfl) (fc (CS.no rfl) (fc (CS.no rfl) (fc (CS.no rfl) (fc (CS.no rfl) (fc (CS.no rfl) (fc (CS.no rfl) (fc (CS.no rfl) (fc (CS.no rfl) (fc (CS.no rfl) (fc (CS.no rfl) (fc (CS.no rfl) (fc (CS.no rfl) (fc (CS.V c_PM_library wk_PM_library wl_PM_79 wm_PM_library we_PM_library rfl rfl wi_PM dn_PM_library ⟨rfl, rfl⟩ ⟨by decide, by decide⟩ ft_PM_library rfl (e_PM_init_358).1) (fc (CS.no rfl) (fc (CS.no rfl) (fc (CS.no rfl) (fc (CS.no rfl) (fc (CS.no rfl) (fc (CS.no rfl) (fc (CS.no rfl) (fc (CS.V c_PM_body wk_PM_body wl_PM_83 wm_PM_body we_PM_body rfl rfl wi_PM dn_PM_body ⟨rfl, rfl⟩ ⟨by decide, by decide⟩ ft_PM_body rfl (e_PM_init_371).1) (fc (CS.no rfl) (fc (CS.no rfl) (fc (CS.no rfl) (fc (CS.no rfl) (fc (CS.no rfl) (fc (CS.no rfl) (fc (CS.no rfl) (fc (CS.no rfl) (fc (CS.no rfl) (fc (CS.V c_PM_body wk_PM_body wl_PM_83 wm_PM_body we_PM_body rfl rfl wi_PM dn_PM_body ⟨rfl, rfl⟩ ⟨by decide, by decide⟩ ft_PM_body rfl (e_PM_init_386).1) (fc (CS.no rfl) (fc (CS.no rfl) (fc (CS.no rfl) (fc (CS.no rfl) (fc (CS.V c_PM_rank wk_PM_rank wl_PM_87 wm_PM_rank we_PM_rank rfl rfl wi_PM dn_PM_rank ⟨rfl, rfl⟩ ⟨by decide, by decide⟩ ft_PM_rank rfl (e_PM_init_398).1) (fc (CS.no rfl) (fc (CS.no rfl) (fun _ h => absurd h List.not_mem_nil)))))))))))))))))))))))))))))))))))))))))))))))))))))))))))))))))))))))))))))))))))))))))))))))))))))))))))))))))))))))))))))))))))))))))))))))))))))))))))))))))))))))))))))))))))))))))))))))))))))))))))))))))))))))))))))))))))
set_option maxRecDepth 100000 in
set_option maxHeartbeats 4000000 in
theorem c_PM_init : Cn y_PM_init b_PM_init 3 none (rmm 3 21 478) (0 + 1) 21 478 pr_PM_init po_PM_init := cv_0 (ci := 8) (f := f_PMi) (g := g_PMi) fun l k μ hk h => by
  obtain ⟨rfl, rfl⟩ := h
  refine ky_metC (own := R_PM) (ini := 1) (rb := 3) (nE := 131) (cd := k_PM_init) (C := C_PM_init) (by decide) rfl (fun _ => rfl) (Nat.le_of_ble_eq_true rfl) ⟨rfl, rfl⟩ (Or.inr (Or.inr (Or.inr ⟨rfl, rfl⟩))) rfl rfl (by decide) ok_PM_init (cs_PM_init l) rt_PM_init (fun K hs hcv => ?_)
  have last : ∀ w w', K 395 [some (.ref 109), w, w'] [] (131, MY, LI0, TT) := by
    intro w w'
    refine hs.go [] 40 _ _ _ _ ⟨⟨rfl, ⟨rfl, rfl⟩, rfl, MY_PI, Or.inl (by decide)⟩, rfl, rfl, ?_⟩
    rintro _ _ ⟨rfl, rfl⟩
    exact ⟨rfl, rfl, rfl⟩
  have it : ∀ (f : Int32) (M : mM) (w : Option Value), ¬ (2 : Int32) ≤ f → pcK f M → (∀ w, K 284 [some (.ref 109), some (.int (f + 1)), w] [] (131, pC f M, LI0, TT)) → K 284 [some (.ref 109), some (.int f), w] [] (131, M, LI0, TT) := by
    intro f M w hf hk hn
    obtain ⟨k1, k2, k3, k4, k5, k6⟩ := hk
    refine hs.go [284] 100 _ _ _ _ ⟨fun z => absurd z hf, fun _ => ⟨⟨rfl, ⟨rfl, rfl⟩, rfl, k1⟩, rfl, rfl, ?_⟩⟩
    rintro _ _ ⟨rfl, rfl⟩
    refine ⟨⟨rfl, ⟨rfl, rfl⟩, rfl, k1, k3⟩, rfl, rfl, ?_⟩
    rintro _ _ ⟨rfl, rfl⟩
    refine ⟨⟨rfl, ⟨rfl, rfl⟩, rfl, k1, k4⟩, rfl, rfl, ?_⟩
    rintro _ _ ⟨rfl, rfl⟩
    refine ⟨⟨rfl, ⟨rfl, rfl⟩, rfl, k2⟩, rfl, rfl, ?_⟩
    rintro _ _ ⟨rfl, rfl⟩
    refine ⟨⟨rfl, ⟨rfl, rfl⟩, rfl, k2, k5⟩, rfl, rfl, ?_⟩
    rintro _ _ ⟨rfl, rfl⟩
    refine ⟨⟨rfl, ⟨rfl, rfl⟩, rfl, k2, k6⟩, rfl, rfl, ?_⟩
    rintro _ _ ⟨rfl, rfl⟩
    exact hn _
  have mid : ∀ (P : mM), P = pB3 6 → vp_in (4 * 1 + lbM (lbM P 0 6 10 11 0 10 11) 1 6 10 12 1 10 11 117 (1 : Int32).toNatClampNeg) 60 → ∀ w w', K 239 [some (.ref 109), w, w'] [] (131, P, LI0, TT) := by
    intro P hP hv w w'
    have v0 : vp_in 0 14 := (show ¬ (_ < 0 ∨ _ ≤ _) by decide +kernel)
    have v1 : vp_in 1 14 := (show ¬ (_ < 0 ∨ _ ≤ _) by decide +kernel)
    refine hs.go [284] 60 _ _ _ _ ⟨⟨rfl, ⟨rfl, rfl⟩, rfl, v0⟩, rfl, rfl, ?_⟩
    rintro _ _ ⟨rfl, rfl⟩
    refine ⟨⟨rfl, ⟨rfl, rfl⟩, rfl, v1⟩, rfl, rfl, ?_⟩
    rintro _ _ ⟨rfl, rfl⟩
    refine ⟨⟨rfl, ⟨rfl, rfl⟩, rfl, v1, hv⟩, rfl, rfl, ?_⟩
    rintro _ _ ⟨rfl, rfl⟩
    have e : bdM (lbM (lbM P 0 6 10 11 0 10 11) 1 6 10 12 1 10 11) 1 6 11 12 = pC1 := by rw [hP]; rfl
    have g : ∀ w, K 284 [some (.ref 109), some (.int 0), w] [] (131, bdM (lbM (lbM P 0 6 10 11 0 10 11) 1 6 10 12 1 10 11) 1 6 11 12, LI0, TT) := by
      rw [e]
      intro w
      exact it 0 pC1 _ (by decide) pcK0 fun w => it (0 + 1) (pC 0 pC1) _ (by decide) pcK1 fun w => hs.go [284, 395] 10 _ _ _ _ ⟨fun _ => last _ _, fun z => absurd (by decide) z⟩
    exact g _
  have l3 : ∀ (n c : Nat) (w : Option Value), c + n = 6 → K 220 [some (.ref 109), some (.int (nI c)), w] [] (131, pB3 c, LI0, TT) := by
    intro n
    induction n with
    | zero =>
      intro c w hc
      have hc : c = 6 := by omega
      subst hc
      exact hs.go [220, 239] 10 _ _ _ _ ⟨fun _ => mid _ rfl pcKm _ _, fun z => absurd (Int32.le_refl _) z⟩
    | succ n ih =>
      intro c w hc
      have ic : vp_in (nI c) 6 := vp_in_nI (by omega) (by decide)
      have ec : (nI c).toNatClampNeg = c := nI_clamp (n := c) (by omega)
      have h9 := ih (c + 1) w (by omega)
      unfold pB3 at h9
      rw [nI_succ, stc_s] at h9
      refine hs.go [220] 40 _ _ _ _ ⟨fun z => absurd z (nI_ge (a := c) (b := 6) (by omega) (by decide)), fun _ => ⟨rfl, _, rfl, rfl, ic, ?_⟩⟩
      show K 220 _ _ (131, up2 (pB3 c) 125 (nI c).toNatClampNeg (-1), LI0, TT)
      rw [ec]
      exact h9
  have l2 : ∀ (n c : Nat) (w : Option Value), c + n = 12 → K 199 [some (.ref 109), some (.int (nI c)), w] [] (131, pB2 c, LI0, TT) := by
    intro n
    induction n with
    | zero =>
      intro c w hc
      have hc : c = 12 := by omega
      subst hc
      exact hs.go [199, 220] 10 _ _ _ _ ⟨fun _ => by rw [← pB3_0]; exact l3 6 0 _ rfl, fun z => absurd (Int32.le_refl _) z⟩
    | succ n ih =>
      intro c w hc
      have ic : vp_in (nI c) 12 := vp_in_nI (by omega) (by decide)
      have ec : (nI c).toNatClampNeg = c := nI_clamp (n := c) (by omega)
      have h9 := ih (c + 1) w (by omega)
      unfold pB2 at h9
      rw [nI_succ, stc_s] at h9
      refine hs.go [199] 40 _ _ _ _ ⟨fun z => absurd z (nI_ge (a := c) (b := 12) (by omega) (by decide)), fun _ => ⟨rfl, _, rfl, rfl, ic, ?_⟩⟩
      show K 199 _ _ (131, up2 (pB2 c) 122 (nI c).toNatClampNeg (-1), LI0, TT)
      rw [ec]
      exact h9
  have l1 : ∀ (n c : Nat) (w : Option Value), c + n = 9 → K 178 [some (.ref 109), some (.int (nI c)), w] [] (131, pB1 c, LI0, TT) := by
    intro n
    induction n with
    | zero =>
      intro c w hc
      have hc : c = 9 := by omega
      subst hc
      exact hs.go [178, 199] 10 _ _ _ _ ⟨fun _ => by rw [← pB2_0]; exact l2 12 0 _ rfl, fun z => absurd (Int32.le_refl _) z⟩
    | succ n ih =>
      intro c w hc
      have ic : vp_in (nI c) 14 := vp_in_nI (by omega) (by decide)
      have ec : (nI c).toNatClampNeg = c := nI_clamp (n := c) (by omega)
      have h9 := ih (c + 1) w (by omega)
      unfold pB1 at h9
      rw [nI_succ, stc_s] at h9
      refine hs.go [178] 40 _ _ _ _ ⟨fun z => absurd z (nI_ge (a := c) (b := 9) (by omega) (by decide)), fun _ => ⟨rfl, _, rfl, rfl, ic, ?_⟩⟩
      show K 178 _ _ (131, up2 (pB1 c) 110 (nI c).toNatClampNeg 2, LI0, TT)
      rw [ec]
      exact h9
  have d3 : K 130 [some (.ref 109), none, none] [] (125, pA15, LI15, tA15) := by
    refine hs.go [178] 60 _ _ _ _ ⟨Nat.le_of_ble_eq_true rfl, rfl, (by decide), Nat.le_of_ble_eq_true rfl, rfl, Nat.le_of_ble_eq_true rfl, rfl, (by decide), Nat.le_of_ble_eq_true rfl, rfl, Nat.le_of_ble_eq_true rfl, rfl, (by decide), Nat.le_of_ble_eq_true rfl, rfl, Nat.le_of_ble_eq_true rfl, rfl, (by decide), Nat.le_of_ble_eq_true rfl, rfl, Nat.le_of_ble_eq_true rfl, rfl, (by decide), Nat.le_of_ble_eq_true rfl, rfl, Nat.le_of_ble_eq_true rfl, rfl, (by decide), Nat.le_of_ble_eq_true rfl, rfl, ?_⟩
    refine hcv 178 _ _ 131 _ pA _ LI0 _ TT (fun k hk => ⟨rfl, rfl, fun j hj => tA_TT k hk j hj⟩) ?_
    rw [← pB1_0]
    exact l1 9 0 _ rfl
  have d2 : K 90 [some (.ref 109), none, none] [] (120, pA10, LI10, tA10) := hs.go [130] 60 _ _ _ _ ⟨Nat.le_of_ble_eq_true rfl, rfl, (by decide), Nat.le_of_ble_eq_true rfl, rfl, Nat.le_of_ble_eq_true rfl, rfl, (by decide), Nat.le_of_ble_eq_true rfl, rfl, Nat.le_of_ble_eq_true rfl, rfl, (by decide), Nat.le_of_ble_eq_true rfl, rfl, Nat.le_of_ble_eq_true rfl, rfl, (by decide), Nat.le_of_ble_eq_true rfl, rfl, Nat.le_of_ble_eq_true rfl, rfl, (by decide), Nat.le_of_ble_eq_true rfl, rfl, d3⟩
  have d1 : K 50 [some (.ref 109), none, none] [] (115, pA5, LI5, tA5) := hs.go [90] 60 _ _ _ _ ⟨Nat.le_of_ble_eq_true rfl, rfl, (by decide), Nat.le_of_ble_eq_true rfl, rfl, Nat.le_of_ble_eq_true rfl, rfl, (by decide), Nat.le_of_ble_eq_true rfl, rfl, Nat.le_of_ble_eq_true rfl, rfl, (by decide), Nat.le_of_ble_eq_true rfl, rfl, Nat.le_of_ble_eq_true rfl, rfl, (by decide), Nat.le_of_ble_eq_true rfl, rfl, Nat.le_of_ble_eq_true rfl, rfl, (by decide), Nat.le_of_ble_eq_true rfl, rfl, d2⟩
  exact hs.go [50] 60 _ _ _ _ ⟨rfl, rfl, Nat.le_of_ble_eq_true rfl, rfl, (by decide), Nat.le_of_ble_eq_true rfl, rfl, Nat.le_of_ble_eq_true rfl, rfl, (by decide), Nat.le_of_ble_eq_true rfl, rfl, Nat.le_of_ble_eq_true rfl, rfl, (by decide), Nat.le_of_ble_eq_true rfl, rfl, Nat.le_of_ble_eq_true rfl, rfl, (by decide), Nat.le_of_ble_eq_true rfl, rfl, Nat.le_of_ble_eq_true rfl, rfl, (by decide), Nat.le_of_ble_eq_true rfl, rfl, d1⟩
