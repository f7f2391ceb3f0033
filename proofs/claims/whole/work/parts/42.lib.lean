def bdM (M : mM) (x x1 x2 x3 : Int32) : mM := up2 (lat M (4 * x + M 117 x.toNatClampNeg).toNatClampNeg x1 x2 x3) 117 x.toNatClampNeg (M 117 x.toNatClampNeg + 1)
def lbM (M : mM) (x x1 x2 x3 x4 x5 x6 : Int32) : mM := bdM (lat (up2 (up2 M 116 x.toNatClampNeg 1) 117 x.toNatClampNeg 1) (4 * x).toNatClampNeg x1 x2 x3) x x4 x5 x6

theorem dn_PM_body : y_PM_body.cls ≠ "java/lang/invoke/MethodHandle" ∧ y_PM_body.cls ≠ "java/lang/invoke/VarHandle" ∧ (parseMethodDescriptor y_PM_body.desc).map (fun d => d.parameters.length) = some 4 := by decide +kernel
abbrev pr_PM_body : List Value → Mm → Prop := preV 8 (fun k => a_IIII (fun x0 x1 x2 x3 μ => FM μ ∧ (k = 109 ∧ vp_in x0 14 ∧ vp_in (4 * x0 + μ.2.1 117 x0.toNatClampNeg) 60)))
abbrev po_PM_body : List Value → Mm → Option Value → Mm → Prop := qV (fun k => b_IIII (fun x0 x1 x2 x3 μ r μ' => r = none ∧ μ' = (131, bdM μ.2.1 x0 x1 x2 x3, μ.2.2.1, TT)))
theorem ft_PM_body : ∀ as μ, pr_PM_body as μ → μ.1 + 0 ≤ 131 ∧ cz μ.1 + 0 ≤ cz 131 := hf_S (n := 131) (Nat.le_refl _) (fun as μ h => by
  obtain ⟨k, r, rfl, hk, h⟩ := preV_e h
  obtain ⟨x0, x1, x2, x3, rfl, h⟩ := a_IIII_e h
  exact h.1.1)
def C_PM_body : Cf := fun id => match id with
  | 0 => trF (4 + 1) pr_PM_literalAt po_PM_literalAt
  | _ => fun _ _ _ => False
set_option maxRecDepth 100000 in
theorem cs_PM_body (l : Launch) : ∀ x ∈ k_PM_body, CS l R_PM b_PM_body 5 (rmm 1 0 0) 131 131 C_PM_body x := fc (CS.no rfl) (fc (CS.no rfl) (fc (CS.no rfl) (fc (CS.no rfl) (fc (CS.no rfl) (fc (CS.no rfl) (fc (CS.no rfl) (fc (CS.no rfl) (fc (CS.no rfl) (fc (CS.no rfl) (fc (CS.no rfl) (fc (CS.no rfl) (fc (CS.V c_PM_literalAt wk_PM_literalAt wl_PM_91 wm_PM_literalAt we_PM_literalAt rfl rfl wi_PM dn_PM_literalAt ⟨rfl, rfl⟩ ⟨by decide, by decide⟩ ft_PM_literalAt rfl (e_PM_body_15).1) (fc (CS.no rfl) (fc (CS.no rfl) (fc (CS.no rfl) (fc (CS.no rfl) (fc (CS.no rfl) (fc (CS.no rfl) (fc (CS.no rfl) (fc (CS.no rfl) (fc (CS.no rfl) (fun _ h => absurd h List.not_mem_nil))))))))))))))))))))))
set_option maxRecDepth 100000 in
set_option maxHeartbeats 4000000 in
theorem c_PM_body : Cn y_PM_body b_PM_body 5 none (rmm 1 0 0) (4 + 1) 0 0 pr_PM_body po_PM_body := cv_IIII (ci := 8) (f := fun k => fun x0 x1 x2 x3 μ => FM μ ∧ (k = 109 ∧ vp_in x0 14 ∧ vp_in (4 * x0 + μ.2.1 117 x0.toNatClampNeg) 60)) (g := fun k => fun x0 x1 x2 x3 μ r μ' => r = none ∧ μ' = (131, bdM μ.2.1 x0 x1 x2 x3, μ.2.2.1, TT)) fun l k x0 x1 x2 x3 μ hk h => by
  obtain ⟨hm, h⟩ := h
  obtain ⟨M, L, rfl⟩ := hm.e
  refine ky_met (own := R_PM) (ini := 0) (rb := 3) (nE := 131) (cd := k_PM_body) (C := C_PM_body) (by decide) rfl (fun h => by cases h) (Nat.le_of_ble_eq_true rfl) ⟨rfl, rfl⟩ (Or.inr (Or.inr (Or.inr ⟨rfl, rfl⟩))) rfl rfl (by decide) ok_PM_body (cs_PM_body l) rt_PM_body (fun K hs => ?_)
  obtain ⟨rfl, hx, h4⟩ := h
  refine hs.go [] 40 _ _ _ _ ⟨rfl, _, rfl, rfl, hx, ⟨rfl, ⟨rfl, rfl⟩, rfl, h4⟩, rfl, rfl, ?_⟩
  rintro _ _ ⟨rfl, rfl⟩
  exact ⟨rfl, _, rfl, rfl, hx, rfl, hx, rfl, rfl, rfl⟩

theorem dn_PM_library : y_PM_library.cls ≠ "java/lang/invoke/MethodHandle" ∧ y_PM_library.cls ≠ "java/lang/invoke/VarHandle" ∧ (parseMethodDescriptor y_PM_library.desc).map (fun d => d.parameters.length) = some 7 := by decide +kernel
abbrev pr_PM_library : List Value → Mm → Prop := preV 8 (fun k => a_IIIIIII (fun x0 x1 x2 x3 x4 x5 x6 μ => FM μ ∧ (k = 109 ∧ vp_in x0 14)))
abbrev po_PM_library : List Value → Mm → Option Value → Mm → Prop := qV (fun k => b_IIIIIII (fun x0 x1 x2 x3 x4 x5 x6 μ r μ' => r = none ∧ μ' = (131, lbM μ.2.1 x0 x1 x2 x3 x4 x5 x6, μ.2.2.1, TT)))
theorem ft_PM_library : ∀ as μ, pr_PM_library as μ → μ.1 + 0 ≤ 131 ∧ cz μ.1 + 0 ≤ cz 131 := hf_S (n := 131) (Nat.le_refl _) (fun as μ h => by
  obtain ⟨k, r, rfl, hk, h⟩ := preV_e h
  obtain ⟨x0, x1, x2, x3, x4, x5, x6, rfl, h⟩ := a_IIIIIII_e h
  exact h.1.1)
def C_PM_library : Cf := fun id => match id with
  | 0 => trF (4 + 1) pr_PM_literalAt po_PM_literalAt
  | 1 => trF (4 + 1) pr_PM_body po_PM_body
  | _ => fun _ _ _ => False
set_option maxRecDepth 100000 in
theorem cs_PM_library (l : Launch) : ∀ x ∈ k_PM_library, CS l R_PM b_PM_library 8 (rmm 2 0 0) 131 131 C_PM_library x := fc (CS.no rfl) (fc (CS.no rfl) (fc (CS.no rfl) (fc (CS.no rfl) (fc (CS.no rfl) (fc (CS.no rfl) (fc (CS.no rfl) (fc (CS.no rfl) (fc (CS.no rfl) (fc (CS.no rfl) (fc (CS.no rfl) (fc (CS.no rfl) (fc (CS.no rfl) (fc (CS.no rfl) (fc (CS.no rfl) (fc (CS.no rfl) (fc (CS.no rfl) (fc (CS.V c_PM_literalAt wk_PM_literalAt wl_PM_91 wm_PM_literalAt we_PM_literalAt rfl rfl wi_PM dn_PM_literalAt ⟨rfl, rfl⟩ ⟨by decide, by decide⟩ ft_PM_literalAt rfl (e_PM_library_22).1) (fc (CS.no rfl) (fc (CS.no rfl) (fc (CS.no rfl) (fc (CS.no rfl) (fc (CS.no rfl) (fc (CS.V c_PM_body wk_PM_body wl_PM_83 wm_PM_body we_PM_body rfl rfl wi_PM dn_PM_body ⟨rfl, rfl⟩ ⟨by decide, by decide⟩ ft_PM_body rfl (e_PM_library_33).1) (fc (CS.no rfl) (fun _ h => absurd h List.not_mem_nil)))))))))))))))))))))))))
set_option maxRecDepth 100000 in
set_option maxHeartbeats 4000000 in
theorem c_PM_library : Cn y_PM_library b_PM_library 8 none (rmm 2 0 0) (7 + 1) 0 0 pr_PM_library po_PM_library := cv_IIIIIII (ci := 8) (f := fun k => fun x0 x1 x2 x3 x4 x5 x6 μ => FM μ ∧ (k = 109 ∧ vp_in x0 14)) (g := fun k => fun x0 x1 x2 x3 x4 x5 x6 μ r μ' => r = none ∧ μ' = (131, lbM μ.2.1 x0 x1 x2 x3 x4 x5 x6, μ.2.2.1, TT)) fun l k x0 x1 x2 x3 x4 x5 x6 μ hk h => by
  obtain ⟨hm, h⟩ := h
  obtain ⟨M, L, rfl⟩ := hm.e
  refine ky_met (own := R_PM) (ini := 0) (rb := 3) (nE := 131) (cd := k_PM_library) (C := C_PM_library) (by decide) rfl (fun h => by cases h) (Nat.le_of_ble_eq_true rfl) ⟨rfl, rfl⟩ (Or.inr (Or.inr (Or.inr ⟨rfl, rfl⟩))) rfl rfl (by decide) ok_PM_library (cs_PM_library l) rt_PM_library (fun K hs => ?_)
  obtain ⟨rfl, hx⟩ := h
  obtain ⟨j, hj, ej⟩ := vp_in_of hx (by decide)
  have e4 : 4 * x0 = nI (4 * j) := by rw [ej]; exact pk_mul 4 j
  have i4 : vp_in (4 * x0) 60 := by rw [e4]; exact vp_in_nI (by omega) (by decide)
  have i5 : vp_in (4 * x0 + 1) 60 := by rw [e4, ← nI_succ]; exact vp_in_nI (by omega) (by decide)
  refine hs.go [] 60 _ _ _ _ ⟨rfl, _, rfl, rfl, hx, Or.inr rfl, rfl, _, rfl, rfl, hx, ⟨rfl, ⟨rfl, rfl⟩, rfl, i4⟩, rfl, rfl, ?_⟩
  rintro _ _ ⟨rfl, rfl⟩
  refine ⟨⟨rfl, ⟨rfl, rfl⟩, rfl, hx, ?_⟩, rfl, rfl, ?_⟩
  · show vp_in (4 * x0 + up2 (up2 M 116 x0.toNatClampNeg 1) 117 x0.toNatClampNeg 1 117 x0.toNatClampNeg) 60
    rw [up2_s]
    exact i5
  · rintro _ _ ⟨rfl, rfl⟩
    exact ⟨rfl, rfl, rfl⟩
