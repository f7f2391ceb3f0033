/-- the references when a new object k stands empty -/
abbrev nT (T : mT) (k : Nat) : mT := upr T k (fun _ => none)
/-- the references when all from cell a on stand -/
def mx (T : mT) (a : Nat) : mT := fun k j => if k < a then T k j else TT k j

theorem dn_PG_init : y_PG_init.cls ≠ "java/lang/invoke/MethodHandle" ∧ y_PG_init.cls ≠ "java/lang/invoke/VarHandle" ∧ (parseMethodDescriptor y_PG_init.desc).map (fun d => d.parameters.length) = some 0 := by decide +kernel
abbrev pr_PG_init : List Value → Mm → Prop := preV 1 (fun k => a_0 (fun μ => k = 1 ∧ ∃ M L T, μ = (2, M, L, nT T 1)))
abbrev po_PG_init : List Value → Mm → Option Value → Mm → Prop := qV (fun k => b_0 (fun μ r μ' => r = none ∧ μ' = (5, upr (upr (upr (upr (μ.2.1) 2 (fun _ => 0)) 3 (fun _ => 0)) 4 (fun _ => 0)) 2 (fun j => if j < 12 then -1 else 0), upr (upr (upr (μ.2.2.1) 2 (fun _ => 0)) 3 (fun _ => 0)) 4 (fun _ => 0), mx μ.2.2.2 1)))
theorem ft_PG_init : ∀ as μ, pr_PG_init as μ → μ.1 + 3 ≤ 5 ∧ cz μ.1 + 36 ≤ cz 5 := by
  intro as μ h
  obtain ⟨k, r, rfl, hk, h⟩ := preV_e h
  obtain ⟨rfl, h⟩ := a_0_e h
  obtain ⟨rfl, M, L, T, rfl⟩ := h
  exact ⟨Nat.le_of_ble_eq_true rfl, Nat.le_of_ble_eq_true rfl⟩
def C_PG_init : Cf := fun id => match id with
  | 0 => trO
  | 1 => trF 2 (pr_AR_fillN 5) po_AR_fill
  | _ => fun _ _ _ => False
set_option maxRecDepth 100000 in
theorem cs_PG_init (l : Launch) : ∀ x ∈ k_PG_init, CS l R_PG b_PG_init 1 (rmm 1 3 36) 2 5 C_PG_init x := fc (CS.no rfl) (fc (CS.O wl_PG_3 ⟨by decide, by decide⟩ rfl (e_PG_init_1).1) (fc (CS.no rfl) (fc (CS.no rfl) (fc (CS.no rfl) (fc (CS.no rfl) (fc (CS.no rfl) (fc (CS.no rfl) (fc (CS.no rfl) (fc (CS.no rfl) (fc (CS.no rfl) (fc (CS.no rfl) (fc (CS.no rfl) (fc (CS.no rfl) (fc (CS.no rfl) (fc (CS.no rfl) (fc (CS.no rfl) (fc (CS.S (c_AR_fillN 5 (by decide)) wk_AR_fill wl_PG_21 wt_AR_fill wi_AR dn_AR_fill ⟨rfl, rfl⟩ ⟨by decide, by decide⟩ (ft_AR_fillN 5 5 (Nat.le_refl _)) rfl (e_PG_init_33).1) (fc (CS.no rfl) (fun _ h => absurd h List.not_mem_nil)))))))))))))))))))
set_option maxRecDepth 100000 in
set_option maxHeartbeats 4000000 in
theorem c_PG_init : Cn y_PG_init b_PG_init 1 none (rmm 1 3 36) (0 + 1) 3 36 pr_PG_init po_PG_init := cv_0 (ci := 1) (f := fun k => fun μ => k = 1 ∧ ∃ M L T, μ = (2, M, L, nT T 1)) (g := fun k => fun μ r μ' => r = none ∧ μ' = (5, upr (upr (upr (upr (μ.2.1) 2 (fun _ => 0)) 3 (fun _ => 0)) 4 (fun _ => 0)) 2 (fun j => if j < 12 then -1 else 0), upr (upr (upr (μ.2.2.1) 2 (fun _ => 0)) 3 (fun _ => 0)) 4 (fun _ => 0), mx μ.2.2.2 1)) fun l k μ hk h => by
  obtain ⟨rfl, M, L, T, rfl⟩ := h
  refine ky_metC (own := R_PG) (ini := 1) (rb := 3) (nE := 5) (cd := k_PG_init) (C := C_PG_init) (by decide) rfl (fun _ => rfl) (Nat.le_of_ble_eq_true rfl) ⟨rfl, rfl⟩ (Or.inr (Or.inr (Or.inr ⟨rfl, rfl⟩))) rfl rfl (by decide) ok_PG_init (cs_PG_init l) rt_PG_init (fun K hs hcv => ?_)
  refine hs.go [36] 60 _ _ _ _ ⟨rfl, Nat.le_of_ble_eq_true rfl, rfl, (by decide), Nat.le_of_ble_eq_true rfl, rfl, Nat.le_of_ble_eq_true rfl, rfl, (by decide), Nat.le_of_ble_eq_true rfl, rfl, Nat.le_of_ble_eq_true rfl, rfl, (by decide), Nat.le_of_ble_eq_true rfl, rfl, rfl, _, rfl, ⟨rfl, rfl, Nat.le_of_ble_eq_true rfl⟩, rfl, rfl, ?_⟩
  rintro _ _ ⟨rfl, rfl⟩
  refine hcv 36 _ _ 5 _ (upr (upr (upr (upr (M) 2 (fun _ => 0)) 3 (fun _ => 0)) 4 (fun _ => 0)) 2 (fun j => if j < 12 then -1 else 0)) _ (upr (upr (upr (L) 2 (fun _ => 0)) 3 (fun _ => 0)) 4 (fun _ => 0)) _ (mx (nT T 1) 1) (fun k hk => ⟨rfl, rfl, fun j hj => ?_⟩) (hs.go [] 5 _ _ _ _ ⟨rfl, rfl, rfl⟩)
  show mx (nT T 1) 1 k j = (up2 (upr (up2 (upr (up2 (upr (nT T 1) 2 (fun _ => none)) 1 0 (some 2)) 3 (fun _ => none)) 1 1 (some 3)) 4 (fun _ => none)) 1 2 (some 4)) k j
  by_cases h : k < 1
  · exact (if_pos h).trans (by rw [up2_k (by omega), upr_k (by omega), up2_k (by omega), upr_k (by omega), up2_k (by omega), upr_k (by omega)])
  · have e1 : TT k j = (up2 (upr (up2 (upr (up2 (upr (nT TT 1) 2 (fun _ => none)) 1 0 (some 2)) 3 (fun _ => none)) 1 1 (some 3)) 4 (fun _ => none)) 1 2 (some 4)) k j := (show ∀ k, k < 5 → ¬ k < 1 → ∀ j, j < sz (kd k) → TT k j = (up2 (upr (up2 (upr (up2 (upr (nT TT 1) 2 (fun _ => none)) 1 0 (some 2)) 3 (fun _ => none)) 1 1 (some 3)) 4 (fun _ => none)) 1 2 (some 4)) k j by decide +kernel) k hk h j hj
    refine ((if_neg h).trans e1).trans ?_
    rcases (show k = 1 ∨ k = 2 ∨ k = 3 ∨ k = 4 by omega) with rfl | rfl | rfl | rfl <;> rfl
theorem dn_RS_init : y_RS_init.cls ≠ "java/lang/invoke/MethodHandle" ∧ y_RS_init.cls ≠ "java/lang/invoke/VarHandle" ∧ (parseMethodDescriptor y_RS_init.desc).map (fun d => d.parameters.length) = some 0 := by decide +kernel
abbrev pr_RS_init : List Value → Mm → Prop := preV 2 (fun k => a_0 (fun μ => k = 5 ∧ ∃ M L T, μ = (6, M, L, nT T 5)))
abbrev po_RS_init : List Value → Mm → Option Value → Mm → Prop := qV (fun k => b_0 (fun μ r μ' => r = none ∧ μ' = (10, upr (up2 (upr (upr (upr (upr (μ.2.1) 6 (fun _ => 0)) 7 (fun _ => 0)) 8 (fun _ => 0)) 9 (fun _ => 0)) 5 4 9) 6 (fun j => if j < 14 then 2 else 0), upr (upr (upr (upr (μ.2.2.1) 6 (fun _ => 0)) 7 (fun _ => 0)) 8 (fun _ => 0)) 9 (fun _ => 0), mx μ.2.2.2 5)))
theorem ft_RS_init : ∀ as μ, pr_RS_init as μ → μ.1 + 4 ≤ 10 ∧ cz μ.1 + 56 ≤ cz 10 := by
  intro as μ h
  obtain ⟨k, r, rfl, hk, h⟩ := preV_e h
  obtain ⟨rfl, h⟩ := a_0_e h
  obtain ⟨rfl, M, L, T, rfl⟩ := h
  exact ⟨Nat.le_of_ble_eq_true rfl, Nat.le_of_ble_eq_true rfl⟩
def C_RS_init : Cf := fun id => match id with
  | 0 => trO
  | 1 => trF 2 (pr_AR_fillN 10) po_AR_fill
  | _ => fun _ _ _ => False
set_option maxRecDepth 100000 in
theorem cs_RS_init (l : Launch) : ∀ x ∈ k_RS_init, CS l R_RS b_RS_init 1 (rmm 1 4 56) 6 10 C_RS_init x := fc (CS.no rfl) (fc (CS.O wl_RS_3 ⟨by decide, by decide⟩ rfl (e_RS_init_1).1) (fc (CS.no rfl) (fc (CS.no rfl) (fc (CS.no rfl) (fc (CS.no rfl) (fc (CS.no rfl) (fc (CS.no rfl) (fc (CS.no rfl) (fc (CS.no rfl) (fc (CS.no rfl) (fc (CS.no rfl) (fc (CS.no rfl) (fc (CS.no rfl) (fc (CS.no rfl) (fc (CS.no rfl) (fc (CS.no rfl) (fc (CS.no rfl) (fc (CS.no rfl) (fc (CS.no rfl) (fc (CS.no rfl) (fc (CS.no rfl) (fc (CS.no rfl) (fc (CS.no rfl) (fc (CS.S (c_AR_fillN 10 (by decide)) wk_AR_fill wl_RS_29 wt_AR_fill wi_AR dn_AR_fill ⟨rfl, rfl⟩ ⟨by decide, by decide⟩ (ft_AR_fillN 10 10 (Nat.le_refl _)) rfl (e_RS_init_47).1) (fc (CS.no rfl) (fun _ h => absurd h List.not_mem_nil))))))))))))))))))))))))))
set_option maxRecDepth 100000 in
set_option maxHeartbeats 4000000 in
theorem c_RS_init : Cn y_RS_init b_RS_init 1 none (rmm 1 4 56) (0 + 1) 4 56 pr_RS_init po_RS_init := cv_0 (ci := 2) (f := fun k => fun μ => k = 5 ∧ ∃ M L T, μ = (6, M, L, nT T 5)) (g := fun k => fun μ r μ' => r = none ∧ μ' = (10, upr (up2 (upr (upr (upr (upr (μ.2.1) 6 (fun _ => 0)) 7 (fun _ => 0)) 8 (fun _ => 0)) 9 (fun _ => 0)) 5 4 9) 6 (fun j => if j < 14 then 2 else 0), upr (upr (upr (upr (μ.2.2.1) 6 (fun _ => 0)) 7 (fun _ => 0)) 8 (fun _ => 0)) 9 (fun _ => 0), mx μ.2.2.2 5)) fun l k μ hk h => by
  obtain ⟨rfl, M, L, T, rfl⟩ := h
  refine ky_metC (own := R_RS) (ini := 1) (rb := 3) (nE := 10) (cd := k_RS_init) (C := C_RS_init) (by decide) rfl (fun _ => rfl) (Nat.le_of_ble_eq_true rfl) ⟨rfl, rfl⟩ (Or.inr (Or.inr (Or.inr ⟨rfl, rfl⟩))) rfl rfl (by decide) ok_RS_init (cs_RS_init l) rt_RS_init (fun K hs hcv => ?_)
  refine hs.go [50] 60 _ _ _ _ ⟨rfl, Nat.le_of_ble_eq_true rfl, rfl, (by decide), Nat.le_of_ble_eq_true rfl, rfl, Nat.le_of_ble_eq_true rfl, rfl, (by decide), Nat.le_of_ble_eq_true rfl, rfl, Nat.le_of_ble_eq_true rfl, rfl, (by decide), Nat.le_of_ble_eq_true rfl, rfl, Nat.le_of_ble_eq_true rfl, rfl, (by decide), Nat.le_of_ble_eq_true rfl, rfl, rfl, rfl, _, rfl, ⟨rfl, rfl, Nat.le_of_ble_eq_true rfl⟩, rfl, rfl, ?_⟩
  rintro _ _ ⟨rfl, rfl⟩
  refine hcv 50 _ _ 10 _ (upr (up2 (upr (upr (upr (upr (M) 6 (fun _ => 0)) 7 (fun _ => 0)) 8 (fun _ => 0)) 9 (fun _ => 0)) 5 4 9) 6 (fun j => if j < 14 then 2 else 0)) _ (upr (upr (upr (upr (L) 6 (fun _ => 0)) 7 (fun _ => 0)) 8 (fun _ => 0)) 9 (fun _ => 0)) _ (mx (nT T 5) 5) (fun k hk => ⟨rfl, rfl, fun j hj => ?_⟩) (hs.go [] 5 _ _ _ _ ⟨rfl, rfl, rfl⟩)
  show mx (nT T 5) 5 k j = (up2 (upr (up2 (upr (up2 (upr (up2 (upr (nT T 5) 6 (fun _ => none)) 5 0 (some 6)) 7 (fun _ => none)) 5 1 (some 7)) 8 (fun _ => none)) 5 2 (some 8)) 9 (fun _ => none)) 5 3 (some 9)) k j
  by_cases h : k < 5
  · exact (if_pos h).trans (by rw [up2_k (by omega), upr_k (by omega), up2_k (by omega), upr_k (by omega), up2_k (by omega), upr_k (by omega), up2_k (by omega), upr_k (by omega)])
  · have e1 : TT k j = (up2 (upr (up2 (upr (up2 (upr (up2 (upr (nT TT 5) 6 (fun _ => none)) 5 0 (some 6)) 7 (fun _ => none)) 5 1 (some 7)) 8 (fun _ => none)) 5 2 (some 8)) 9 (fun _ => none)) 5 3 (some 9)) k j := (show ∀ k, k < 10 → ¬ k < 5 → ∀ j, j < sz (kd k) → TT k j = (up2 (upr (up2 (upr (up2 (upr (up2 (upr (nT TT 5) 6 (fun _ => none)) 5 0 (some 6)) 7 (fun _ => none)) 5 1 (some 7)) 8 (fun _ => none)) 5 2 (some 8)) 9 (fun _ => none)) 5 3 (some 9)) k j by decide +kernel) k hk h j hj
    refine ((if_neg h).trans e1).trans ?_
    rcases (show k = 5 ∨ k = 6 ∨ k = 7 ∨ k = 8 ∨ k = 9 by omega) with rfl | rfl | rfl | rfl | rfl <;> rfl
theorem dn_RN_init : y_RN_init.cls ≠ "java/lang/invoke/MethodHandle" ∧ y_RN_init.cls ≠ "java/lang/invoke/VarHandle" ∧ (parseMethodDescriptor y_RN_init.desc).map (fun d => d.parameters.length) = some 0 := by decide +kernel
abbrev pr_RN_init : List Value → Mm → Prop := preV 7 (fun k => a_0 (fun μ => k = 105 ∧ ∃ M L T, μ = (106, M, L, nT T 105)))
abbrev po_RN_init : List Value → Mm → Option Value → Mm → Prop := qV (fun k => b_0 (fun μ r μ' => r = none ∧ μ' = (109, upr (upr (upr (upr (μ.2.1) 106 (fun _ => 0)) 107 (fun _ => 0)) 108 (fun _ => 0)) 106 (fun j => if j < 6 then -1 else 0), upr (upr (upr (μ.2.2.1) 106 (fun _ => 0)) 107 (fun _ => 0)) 108 (fun _ => 0), mx μ.2.2.2 105)))
theorem ft_RN_init : ∀ as μ, pr_RN_init as μ → μ.1 + 3 ≤ 109 ∧ cz μ.1 + 66 ≤ cz 109 := by
  intro as μ h
  obtain ⟨k, r, rfl, hk, h⟩ := preV_e h
  obtain ⟨rfl, h⟩ := a_0_e h
  obtain ⟨rfl, M, L, T, rfl⟩ := h
  exact ⟨Nat.le_of_ble_eq_true rfl, Nat.le_of_ble_eq_true rfl⟩
def C_RN_init : Cf := fun id => match id with
  | 0 => trO
  | 1 => trF 2 (pr_AR_fillN 109) po_AR_fill
  | _ => fun _ _ _ => False
set_option maxRecDepth 100000 in
theorem cs_RN_init (l : Launch) : ∀ x ∈ k_RN_init, CS l R_RN b_RN_init 1 (rmm 1 3 66) 106 109 C_RN_init x := fc (CS.no rfl) (fc (CS.O wl_RN_3 ⟨by decide, by decide⟩ rfl (e_RN_init_1).1) (fc (CS.no rfl) (fc (CS.no rfl) (fc (CS.no rfl) (fc (CS.no rfl) (fc (CS.no rfl) (fc (CS.no rfl) (fc (CS.no rfl) (fc (CS.no rfl) (fc (CS.no rfl) (fc (CS.no rfl) (fc (CS.no rfl) (fc (CS.no rfl) (fc (CS.no rfl) (fc (CS.no rfl) (fc (CS.no rfl) (fc (CS.S (c_AR_fillN 109 (by decide)) wk_AR_fill wl_RN_21 wt_AR_fill wi_AR dn_AR_fill ⟨rfl, rfl⟩ ⟨by decide, by decide⟩ (ft_AR_fillN 109 109 (Nat.le_refl _)) rfl (e_RN_init_33).1) (fc (CS.no rfl) (fun _ h => absurd h List.not_mem_nil)))))))))))))))))))
set_option maxRecDepth 100000 in
set_option maxHeartbeats 4000000 in
theorem c_RN_init : Cn y_RN_init b_RN_init 1 none (rmm 1 3 66) (0 + 1) 3 66 pr_RN_init po_RN_init := cv_0 (ci := 7) (f := fun k => fun μ => k = 105 ∧ ∃ M L T, μ = (106, M, L, nT T 105)) (g := fun k => fun μ r μ' => r = none ∧ μ' = (109, upr (upr (upr (upr (μ.2.1) 106 (fun _ => 0)) 107 (fun _ => 0)) 108 (fun _ => 0)) 106 (fun j => if j < 6 then -1 else 0), upr (upr (upr (μ.2.2.1) 106 (fun _ => 0)) 107 (fun _ => 0)) 108 (fun _ => 0), mx μ.2.2.2 105)) fun l k μ hk h => by
  obtain ⟨rfl, M, L, T, rfl⟩ := h
  refine ky_metC (own := R_RN) (ini := 1) (rb := 3) (nE := 109) (cd := k_RN_init) (C := C_RN_init) (by decide) rfl (fun _ => rfl) (Nat.le_of_ble_eq_true rfl) ⟨rfl, rfl⟩ (Or.inr (Or.inr (Or.inr ⟨rfl, rfl⟩))) rfl rfl (by decide) ok_RN_init (cs_RN_init l) rt_RN_init (fun K hs hcv => ?_)
  refine hs.go [36] 60 _ _ _ _ ⟨rfl, Nat.le_of_ble_eq_true rfl, rfl, (by decide), Nat.le_of_ble_eq_true rfl, rfl, Nat.le_of_ble_eq_true rfl, rfl, (by decide), Nat.le_of_ble_eq_true rfl, rfl, Nat.le_of_ble_eq_true rfl, rfl, (by decide), Nat.le_of_ble_eq_true rfl, rfl, rfl, _, rfl, ⟨rfl, rfl, Nat.le_of_ble_eq_true rfl⟩, rfl, rfl, ?_⟩
  rintro _ _ ⟨rfl, rfl⟩
  refine hcv 36 _ _ 109 _ (upr (upr (upr (upr (M) 106 (fun _ => 0)) 107 (fun _ => 0)) 108 (fun _ => 0)) 106 (fun j => if j < 6 then -1 else 0)) _ (upr (upr (upr (L) 106 (fun _ => 0)) 107 (fun _ => 0)) 108 (fun _ => 0)) _ (mx (nT T 105) 105) (fun k hk => ⟨rfl, rfl, fun j hj => ?_⟩) (hs.go [] 5 _ _ _ _ ⟨rfl, rfl, rfl⟩)
  show mx (nT T 105) 105 k j = (up2 (upr (up2 (upr (up2 (upr (nT T 105) 106 (fun _ => none)) 105 0 (some 106)) 107 (fun _ => none)) 105 1 (some 107)) 108 (fun _ => none)) 105 2 (some 108)) k j
  by_cases h : k < 105
  · exact (if_pos h).trans (by rw [up2_k (by omega), upr_k (by omega), up2_k (by omega), upr_k (by omega), up2_k (by omega), upr_k (by omega)])
  · have e1 : TT k j = (up2 (upr (up2 (upr (up2 (upr (nT TT 105) 106 (fun _ => none)) 105 0 (some 106)) 107 (fun _ => none)) 105 1 (some 107)) 108 (fun _ => none)) 105 2 (some 108)) k j := (show ∀ k, k < 109 → ¬ k < 105 → ∀ j, j < sz (kd k) → TT k j = (up2 (upr (up2 (upr (up2 (upr (nT TT 105) 106 (fun _ => none)) 105 0 (some 106)) 107 (fun _ => none)) 105 1 (some 107)) 108 (fun _ => none)) 105 2 (some 108)) k j by decide +kernel) k hk h j hj
    refine ((if_neg h).trans e1).trans ?_
    rcases (show k = 105 ∨ k = 106 ∨ k = 107 ∨ k = 108 by omega) with rfl | rfl | rfl | rfl <;> rfl
