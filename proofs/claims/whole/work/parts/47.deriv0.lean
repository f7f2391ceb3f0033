theorem dn_DV_init : y_DV_init.cls ≠ "java/lang/invoke/MethodHandle" ∧ y_DV_init.cls ≠ "java/lang/invoke/VarHandle" ∧ (parseMethodDescriptor y_DV_init.desc).map (fun d => d.parameters.length) = some 0 := by decide +kernel
abbrev f_DVr (k : Nat) : Mm → Prop := fun μ => k = 103 ∧ ∃ M L T, μ = (105, M, L, T) ∧ T 103 0 = some 104
abbrev g_DVr (k : Nat) : Mm → Option Value → Mm → Prop := fun μ r μ' => r = none ∧ μ' = (105, upr μ.2.1 104 (rlv4 (μ.2.1 104) 14), μ.2.2.1, μ.2.2.2)
abbrev pr_DV_release5 : List Value → Mm → Prop := preV 6 (fun k => a_0 (f_DVr k))
abbrev po_DV_release5 : List Value → Mm → Option Value → Mm → Prop := qV (fun k => b_0 (g_DVr k))
theorem ft_DV_release5 : ∀ as μ, pr_DV_release5 as μ → μ.1 + 0 ≤ 105 ∧ cz μ.1 + 0 ≤ cz 105 := hf_S (n := 105) (Nat.le_refl _) (fun as μ h => by
  obtain ⟨k, r, rfl, hk, h⟩ := preV_e h
  obtain ⟨rfl, h⟩ := a_0_e h
  obtain ⟨rfl, M, L, T, rfl, hT⟩ := h
  rfl)
set_option maxRecDepth 100000 in
set_option maxHeartbeats 4000000 in
theorem c_DV_release5 : Cn y_DV_release b_DV_release 2 none (rmm 0 0 0) (0 + 1) 0 0 pr_DV_release5 po_DV_release5 := cv_0 (ci := 6) (f := f_DVr) (g := g_DVr) fun l k μ hk h => by
  obtain ⟨rfl, M, L, T, rfl, hT⟩ := h
  refine ky_met (own := R_DV) (ini := 0) (rb := 3) (nE := 105) (cd := k_DV_release) (C := (fun _ _ _ _ => False)) (by decide) rfl (fun h => by cases h) (Nat.le_of_ble_eq_true rfl) ⟨rfl, rfl⟩ (Or.inr (Or.inr (Or.inr ⟨rfl, rfl⟩))) rfl rfl (by decide) ok_DV_release (fun x hx => CS.no (nc_DV_release x hx)) rt_DV_release (fun K hs => ?_)
  have loop : ∀ (d c : Nat), c + d = 14 → 10 ≤ c → K 3 [some (.ref 103), some (.int (nI c))] [] (105, upr M 104 (rlv4 (M 104) c), L, T) := by
    intro d
    induction d with
    | zero =>
      intro c hc _
      rw [show c = 14 by omega]
      exact hs.go [3] 40 _ _ _ _ ⟨fun _ => ⟨rfl, rfl, rfl⟩, fun z => absurd (by decide) z⟩
    | succ d ih =>
      intro c hc h10
      have hin : vp_in (nI c) 14 := vp_in_nI (by omega) (by decide)
      have hcl : (nI c).toNatClampNeg = c := nI_clamp (n := c) (by omega)
      have h9 := ih (c + 1) (by omega) (by omega)
      rw [nI_succ] at h9
      have e : upr M 104 (rlv4 (M 104) (c + 1)) = up2 (upr M 104 (rlv4 (M 104) c)) 104 c (-1) := by
        funext a b
        unfold up2 upr rlv4
        by_cases ha : a = 104
        · subst ha
          by_cases hb : b = c
          · subst hb
            simp [h10]
          · have : (b < c + 1) ↔ b < c := by omega
            simp [hb, this]
        · simp [ha]
      rw [e] at h9
      refine hs.go [3] 40 _ _ _ _ ⟨fun z => absurd z (nI_nlt (a := 13) (b := c) (by omega) (by omega)), fun _ => ⟨rfl, _, hT, rfl, hin, ?_⟩⟩
      show K 3 _ _ (105, up2 (upr M 104 (rlv4 (M 104) c)) 104 (nI c).toNatClampNeg (-1), L, T)
      rw [hcl]
      exact h9
  have h0 := loop 4 10 rfl (Nat.le_refl _)
  have e0 : upr M 104 (rlv4 (M 104) 10) = M := by
    have : rlv4 (M 104) 10 = M 104 := by
      funext t
      unfold rlv4
      exact if_neg (by omega)
    rw [this, upr_id]
  rw [e0] at h0
  exact hs.go [3] 40 _ _ _ _ h0
def ivl (c : Nat) : Nat → Int32 := fun j => if j < c then nI j else 0
abbrev f_DVi (k : Nat) : Mm → Prop := fun μ => k = 103 ∧ ∃ M L T, μ = (104, M, L, nT T 103)
abbrev g_DVi (k : Nat) : Mm → Option Value → Mm → Prop := fun μ r μ' => r = none ∧ μ' = (105, upr μ.2.1 104 (rlv4 (ivl 6) 14), upr μ.2.2.1 104 (fun _ => 0), mx μ.2.2.2 103)
abbrev pr_DV_init : List Value → Mm → Prop := preV 6 (fun k => a_0 (f_DVi k))
abbrev po_DV_init : List Value → Mm → Option Value → Mm → Prop := qV (fun k => b_0 (g_DVi k))
theorem ft_DV_init : ∀ as μ, pr_DV_init as μ → μ.1 + 1 ≤ 105 ∧ cz μ.1 + 14 ≤ cz 105 := by
  intro as μ h
  obtain ⟨k, r, rfl, hk, h⟩ := preV_e h
  obtain ⟨rfl, h⟩ := a_0_e h
  obtain ⟨rfl, M, L, T, rfl⟩ := h
  exact ⟨Nat.le_of_ble_eq_true rfl, Nat.le_of_ble_eq_true rfl⟩
def C_DV_init : Cf := fun id => match id with
  | 0 => trO
  | 1 => trF (0 + 1) pr_DV_release5 po_DV_release5
  | _ => fun _ _ _ => False
set_option maxRecDepth 100000 in
theorem cs_DV_init (l : Launch) : ∀ x ∈ k_DV_init, CS l R_DV b_DV_init 2 (rmm 1 1 14) 104 105 C_DV_init x := fc (CS.no rfl) (fc (CS.O wl_DV_3 ⟨by decide, by decide⟩ rfl (e_DV_init_1).1) (fc (CS.no rfl) (fc (CS.no rfl) (fc (CS.no rfl) (fc (CS.no rfl) (fc (CS.no rfl) (fc (CS.no rfl) (fc (CS.no rfl) (fc (CS.no rfl) (fc (CS.no rfl) (fc (CS.no rfl) (fc (CS.no rfl) (fc (CS.no rfl) (fc (CS.no rfl) (fc (CS.no rfl) (fc (CS.no rfl) (fc (CS.no rfl) (fc (CS.no rfl) (fc (CS.V c_DV_release5 wk_DV_release wl_DV_15 wm_DV_release we_DV_release rfl rfl wi_DV dn_DV_release ⟨rfl, rfl⟩ ⟨by decide, by decide⟩ ft_DV_release5 rfl (e_DV_init_34).1) (fc (CS.no rfl) (fun _ h => absurd h List.not_mem_nil)))))))))))))))))))))
set_option maxRecDepth 100000 in
set_option maxHeartbeats 4000000 in
theorem c_DV_init : Cn y_DV_init b_DV_init 2 none (rmm 1 1 14) (0 + 1) 1 14 pr_DV_init po_DV_init := cv_0 (ci := 6) (f := f_DVi) (g := g_DVi) fun l k μ hk h => by
  obtain ⟨rfl, M, L, T, rfl⟩ := h
  refine ky_metC (own := R_DV) (ini := 1) (rb := 3) (nE := 105) (cd := k_DV_init) (C := C_DV_init) (by decide) rfl (fun _ => rfl) (Nat.le_of_ble_eq_true rfl) ⟨rfl, rfl⟩ (Or.inr (Or.inr (Or.inr ⟨rfl, rfl⟩))) rfl rfl (by decide) ok_DV_init (cs_DV_init l) rt_DV_init (fun K hs hcv => ?_)
  have loop : ∀ (n c : Nat), c + n = 6 → K 14 [some (.ref 103), some (.int (nI c))] [] (105, upr M 104 (ivl c), upr L 104 (fun _ => 0), up2 (upr (nT T 103) 104 (fun _ => none)) 103 0 (some 104)) := by
    intro n
    induction n with
    | zero =>
      intro c hc
      have hc : c = 6 := by omega
      subst hc
      refine hs.go [14, 37] 40 _ _ _ _ ⟨fun _ => ⟨⟨rfl, rfl, _, _, _, rfl, up2_s⟩, rfl, rfl, ?_⟩, fun z => absurd (Int32.le_refl _) z⟩
      intro r μ' hq
      have g2 : μ' = (105, upr (upr M 104 (ivl 6)) 104 (rlv4 (upr M 104 (ivl 6) 104) 14), upr L 104 (fun _ => 0), up2 (upr (nT T 103) 104 (fun _ => none)) 103 0 (some 104)) := hq.2
      rw [upr_s, upr_upr] at g2
      rw [hq.1, g2]
      refine hcv 37 _ _ 105 _ (upr M 104 (rlv4 (ivl 6) 14)) _ (upr L 104 (fun _ => 0)) _ (mx (nT T 103) 103) (fun k hk => ⟨rfl, rfl, fun j hj => ?_⟩) (hs.go [] 5 _ _ _ _ ⟨rfl, rfl, rfl⟩)
      by_cases h : k < 103
      · exact (if_pos h).trans (by rw [up2_k (by omega), upr_k (by omega)])
      · have e1 : TT k j = (up2 (upr (nT TT 103) 104 (fun _ => none)) 103 0 (some 104)) k j := (show ∀ k, k < 105 → ¬ k < 103 → ∀ j, j < sz (kd k) → TT k j = (up2 (upr (nT TT 103) 104 (fun _ => none)) 103 0 (some 104)) k j by decide +kernel) k hk h j hj
        refine ((if_neg h).trans e1).trans ?_
        rcases (show k = 103 ∨ k = 104 by omega) with rfl | rfl <;> rfl
    | succ n ih =>
      intro c hc
      have ic : vp_in (nI c) 14 := vp_in_nI (by omega) (by decide)
      have ec : (nI c).toNatClampNeg = c := nI_clamp (n := c) (by omega)
      have h9 := ih (c + 1) (by omega)
      rw [nI_succ] at h9
      have e : upr M 104 (ivl (c + 1)) = up2 (upr M 104 (ivl c)) 104 c (nI c) := by
        funext a b
        unfold up2 upr ivl
        by_cases ha : a = 104
        · subst ha
          by_cases hb : b = c
          · subst hb
            simp
          · have : (b < c + 1) ↔ b < c := by omega
            simp [hb, this]
        · simp [ha]
      rw [e] at h9
      refine hs.go [14] 40 _ _ _ _ ⟨fun z => absurd z (nI_ge (a := c) (b := 6) (by omega) (by decide)), fun _ => ⟨rfl, 104, rfl, rfl, ic, ?_⟩⟩
      show K 14 _ _ (105, up2 (upr M 104 (ivl c)) 104 (nI c).toNatClampNeg (nI c), _, _)
      rw [ec]
      exact h9
  have h0 := loop 6 0 rfl
  have ez : ivl 0 = fun _ => 0 := by
    funext j
    exact if_neg (by omega)
  rw [ez] at h0
  exact hs.go [14] 60 _ _ _ _ ⟨rfl, Nat.le_of_ble_eq_true rfl, rfl, (by decide), Nat.le_of_ble_eq_true rfl, rfl, h0⟩

