def bdv (v : Nat → Int32) (t : Nat) (x : Int32) : Nat → Int32 := if v t = -1 then upd v t x else v
def rlv4 (v : Nat → Int32) (n : Nat) : Nat → Int32 := fun t => if 10 ≤ t ∧ t < n then -1 else v t

theorem dn_DV_bind : y_DV_bind.cls ≠ "java/lang/invoke/MethodHandle" ∧ y_DV_bind.cls ≠ "java/lang/invoke/VarHandle" ∧ (parseMethodDescriptor y_DV_bind.desc).map (fun d => d.parameters.length) = some 2 := by decide +kernel
abbrev pr_DV_bind : List Value → Mm → Prop := preV 6 (fun k => a_II (fun x0 x1 μ => FM μ ∧ (k = 103 ∧ vp_in x0 14)))
abbrev po_DV_bind : List Value → Mm → Option Value → Mm → Prop := qV (fun k => b_II (fun x0 x1 μ r μ' => r = some (.int (b2 (bdv (μ.2.1 104) x0.toNatClampNeg x1 x0.toNatClampNeg = x1))) ∧ μ' = (131, upr μ.2.1 104 (bdv (μ.2.1 104) x0.toNatClampNeg x1), μ.2.2.1, TT)))
theorem ft_DV_bind : ∀ as μ, pr_DV_bind as μ → μ.1 + 0 ≤ 131 ∧ cz μ.1 + 0 ≤ cz 131 := hf_S (n := 131) (Nat.le_refl _) (fun as μ h => by
  obtain ⟨k, r, rfl, hk, h⟩ := preV_e h
  obtain ⟨x0, x1, rfl, h⟩ := a_II_e h
  exact h.1.1)
theorem nc_DV_bind : ∀ x ∈ k_DV_bind, isInv x.2.1 = false := by decide +kernel
set_option maxRecDepth 100000 in
set_option maxHeartbeats 4000000 in
theorem c_DV_bind : Cn y_DV_bind b_DV_bind 3 (some .boolean) (rmm 0 0 0) (2 + 1) 0 0 pr_DV_bind po_DV_bind := cv_II (ci := 6) (f := fun k => fun x0 x1 μ => FM μ ∧ (k = 103 ∧ vp_in x0 14)) (g := fun k => fun x0 x1 μ r μ' => r = some (.int (b2 (bdv (μ.2.1 104) x0.toNatClampNeg x1 x0.toNatClampNeg = x1))) ∧ μ' = (131, upr μ.2.1 104 (bdv (μ.2.1 104) x0.toNatClampNeg x1), μ.2.2.1, TT)) fun l k x0 x1 μ hk h => by
  obtain ⟨hm, h⟩ := h
  obtain ⟨M, L, rfl⟩ := hm.e
  refine ky_met (own := R_DV) (ini := 0) (rb := 1) (nE := 131) (cd := k_DV_bind) (C := (fun _ _ _ _ => False)) (by decide) rfl (fun h => by cases h) (Nat.le_of_ble_eq_true rfl) ⟨rfl, rfl⟩ (Or.inr (Or.inl ⟨rfl, rfl⟩)) rfl rfl (by decide) ok_DV_bind (fun x hx => CS.no (nc_DV_bind x hx)) rt_DV_bind (fun K hs => ?_)
  obtain ⟨rfl, hx⟩ := h
  refine hs.go [] 40 _ _ _ _ ⟨rfl, _, rfl, rfl, hx, fun h1 => ⟨rfl, _, rfl, rfl, hx, ?_⟩, fun h1 => ⟨rfl, _, rfl, rfl, hx, rfl, _, rfl, rfl, hx, ?_⟩⟩
  · have h1 : ¬ M 104 x0.toNatClampNeg = -1 := h1
    have e : bdv (M 104) x0.toNatClampNeg x1 = M 104 := if_neg h1
    show (¬ M 104 x0.toNatClampNeg = x1 → 131 = 131 ∧ _ ∧ some (Value.int 0) = some (Value.int (b2 (bdv (M 104) x0.toNatClampNeg x1 x0.toNatClampNeg = x1))) ∧ (131, M, L, TT) = (131, upr M 104 (bdv (M 104) x0.toNatClampNeg x1), L, TT)) ∧ (M 104 x0.toNatClampNeg = x1 → 131 = 131 ∧ _ ∧ some (Value.int 1) = some (Value.int (b2 (bdv (M 104) x0.toNatClampNeg x1 x0.toNatClampNeg = x1))) ∧ (131, M, L, TT) = (131, upr M 104 (bdv (M 104) x0.toNatClampNeg x1), L, TT))
    rw [e, upr_id]
    exact ⟨fun h2 => ⟨rfl, fun _ => Or.inl rfl, vb_f h2, rfl⟩, fun h2 => ⟨rfl, fun _ => Or.inr rfl, vb_t h2, rfl⟩⟩
  · have h1 : M 104 x0.toNatClampNeg = -1 := h1
    have e : bdv (M 104) x0.toNatClampNeg x1 = upd (M 104) x0.toNatClampNeg x1 := if_pos h1
    have e1 : up2 M 104 x0.toNatClampNeg x1 104 x0.toNatClampNeg = x1 := up2_s
    refine ⟨fun h2 => absurd e1 h2, fun h2 => ⟨rfl, fun _ => Or.inr rfl, ?_, ?_⟩⟩
    · show some (Value.int 1) = some (Value.int (b2 (bdv (M 104) x0.toNatClampNeg x1 x0.toNatClampNeg = x1)))
      rw [e]
      exact vb_t (pk_us)
    · show (131, up2 M 104 x0.toNatClampNeg x1, L, TT) = (131, upr M 104 (bdv (M 104) x0.toNatClampNeg x1), L, TT)
      rw [e, up2_upr]

theorem dn_DV_release : y_DV_release.cls ≠ "java/lang/invoke/MethodHandle" ∧ y_DV_release.cls ≠ "java/lang/invoke/VarHandle" ∧ (parseMethodDescriptor y_DV_release.desc).map (fun d => d.parameters.length) = some 0 := by decide +kernel
abbrev pr_DV_release : List Value → Mm → Prop := preV 6 (fun k => a_0 (fun μ => FM μ ∧ (k = 103)))
abbrev po_DV_release : List Value → Mm → Option Value → Mm → Prop := qV (fun k => b_0 (fun μ r μ' => r = none ∧ μ' = (131, upr μ.2.1 104 (rlv4 (μ.2.1 104) 14), μ.2.2.1, TT)))
theorem ft_DV_release : ∀ as μ, pr_DV_release as μ → μ.1 + 0 ≤ 131 ∧ cz μ.1 + 0 ≤ cz 131 := hf_S (n := 131) (Nat.le_refl _) (fun as μ h => by
  obtain ⟨k, r, rfl, hk, h⟩ := preV_e h
  obtain ⟨rfl, h⟩ := a_0_e h
  exact h.1.1)
theorem nc_DV_release : ∀ x ∈ k_DV_release, isInv x.2.1 = false := by decide +kernel
set_option maxRecDepth 100000 in
set_option maxHeartbeats 4000000 in
theorem c_DV_release : Cn y_DV_release b_DV_release 2 none (rmm 0 0 0) (0 + 1) 0 0 pr_DV_release po_DV_release := cv_0 (ci := 6) (f := fun k => fun μ => FM μ ∧ (k = 103)) (g := fun k => fun μ r μ' => r = none ∧ μ' = (131, upr μ.2.1 104 (rlv4 (μ.2.1 104) 14), μ.2.2.1, TT)) fun l k  μ hk h => by
  obtain ⟨hm, h⟩ := h
  obtain ⟨M, L, rfl⟩ := hm.e
  refine ky_met (own := R_DV) (ini := 0) (rb := 3) (nE := 131) (cd := k_DV_release) (C := (fun _ _ _ _ => False)) (by decide) rfl (fun h => by cases h) (Nat.le_of_ble_eq_true rfl) ⟨rfl, rfl⟩ (Or.inr (Or.inr (Or.inr ⟨rfl, rfl⟩))) rfl rfl (by decide) ok_DV_release (fun x hx => CS.no (nc_DV_release x hx)) rt_DV_release (fun K hs => ?_)
  subst h
  have loop : ∀ (d c : Nat), c + d = 14 → 10 ≤ c → K 3 [some (.ref 103), some (.int (nI c))] [] (131, upr M 104 (rlv4 (M 104) c), L, TT) := by
    intro d
    induction d with
    | zero =>
      intro c hc _
      rw [show c = 14 by omega]
      exact hs.go [3] 40 _ _ _ _ ⟨fun _ => ⟨rfl, rfl, rfl⟩, fun z => absurd (by decide) z⟩
    | succ d ih =>
      intro c hc h10
      have hin : vp_in (nI c) 14 := vp_in_nI (by omega) (by decide)
      have hcl : (nI c).toNatClampNeg = c := nI_clamp (n := c) (by omega)
      have h9 := ih (c + 1) (by omega) (by omega)
      rw [nI_succ] at h9
      have e : upr M 104 (rlv4 (M 104) (c + 1)) = up2 (upr M 104 (rlv4 (M 104) c)) 104 c (-1) := by
        funext a b
        unfold up2 upr rlv4
        by_cases ha : a = 104
        · subst ha
          by_cases hb : b = c
          · subst hb
            simp [h10]
          · have : (b < c + 1) ↔ b < c := by omega
            simp [hb, this]
        · simp [ha]
      rw [e] at h9
      refine hs.go [3] 40 _ _ _ _ ⟨fun z => absurd z (nI_nlt (a := 13) (b := c) (by omega) (by omega)), fun _ => ⟨rfl, _, rfl, rfl, hin, ?_⟩⟩
      show K 3 _ _ (131, up2 (upr M 104 (rlv4 (M 104) c)) 104 (nI c).toNatClampNeg (-1), L, TT)
      rw [hcl]
      exact h9
  have h0 := loop 4 10 rfl (Nat.le_refl _)
  have e0 : upr M 104 (rlv4 (M 104) 10) = M := by
    have : rlv4 (M 104) 10 = M 104 := by
      funext t
      unfold rlv4
      exact if_neg (by omega)
    rw [this, upr_id]
  rw [e0] at h0
  exact hs.go [3] 40 _ _ _ _ h0
