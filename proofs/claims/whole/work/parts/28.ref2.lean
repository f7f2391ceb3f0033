abbrev agk (M : mM) (v : Nat → Int32) (i : Nat) (x : Int32) : Prop := (una M i ∧ fkl v (M 119 i) x) ∨ (¬ una M i ∧ fkl v (M 119 i) (x / 6) ∧ fkl (fvl' v (M 119 i) (x / 6)) (M 120 i) (x - x / 6 * 6))
def agv (M : mM) (v : Nat → Int32) (i : Nat) (x : Int32) : Nat → Int32 := if una M i then fvl' v (M 119 i) x else if fkl v (M 119 i) (x / 6) then fvl' (fvl' v (M 119 i) (x / 6)) (M 120 i) (x - x / 6 * 6) else fvl' v (M 119 i) (x / 6)
def kpv (M : mM) (d n : Nat) : Nat → Int32 := fun t => if 4 * d ≤ t ∧ t < 4 * d + n then M 128 (t - 4 * d) else M 129 t
def rsv (M : mM) (d n : Nat) : Nat → Int32 := fun t => if t < n then M 129 (4 * d + t) else M 128 t
def dpr (M : mM) (d : Nat) : mM := if d < 3 then up2 (upr M 129 (kpv M (d + 1) 4)) 130 (d + 1) 0 else M
def sb (t : Int64) (x : Int32) : Int64 := (t >>> (x.toInt64 &&& 63)) &&& 1
def ngl (M : mM) (L : mL) (v : Nat → Int32) : Nat → Nat → Bool
  | 0, _ => true
  | n + 1, i => (decide (M 121 i = 0) || decide (sb (L 112 (M 118 i).toNatClampNeg) (tpo M v i) = 0)) && ngl M L v n (i + 1)
theorem nI_41 {d c : Nat} : 4 * nI d + nI c = nI (4 * d + c) := by
  rw [show 4 * nI d = nI (4 * d) from pk_mul 4 d, nI_add]

theorem dn_PM_agrees : y_PM_agrees.cls ≠ "java/lang/invoke/MethodHandle" ∧ y_PM_agrees.cls ≠ "java/lang/invoke/VarHandle" ∧ (parseMethodDescriptor y_PM_agrees.desc).map (fun d => d.parameters.length) = some 2 := by decide +kernel
abbrev pr_PM_agrees : List Value → Mm → Prop := preV 8 (fun k => a_II (fun x0 x1 μ => FM μ ∧ (k = 109 ∧ vp_in x0 60 ∧ rok μ.2.1 x0.toNatClampNeg)))
abbrev po_PM_agrees : List Value → Mm → Option Value → Mm → Prop := qV (fun k => b_II (fun x0 x1 μ r μ' => r = some (.int (b2 (agk μ.2.1 (μ.2.1 128) x0.toNatClampNeg x1))) ∧ μ' = (131, upr μ.2.1 128 (agv μ.2.1 (μ.2.1 128) x0.toNatClampNeg x1), μ.2.2.1, TT)))
theorem ft_PM_agrees : ∀ as μ, pr_PM_agrees as μ → μ.1 + 0 ≤ 131 ∧ cz μ.1 + 0 ≤ cz 131 := hf_S (n := 131) (Nat.le_refl _) (fun as μ h => by
  obtain ⟨k, r, rfl, hk, h⟩ := preV_e h
  obtain ⟨x0, x1, rfl, h⟩ := a_II_e h
  exact h.1.1)
def C_PM_agrees : Cf := fun id => match id with
  | 0 => trF (2 + 1) pr_PM_fits po_PM_fits
  | _ => fun _ _ _ => False
set_option maxRecDepth 100000 in
theorem cs_PM_agrees (l : Launch) : ∀ x ∈ k_PM_agrees, CS l R_PM b_PM_agrees 5 (rmm 1 0 0) 131 131 C_PM_agrees x := fc (CS.no rfl) (fc (CS.no rfl) (fc (CS.no rfl) (fc (CS.no rfl) (fc (CS.no rfl) (fc (CS.no rfl) (fc (CS.no rfl) (fc (CS.no rfl) (fc (CS.no rfl) (fc (CS.no rfl) (fc (CS.no rfl) (fc (CS.no rfl) (fc (CS.no rfl) (fc (CS.no rfl) (fc (CS.no rfl) (fc (CS.no rfl) (fc (CS.no rfl) (fc (CS.no rfl) (fc (CS.no rfl) (fc (CS.no rfl) (fc (CS.no rfl) (fc (CS.no rfl) (fc (CS.no rfl) (fc (CS.no rfl) (fc (CS.no rfl) (fc (CS.V c_PM_fits wk_PM_fits wl_PM_109 wm_PM_fits we_PM_fits rfl rfl wi_PM dn_PM_fits ⟨rfl, rfl⟩ ⟨by decide, by decide⟩ ft_PM_fits rfl (e_PM_agrees_40).1) (fc (CS.no rfl) (fc (CS.no rfl) (fc (CS.no rfl) (fc (CS.no rfl) (fc (CS.no rfl) (fc (CS.no rfl) (fc (CS.no rfl) (fc (CS.no rfl) (fc (CS.no rfl) (fc (CS.no rfl) (fc (CS.no rfl) (fc (CS.no rfl) (fc (CS.no rfl) (fc (CS.V c_PM_fits wk_PM_fits wl_PM_109 wm_PM_fits we_PM_fits rfl rfl wi_PM dn_PM_fits ⟨rfl, rfl⟩ ⟨by decide, by decide⟩ ft_PM_fits rfl (e_PM_agrees_65).1) (fc (CS.no rfl) (fc (CS.no rfl) (fc (CS.no rfl) (fc (CS.no rfl) (fc (CS.no rfl) (fun _ h => absurd h List.not_mem_nil)))))))))))))))))))))))))))))))))))))))))))))
set_option maxRecDepth 100000 in
set_option maxHeartbeats 4000000 in
theorem c_PM_agrees : Cn y_PM_agrees b_PM_agrees 5 (some .boolean) (rmm 1 0 0) (2 + 1) 0 0 pr_PM_agrees po_PM_agrees := cv_II (ci := 8) (f := fun k => fun x0 x1 μ => FM μ ∧ (k = 109 ∧ vp_in x0 60 ∧ rok μ.2.1 x0.toNatClampNeg)) (g := fun k => fun x0 x1 μ r μ' => r = some (.int (b2 (agk μ.2.1 (μ.2.1 128) x0.toNatClampNeg x1))) ∧ μ' = (131, upr μ.2.1 128 (agv μ.2.1 (μ.2.1 128) x0.toNatClampNeg x1), μ.2.2.1, TT)) fun l k x0 x1 μ hk h => by
  obtain ⟨hm, h⟩ := h
  obtain ⟨M, L, rfl⟩ := hm.e
  refine ky_met (own := R_PM) (ini := 0) (rb := 1) (nE := 131) (cd := k_PM_agrees) (C := C_PM_agrees) (by decide) rfl (fun h => by cases h) (Nat.le_of_ble_eq_true rfl) ⟨rfl, rfl⟩ (Or.inr (Or.inl ⟨rfl, rfl⟩)) rfl rfl (by decide) ok_PM_agrees (cs_PM_agrees l) rt_PM_agrees (fun K hs => ?_)
  obtain ⟨rfl, hx, hr⟩ := h
  have hr : rok M x0.toNatClampNeg := hr
  obtain ⟨r1, r2, r3, r4⟩ := id hr
  refine hs.go [] 60 _ _ _ _ ⟨rfl, _, rfl, rfl, _, rfl, rfl, hx, rfl, r1, fun h1 => ⟨rfl, _, rfl, rfl, hx, fun _ => ⟨by decide, ⟨rfl, ⟨rfl, rfl⟩, rfl, r2⟩, rfl, rfl, ?_⟩, fun z => absurd rfl z⟩, fun h1 => ⟨rfl, _, rfl, rfl, hx, fun z => absurd z (by decide), fun _ => ⟨⟨rfl, ⟨rfl, rfl⟩, rfl, r2⟩, rfl, rfl, ?_⟩⟩⟩
  · have h1 : ¬ una M x0.toNatClampNeg := h1
    have r3 : tmok (M 120 x0.toNatClampNeg) := r3.resolve_left h1
    intro r μ' hq
    have g1 : r = some (Value.int (b2 (fkl (M 128) (M 119 x0.toNatClampNeg) (x1 / 6)))) := hq.1
    have g2 : μ' = (131, upr M 128 (fvl' (M 128) (M 119 x0.toNatClampNeg) (x1 / 6)), L, TT) := hq.2
    rw [g1, g2]
    by_cases h2 : fkl (M 128) (M 119 x0.toNatClampNeg) (x1 / 6)
    · rw [b2_t h2]
      refine ⟨fun z => absurd z (by decide), fun _ => ⟨fun z => absurd rfl z, fun _ => ⟨rfl, _, rfl, rfl, hx, by decide, ⟨rfl, ⟨rfl, rfl⟩, rfl, r3⟩, rfl, rfl, ?_⟩⟩⟩
      intro r μ' hq
      have g1 : r = some (Value.int (b2 (fkl (upr M 128 (fvl' (M 128) (M 119 x0.toNatClampNeg) (x1 / 6)) 128) (M 120 x0.toNatClampNeg) (x1 - x1 / 6 * 6)))) := hq.1
      have g2 : μ' = (131, upr (upr M 128 (fvl' (M 128) (M 119 x0.toNatClampNeg) (x1 / 6))) 128 (fvl' (upr M 128 (fvl' (M 128) (M 119 x0.toNatClampNeg) (x1 / 6)) 128) (M 120 x0.toNatClampNeg) (x1 - x1 / 6 * 6)), L, TT) := hq.2
      rw [upr_s] at g1
      rw [upr_s, upr_upr] at g2
      have e : agv M (M 128) x0.toNatClampNeg x1 = fvl' (fvl' (M 128) (M 119 x0.toNatClampNeg) (x1 / 6)) (M 120 x0.toNatClampNeg) (x1 - x1 / 6 * 6) := (if_neg h1).trans (if_pos h2)
      rw [g1, g2]
      by_cases h3 : fkl (fvl' (M 128) (M 119 x0.toNatClampNeg) (x1 / 6)) (M 120 x0.toNatClampNeg) (x1 - x1 / 6 * 6)
      · rw [b2_t h3]
        exact ⟨fun z => absurd z (by decide), fun _ => ⟨rfl, fun _ => Or.inr rfl, vb_t (Or.inr ⟨h1, h2, h3⟩), congrArg (fun w => (131, upr M 128 w, L, TT)) e.symm⟩⟩
      · rw [b2_f h3]
        exact ⟨fun _ => ⟨rfl, fun _ => Or.inl rfl, vb_f (fun z => z.elim (fun q => h1 q.1) (fun q => h3 q.2.2)), congrArg (fun w => (131, upr M 128 w, L, TT)) e.symm⟩, fun z => absurd rfl z⟩
    · rw [b2_f h2]
      have e : agv M (M 128) x0.toNatClampNeg x1 = fvl' (M 128) (M 119 x0.toNatClampNeg) (x1 / 6) := (if_neg h1).trans (if_neg h2)
      exact ⟨fun _ => ⟨rfl, fun _ => Or.inl rfl, vb_f (fun z => z.elim (fun q => h1 q.1) (fun q => h2 q.2.1)), congrArg (fun w => (131, upr M 128 w, L, TT)) e.symm⟩, fun z => absurd rfl z⟩
  · have h1 : una M x0.toNatClampNeg := h1
    intro r μ' hq
    have g1 : r = some (Value.int (b2 (fkl (M 128) (M 119 x0.toNatClampNeg) x1))) := hq.1
    have g2 : μ' = (131, upr M 128 (fvl' (M 128) (M 119 x0.toNatClampNeg) x1), L, TT) := hq.2
    rw [g1, g2]
    have e : agv M (M 128) x0.toNatClampNeg x1 = fvl' (M 128) (M 119 x0.toNatClampNeg) x1 := if_pos h1
    by_cases h2 : fkl (M 128) (M 119 x0.toNatClampNeg) x1
    · rw [b2_t h2]
      exact ⟨fun z => absurd z (by decide), fun _ => ⟨fun _ => ⟨rfl, fun _ => Or.inr rfl, vb_t (Or.inl ⟨h1, h2⟩), congrArg (fun w => (131, upr M 128 w, L, TT)) e.symm⟩, fun z => absurd z (by decide)⟩⟩
    · rw [b2_f h2]
      exact ⟨fun _ => ⟨rfl, fun _ => Or.inl rfl, vb_f (fun z => z.elim (fun q => h2 q.2) (fun q => q.1 h1)), congrArg (fun w => (131, upr M 128 w, L, TT)) e.symm⟩, fun z => absurd rfl z⟩

theorem dn_PM_keep : y_PM_keep.cls ≠ "java/lang/invoke/MethodHandle" ∧ y_PM_keep.cls ≠ "java/lang/invoke/VarHandle" ∧ (parseMethodDescriptor y_PM_keep.desc).map (fun d => d.parameters.length) = some 1 := by decide +kernel
abbrev pr_PM_keep : List Value → Mm → Prop := preV 8 (fun k => a_I (fun x0 μ => FM μ ∧ (k = 109 ∧ vp_in x0 4)))
abbrev po_PM_keep : List Value → Mm → Option Value → Mm → Prop := qV (fun k => b_I (fun x0 μ r μ' => r = none ∧ μ' = (131, upr μ.2.1 129 (kpv μ.2.1 x0.toNatClampNeg 4), μ.2.2.1, TT)))
theorem ft_PM_keep : ∀ as μ, pr_PM_keep as μ → μ.1 + 0 ≤ 131 ∧ cz μ.1 + 0 ≤ cz 131 := hf_S (n := 131) (Nat.le_refl _) (fun as μ h => by
  obtain ⟨k, r, rfl, hk, h⟩ := preV_e h
  obtain ⟨x0, rfl, h⟩ := a_I_e h
  exact h.1.1)
theorem nc_PM_keep : ∀ x ∈ k_PM_keep, isInv x.2.1 = false := by decide +kernel
set_option maxRecDepth 100000 in
set_option maxHeartbeats 4000000 in
theorem c_PM_keep : Cn y_PM_keep b_PM_keep 3 none (rmm 0 0 0) (1 + 1) 0 0 pr_PM_keep po_PM_keep := cv_I (ci := 8) (f := fun k => fun x0 μ => FM μ ∧ (k = 109 ∧ vp_in x0 4)) (g := fun k => fun x0 μ r μ' => r = none ∧ μ' = (131, upr μ.2.1 129 (kpv μ.2.1 x0.toNatClampNeg 4), μ.2.2.1, TT)) fun l k x0 μ hk h => by
  obtain ⟨hm, h⟩ := h
  obtain ⟨M, L, rfl⟩ := hm.e
  refine ky_met (own := R_PM) (ini := 0) (rb := 3) (nE := 131) (cd := k_PM_keep) (C := (fun _ _ _ _ => False)) (by decide) rfl (fun h => by cases h) (Nat.le_of_ble_eq_true rfl) ⟨rfl, rfl⟩ (Or.inr (Or.inr (Or.inr ⟨rfl, rfl⟩))) rfl rfl (by decide) ok_PM_keep (fun x hx => CS.no (nc_PM_keep x hx)) rt_PM_keep (fun K hs => ?_)
  obtain ⟨rfl, hx⟩ := h
  obtain ⟨d, hd, rfl⟩ := vp_in_of hx (by decide)
  show _
  have loop : ∀ (n c : Nat), c + n = 4 → K 2 [some (.ref 109), some (.int (nI d)), some (.int (nI c))] [] (131, upr M 129 (kpv M d c), L, TT) := by
    intro n
    induction n with
    | zero =>
      intro c hc
      rw [show c = 4 by omega]
      refine hs.go [2] 40 _ _ _ _ ⟨fun _ => ⟨rfl, rfl, ?_⟩, fun z => absurd (by decide) z⟩
      show (131, upr M 129 (kpv M d 4), L, TT) = (131, upr M 129 (kpv M (nI d).toNatClampNeg 4), L, TT)
      rw [nI_clamp (n := d) (by omega)]
    | succ n ih =>
      intro c hc
      have h9 := ih (c + 1) (by omega)
      rw [nI_succ] at h9
      have e : upr M 129 (kpv M d (c + 1)) = up2 (upr M 129 (kpv M d c)) 129 (4 * d + c) (M 128 c) := by
        funext a b
        unfold up2 upr kpv
        by_cases ha : a = 129
        · subst ha
          by_cases hb : b = 4 * d + c
          · subst hb
            have e1 : 4 * d ≤ 4 * d + c ∧ 4 * d + c < 4 * d + (c + 1) := by omega
            have e2 : 4 * d + c - 4 * d = c := by omega
            simp [e2]
          · have : (4 * d ≤ b ∧ b < 4 * d + (c + 1)) ↔ (4 * d ≤ b ∧ b < 4 * d + c) := by omega
            simp only [this, hb, and_false, if_false, if_true]
        · simp [ha]
      rw [e] at h9
      have i1 : vp_in (nI c) 4 := vp_in_nI (by omega) (by decide)
      have i2 : vp_in (4 * nI d + nI c) 16 := by rw [nI_41]; exact vp_in_nI (by omega) (by decide)
      refine hs.go [2] 40 _ _ _ _ ⟨fun z => absurd z (nI_ge (a := c) (b := 4) (by omega) (by decide)), fun _ => ⟨rfl, _, rfl, rfl, _, rfl, rfl, i1, rfl, i2, ?_⟩⟩
      show K 2 _ _ (131, up2 (upr M 129 (kpv M d c)) 129 (4 * nI d + nI c).toNatClampNeg (M 128 (nI c).toNatClampNeg), L, TT)
      rw [nI_41, nI_clamp (n := 4 * d + c) (by omega), nI_clamp (n := c) (by omega)]
      exact h9
  have h0 := loop 4 0 rfl
  have e0 : upr M 129 (kpv M d 0) = M := by
    have : kpv M d 0 = M 129 := by
      funext t
      unfold kpv
      exact if_neg (by omega)
    rw [this, upr_id]
  rw [e0] at h0
  exact hs.go [2] 40 _ _ _ _ h0

theorem dn_PM_restore : y_PM_restore.cls ≠ "java/lang/invoke/MethodHandle" ∧ y_PM_restore.cls ≠ "java/lang/invoke/VarHandle" ∧ (parseMethodDescriptor y_PM_restore.desc).map (fun d => d.parameters.length) = some 1 := by decide +kernel
abbrev pr_PM_restore : List Value → Mm → Prop := preV 8 (fun k => a_I (fun x0 μ => FM μ ∧ (k = 109 ∧ vp_in x0 4)))
abbrev po_PM_restore : List Value → Mm → Option Value → Mm → Prop := qV (fun k => b_I (fun x0 μ r μ' => r = none ∧ μ' = (131, upr μ.2.1 128 (rsv μ.2.1 x0.toNatClampNeg 4), μ.2.2.1, TT)))
theorem ft_PM_restore : ∀ as μ, pr_PM_restore as μ → μ.1 + 0 ≤ 131 ∧ cz μ.1 + 0 ≤ cz 131 := hf_S (n := 131) (Nat.le_refl _) (fun as μ h => by
  obtain ⟨k, r, rfl, hk, h⟩ := preV_e h
  obtain ⟨x0, rfl, h⟩ := a_I_e h
  exact h.1.1)
theorem nc_PM_restore : ∀ x ∈ k_PM_restore, isInv x.2.1 = false := by decide +kernel
set_option maxRecDepth 100000 in
set_option maxHeartbeats 4000000 in
theorem c_PM_restore : Cn y_PM_restore b_PM_restore 3 none (rmm 0 0 0) (1 + 1) 0 0 pr_PM_restore po_PM_restore := cv_I (ci := 8) (f := fun k => fun x0 μ => FM μ ∧ (k = 109 ∧ vp_in x0 4)) (g := fun k => fun x0 μ r μ' => r = none ∧ μ' = (131, upr μ.2.1 128 (rsv μ.2.1 x0.toNatClampNeg 4), μ.2.2.1, TT)) fun l k x0 μ hk h => by
  obtain ⟨hm, h⟩ := h
  obtain ⟨M, L, rfl⟩ := hm.e
  refine ky_met (own := R_PM) (ini := 0) (rb := 3) (nE := 131) (cd := k_PM_restore) (C := (fun _ _ _ _ => False)) (by decide) rfl (fun h => by cases h) (Nat.le_of_ble_eq_true rfl) ⟨rfl, rfl⟩ (Or.inr (Or.inr (Or.inr ⟨rfl, rfl⟩))) rfl rfl (by decide) ok_PM_restore (fun x hx => CS.no (nc_PM_restore x hx)) rt_PM_restore (fun K hs => ?_)
  obtain ⟨rfl, hx⟩ := h
  obtain ⟨d, hd, rfl⟩ := vp_in_of hx (by decide)
  have loop : ∀ (n c : Nat), c + n = 4 → K 2 [some (.ref 109), some (.int (nI d)), some (.int (nI c))] [] (131, upr M 128 (rsv M d c), L, TT) := by
    intro n
    induction n with
    | zero =>
      intro c hc
      rw [show c = 4 by omega]
      refine hs.go [2] 40 _ _ _ _ ⟨fun _ => ⟨rfl, rfl, ?_⟩, fun z => absurd (by decide) z⟩
      show (131, upr M 128 (rsv M d 4), L, TT) = (131, upr M 128 (rsv M (nI d).toNatClampNeg 4), L, TT)
      rw [nI_clamp (n := d) (by omega)]
    | succ n ih =>
      intro c hc
      have h9 := ih (c + 1) (by omega)
      rw [nI_succ] at h9
      have e : upr M 128 (rsv M d (c + 1)) = up2 (upr M 128 (rsv M d c)) 128 c (M 129 (4 * d + c)) := by
        funext a b
        unfold up2 upr rsv
        by_cases ha : a = 128
        · subst ha
          by_cases hb : b = c
          · subst hb
            simp
          · have : (b < c + 1) ↔ (b < c) := by omega
            simp only [this, hb, and_false, if_false, if_true]
        · simp [ha]
      rw [e] at h9
      have i1 : vp_in (nI c) 4 := vp_in_nI (by omega) (by decide)
      have i2 : vp_in (4 * nI d + nI c) 16 := by rw [nI_41]; exact vp_in_nI (by omega) (by decide)
      refine hs.go [2] 40 _ _ _ _ ⟨fun z => absurd z (nI_ge (a := c) (b := 4) (by omega) (by decide)), fun _ => ⟨rfl, _, rfl, rfl, _, rfl, rfl, i2, rfl, i1, ?_⟩⟩
      show K 2 _ _ (131, up2 (upr M 128 (rsv M d c)) 128 (nI c).toNatClampNeg (M 129 (4 * nI d + nI c).toNatClampNeg), L, TT)
      rw [nI_41, nI_clamp (n := 4 * d + c) (by omega), nI_clamp (n := c) (by omega)]
      exact h9
  have h0 := loop 4 0 rfl
  have e0 : upr M 128 (rsv M d 0) = M := by
    have : rsv M d 0 = M 128 := by
      funext t
      unfold rsv
      exact if_neg (by omega)
    rw [this, upr_id]
  rw [e0] at h0
  exact hs.go [2] 40 _ _ _ _ h0

theorem dn_PM_deeper : y_PM_deeper.cls ≠ "java/lang/invoke/MethodHandle" ∧ y_PM_deeper.cls ≠ "java/lang/invoke/VarHandle" ∧ (parseMethodDescriptor y_PM_deeper.desc).map (fun d => d.parameters.length) = some 1 := by decide +kernel
abbrev pr_PM_deeper : List Value → Mm → Prop := preV 8 (fun k => a_I (fun x0 μ => FM μ ∧ (k = 109 ∧ vp_in x0 4)))
abbrev po_PM_deeper : List Value → Mm → Option Value → Mm → Prop := qV (fun k => b_I (fun x0 μ r μ' => r = some (.int (x0 + 1)) ∧ μ' = (131, dpr μ.2.1 x0.toNatClampNeg, μ.2.2.1, TT)))
theorem ft_PM_deeper : ∀ as μ, pr_PM_deeper as μ → μ.1 + 0 ≤ 131 ∧ cz μ.1 + 0 ≤ cz 131 := hf_S (n := 131) (Nat.le_refl _) (fun as μ h => by
  obtain ⟨k, r, rfl, hk, h⟩ := preV_e h
  obtain ⟨x0, rfl, h⟩ := a_I_e h
  exact h.1.1)
def C_PM_deeper : Cf := fun id => match id with
  | 0 => trF (1 + 1) pr_PM_keep po_PM_keep
  | _ => fun _ _ _ => False
set_option maxRecDepth 100000 in
theorem cs_PM_deeper (l : Launch) : ∀ x ∈ k_PM_deeper, CS l R_PM b_PM_deeper 2 (rmm 1 0 0) 131 131 C_PM_deeper x := fc (CS.no rfl) (fc (CS.no rfl) (fc (CS.no rfl) (fc (CS.no rfl) (fc (CS.no rfl) (fc (CS.no rfl) (fc (CS.no rfl) (fc (CS.V c_PM_keep wk_PM_keep wl_PM_115 wm_PM_keep we_PM_keep rfl rfl wi_PM dn_PM_keep ⟨rfl, rfl⟩ ⟨by decide, by decide⟩ ft_PM_keep rfl (e_PM_deeper_9).1) (fc (CS.no rfl) (fc (CS.no rfl) (fc (CS.no rfl) (fc (CS.no rfl) (fc (CS.no rfl) (fc (CS.no rfl) (fc (CS.no rfl) (fc (CS.no rfl) (fc (CS.no rfl) (fc (CS.no rfl) (fc (CS.no rfl) (fun _ h => absurd h List.not_mem_nil)))))))))))))))))))
set_option maxRecDepth 100000 in
set_option maxHeartbeats 4000000 in
theorem c_PM_deeper : Cn y_PM_deeper b_PM_deeper 2 (some .int) (rmm 1 0 0) (1 + 1) 0 0 pr_PM_deeper po_PM_deeper := cv_I (ci := 8) (f := fun k => fun x0 μ => FM μ ∧ (k = 109 ∧ vp_in x0 4)) (g := fun k => fun x0 μ r μ' => r = some (.int (x0 + 1)) ∧ μ' = (131, dpr μ.2.1 x0.toNatClampNeg, μ.2.2.1, TT)) fun l k x0 μ hk h => by
  obtain ⟨hm, h⟩ := h
  obtain ⟨M, L, rfl⟩ := hm.e
  refine ky_met (own := R_PM) (ini := 0) (rb := 0) (nE := 131) (cd := k_PM_deeper) (C := C_PM_deeper) (by decide) rfl (fun h => by cases h) (Nat.le_of_ble_eq_true rfl) ⟨rfl, rfl⟩ (Or.inl ⟨rfl, rfl⟩) rfl rfl (by decide) ok_PM_deeper (cs_PM_deeper l) rt_PM_deeper (fun K hs => ?_)
  obtain ⟨rfl, hx⟩ := h
  obtain ⟨d, hd, rfl⟩ := vp_in_of hx (by decide)
  have ec : (nI d).toNatClampNeg = d := nI_clamp (n := d) (by omega)
  refine hs.go [] 40 _ _ _ _ ⟨fun h1 => ⟨rfl, fun z => (by cases z), rfl, ?_⟩, fun h1 => ⟨⟨rfl, ⟨rfl, rfl⟩, rfl, ?_⟩, rfl, rfl, ?_⟩⟩
  · show (131, M, L, TT) = (131, dpr M (nI d).toNatClampNeg, L, TT)
    have h1 : nI 3 ≤ nI d := h1
    rw [nI_leI (by decide) (by omega)] at h1
    rw [ec]
    unfold dpr
    rw [if_neg (by omega)]
  · have h1 : ¬ nI 3 ≤ nI d := h1
    rw [nI_leI (by decide) (by omega)] at h1
    rw [← nI_succ]
    exact vp_in_nI (by omega) (by decide)
  · have h1 : ¬ nI 3 ≤ nI d := h1
    rw [nI_leI (by decide) (by omega)] at h1
    have i1 : vp_in (nI d + 1) 4 := by rw [← nI_succ]; exact vp_in_nI (by omega) (by decide)
    intro r μ' hq
    have g2 : μ' = (131, upr M 129 (kpv M (nI d + 1).toNatClampNeg 4), L, TT) := hq.2
    rw [hq.1, g2]
    refine ⟨rfl, _, rfl, rfl, i1, rfl, fun z => (by cases z), rfl, ?_⟩
    show (131, up2 (upr M 129 (kpv M (nI d + 1).toNatClampNeg 4)) 130 (nI d + 1).toNatClampNeg 0, L, TT) = (131, dpr M (nI d).toNatClampNeg, L, TT)
    rw [← nI_succ, ec, nI_clamp (n := d + 1) (by omega)]
    unfold dpr
    rw [if_pos (by omega)]
