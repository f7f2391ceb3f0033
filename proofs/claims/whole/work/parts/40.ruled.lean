theorem fix40 {v op : Int32} (hv : vp_in v 20) (ho : vp_in op 6) (h0 : ¬ op = 0) (h1 : ¬ op = 1) : vp_in (2 * v + (op / 2 - 1)) 40 := by
  obtain ⟨a, ha, rfl⟩ := vp_in_of hv (by decide)
  obtain ⟨t, ht, rfl⟩ := vp_in_of ho (by decide)
  have h2 : 2 ≤ t := by
    rcases Nat.lt_or_ge t 2 with z | z
    · rcases (show t = 0 ∨ t = 1 by omega) with rfl | rfl
      · exact absurd rfl h0
      · exact absurd rfl h1
    · exact z
  have e1 : nI t / 2 = nI (t / 2) := pk_div (a := t) (d := 2) (by omega) (by decide) (by decide)
  have e2 : nI (t / 2) - 1 = nI (t / 2 - 1) := pk_sub (a := t / 2) (b := 1) (by omega)
  have e3 : 2 * nI a = nI (2 * a) := pk_mul 2 a
  rw [e1, e2, e3, nI_add]
  exact vp_in_nI (by omega) (by decide)
def rc1 (M : mM) (j i : Nat) : mM := up2 (lat M (4 * j + i) (M 118 (56 + i)) (M 119 (56 + i)) (M 120 (56 + i))) 121 (4 * j + i) (M 121 (56 + i))
def rcl (j : Nat) : Nat → Nat → mM → mM
  | 0, _, M => M
  | n + 1, i, M => rcl j n (i + 1) (rc1 M j i)
/-- the reference's memory with the given rule put in -/
def rul (M : mM) (x : Int32) : mM := rcl x.toNatClampNeg (M 109 8).toNatClampNeg 0 (up2 (up2 (rkM M x) 116 x.toNatClampNeg 1) 117 x.toNatClampNeg (M 109 8))
def RU (M : mM) (L : mL) (x : Int32) (r : Option Value) (μ' : Mm) : Prop :=
  ((M 109 8 = 0 ∨ x = 14) → r = some (.int (-1)) ∧ μ' = (131, M, L, TT)) ∧
  (¬ (M 109 8 = 0 ∨ x = 14) → sfl M (M 109 8).toNatClampNeg 56 1 = 0 → r = some (.int (-2)) ∧ μ' = (131, M, L, TT)) ∧
  (¬ (M 109 8 = 0 ∨ x = 14) → ¬ sfl M (M 109 8).toNatClampNeg 56 1 = 0 → (rkR M x).1 = 0 → r = some (.int (-3)) ∧ μ' = (131, rkM M x, L, TT)) ∧
  (¬ (M 109 8 = 0 ∨ x = 14) → ¬ sfl M (M 109 8).toNatClampNeg 56 1 = 0 → ¬ (rkR M x).1 = 0 → r = some (.int x) ∧ ∃ M', Sm (rul M x) M' ∧ μ' = DM (rul M x) M' L)
theorem PI.rc {M : mM} {j i : Nat} (h : PI M) (hi : i < 4) : PI (rc1 M j i) := by
  obtain ⟨⟨q1, q2, q3, q4⟩, q5⟩ := h.2.2.2.2.2.1 (56 + i) (by omega)
  exact h.put q1 q5 q2 q3 q4
theorem rc1_9 {M : mM} {j i : Nat} : rc1 M j i 109 = M 109 := by
  unfold rc1 lat
  rw [up2_k (by decide), up2_k (by decide), up2_k (by decide), up2_k (by decide), up2_k (by decide)]
theorem frl_e {M : mM} : ∀ n i, ∃ j, i ≤ j ∧ j ≤ i + n ∧ frl M n i = nI j
  | 0, i => ⟨i, Nat.le_refl _, Nat.le_refl _, rfl⟩
  | n + 1, i => by
    by_cases h : M 116 i = 0
    · exact ⟨i, Nat.le_refl _, by omega, if_pos h⟩
    · obtain ⟨j, h1, h2, h3⟩ := frl_e (M := M) n (i + 1)
      exact ⟨j, by omega, by omega, (if_neg h).trans h3⟩

theorem dn_PM_step : y_PM_step.cls ≠ "java/lang/invoke/MethodHandle" ∧ y_PM_step.cls ≠ "java/lang/invoke/VarHandle" ∧ (parseMethodDescriptor y_PM_step.desc).map (fun d => d.parameters.length) = some 1 := by decide +kernel
abbrev pr_PM_step : List Value → Mm → Prop := preV 8 (fun k => a_I (fun x0 μ => FM μ ∧ (k = 109 ∧ PI μ.2.1)))
abbrev po_PM_step : List Value → Mm → Option Value → Mm → Prop := qV (fun k => b_I (fun x0 μ r μ' => r = some (.int (stR μ.2.1 x0).1) ∧ μ' = (131, (stR μ.2.1 x0).2, μ.2.2.1, TT)))
theorem ft_PM_step : ∀ as μ, pr_PM_step as μ → μ.1 + 0 ≤ 131 ∧ cz μ.1 + 0 ≤ cz 131 := hf_S (n := 131) (Nat.le_refl _) (fun as μ h => by
  obtain ⟨k, r, rfl, hk, h⟩ := preV_e h
  obtain ⟨x0, rfl, h⟩ := a_I_e h
  exact h.1.1)
theorem nc_PM_step : ∀ x ∈ k_PM_step, isInv x.2.1 = false := by decide +kernel
set_option maxRecDepth 100000 in
set_option maxHeartbeats 4000000 in
theorem c_PM_step : Cn y_PM_step b_PM_step 8 (some .boolean) (rmm 0 0 0) (1 + 1) 0 0 pr_PM_step po_PM_step := cv_I (ci := 8) (f := fun k => fun x0 μ => FM μ ∧ (k = 109 ∧ PI μ.2.1)) (g := fun k => fun x0 μ r μ' => r = some (.int (stR μ.2.1 x0).1) ∧ μ' = (131, (stR μ.2.1 x0).2, μ.2.2.1, TT)) fun l k x0 μ hk h => by
  obtain ⟨hm, h⟩ := h
  obtain ⟨M, L, rfl⟩ := hm.e
  refine ky_met (own := R_PM) (ini := 0) (rb := 1) (nE := 131) (cd := k_PM_step) (C := (fun _ _ _ _ => False)) (by decide) rfl (fun h => by cases h) (Nat.le_of_ble_eq_true rfl) ⟨rfl, rfl⟩ (Or.inr (Or.inl ⟨rfl, rfl⟩)) rfl rfl (by decide) ok_PM_step (fun x hx => CS.no (nc_PM_step x hx)) rt_PM_step (fun K hs => ?_)
  obtain ⟨rfl, hp⟩ := h
  have hp : PI M := hp
  have no : ¬ (0 ≤ x0 ∧ x0 ≤ 11 ∧ 0 ≤ M 122 x0.toNatClampNeg) → K 19 [some (.ref 109), some (.int x0), none, none, none, none, none, none] [] (131, M, L, TT) := by
    intro h
    have e : stR M x0 = (0, M) := if_neg h
    refine hs.go [19] 10 _ _ _ _ ⟨rfl, fun _ => Or.inl rfl, ?_⟩
    show some (Value.int 0) = some (Value.int (stR M x0).1) ∧ (131, M, L, TT) = (131, (stR M x0).2, L, TT)
    rw [e]
    exact ⟨rfl, rfl⟩
  refine hs.go [19, 21] 20 _ _ _ _ ⟨fun h1 => no (fun z => Int32.not_lt.mpr z.1 h1), fun h1 => ⟨fun h2 => no (fun z => Int32.not_lt.mpr z.2.1 h2), fun h2 => ?_⟩⟩
  have h1 : 0 ≤ x0 := Int32.not_lt.mp h1
  have h2 : x0 ≤ 11 := Int32.not_lt.mp h2
  have hx : vp_in x0 12 := by
    rw [vp_in_iff]
    have e1 := Int32.le_iff_toInt_le.mp h1
    have e2 := Int32.le_iff_toInt_le.mp h2
    have f0 : (0 : Int32).toInt = 0 := rfl
    have f1 : (11 : Int32).toInt = 11 := rfl
    omega
  refine ⟨rfl, _, rfl, rfl, hx, fun h3 => ?_, fun h3 => no (fun z => h3 z.2.2)⟩
  have h3 : 0 ≤ M 122 x0.toNatClampNeg := h3
  obtain ⟨io, ix, iy⟩ : vp_in (M 122 x0.toNatClampNeg) 6 ∧ vp_in (M 123 x0.toNatClampNeg) 6 ∧ vp_in (M 124 x0.toNatClampNeg) 6 := by
    rcases hp.2.2.2.2.2.2.2 _ (cl_lt hx) with z | z
    · rw [z] at h3; exact absurd h3 (by decide)
    · exact z
  have hO : ∀ (b : Int32) (X : mM), stO M (M 122 x0.toNatClampNeg) (M 123 x0.toNatClampNeg).toNatClampNeg (M 124 x0.toNatClampNeg).toNatClampNeg (M 124 x0.toNatClampNeg) = (b, X) → some (Value.int b) = some (Value.int (stR M x0).1) ∧ (131, X, L, TT) = (131, (stR M x0).2, L, TT) := by
    intro b X h
    have e : stR M x0 = (b, X) := (if_pos ⟨h1, h2, h3⟩).trans h
    rw [e]
    exact ⟨rfl, rfl⟩
  have hh : ∀ j, j < 6 → 0 ≤ M 125 j → vp_in (M 125 j) 20 := by
    intro j hj h
    rcases hp.2.2.2.2.2.2.1 j hj with z | z
    · rw [z] at h; exact absurd h (by decide)
    · exact z
  obtain ⟨m, hm20, em⟩ := hp.2.2.1
  refine hs.go [118] 90 _ _ _ _ ⟨rfl, _, rfl, rfl, hx, rfl, _, rfl, rfl, hx, rfl, _, rfl, rfl, hx, fun h4 => ?_, fun h4 => ⟨rfl, fun h5 => ?_, fun h5 => ⟨rfl, fun _ => Or.inl rfl, hO 0 M ((if_pos h4).trans (if_pos h5))⟩⟩⟩
  · refine hs.go [118] 90 _ _ _ _ ⟨fun h5 => ⟨by decide, by decide, fun h6 => ⟨fun _ => ⟨rfl, _, rfl, rfl, ix, fun h7 => ⟨fun _ => ⟨rfl, _, rfl, rfl, _, rfl, rfl, iy, rfl, fix40 (hh _ (cl_lt ix) h7) io h4 h5, rfl, fun _ => Or.inr rfl, hO 1 _ ?_⟩, fun z => absurd rfl z⟩, fun h7 => ⟨rfl, fun _ => Or.inl rfl, hO 0 M ?_⟩⟩, fun z => absurd rfl z⟩, fun h6 => ⟨fun z => absurd z (by decide), fun _ => ⟨rfl, _, rfl, rfl, iy, fun h7 => ⟨fun z => absurd z (by decide), fun _ => ⟨rfl, _, rfl, rfl, _, rfl, rfl, fix40 (hh _ (cl_lt iy) h7) io h4 h5, rfl, ix, rfl, fun _ => Or.inr rfl, hO 1 _ ?_⟩⟩, fun h7 => ⟨rfl, fun _ => Or.inl rfl, hO 0 M ?_⟩⟩⟩⟩, fun h5 => ⟨rfl, _, rfl, rfl, _, rfl, rfl, iy, rfl, ix, rfl, fun _ => Or.inr rfl, hO 1 _ ((if_neg h4).trans (if_pos h5))⟩⟩
    · exact (if_neg h4).trans ((if_neg h5).trans ((if_neg h6).trans (if_neg (Int32.not_lt.mpr h7))))
    · exact (if_neg h4).trans ((if_neg h5).trans ((if_neg h6).trans (if_pos (Int32.not_le.mp h7))))
    · exact (if_neg h4).trans ((if_neg h5).trans ((if_pos h6).trans (if_neg (Int32.not_lt.mpr h7))))
    · exact (if_neg h4).trans ((if_neg h5).trans ((if_pos h6).trans (if_pos (Int32.not_le.mp h7))))
  · have h5 : ¬ M 109 19 = 20 := h5
    have hm : m < 20 := by
      rcases Nat.lt_or_ge m 20 with z | z
      · exact z
      · exact absurd (by rw [em, show m = 20 by omega]; rfl) h5
    have im : vp_in (M 109 19) 20 := by rw [em]; exact vp_in_nI hm (by decide)
    have e2m : 2 * M 109 19 = nI (2 * m) := by rw [em]; exact pk_mul 2 m
    have im2 : vp_in (2 * M 109 19) 40 := by rw [e2m]; exact vp_in_nI (by omega) (by decide)
    have im3 : vp_in (2 * M 109 19 + 1) 40 := by rw [e2m, ← nI_succ]; exact vp_in_nI (by omega) (by decide)
    exact ⟨rfl, _, rfl, rfl, rfl, im, rfl, _, rfl, rfl, rfl, im2, rfl, _, rfl, rfl, rfl, im3, rfl, _, rfl, rfl, rfl, ix, rfl, rfl, rfl, fun _ => Or.inr rfl, hO 1 _ ((if_pos h4).trans (if_neg h5))⟩

theorem dn_PM_ruled : y_PM_ruled.cls ≠ "java/lang/invoke/MethodHandle" ∧ y_PM_ruled.cls ≠ "java/lang/invoke/VarHandle" ∧ (parseMethodDescriptor y_PM_ruled.desc).map (fun d => d.parameters.length) = some 1 := by decide +kernel
abbrev pr_PM_ruled : List Value → Mm → Prop := preV 8 (fun k => a_I (fun x0 μ => FM μ ∧ (k = 109 ∧ PI μ.2.1 ∧ ∃ j, j ≤ 14 ∧ x0 = nI j)))
abbrev po_PM_ruled : List Value → Mm → Option Value → Mm → Prop := qV (fun k => b_I (fun x0 μ r μ' => RU μ.2.1 μ.2.2.1 x0 r μ'))
theorem ft_PM_ruled : ∀ as μ, pr_PM_ruled as μ → μ.1 + 0 ≤ 131 ∧ cz μ.1 + 0 ≤ cz 131 := hf_S (n := 131) (Nat.le_refl _) (fun as μ h => by
  obtain ⟨k, r, rfl, hk, h⟩ := preV_e h
  obtain ⟨x0, rfl, h⟩ := a_I_e h
  exact h.1.1)
def C_PM_ruled : Cf := fun id => match id with
  | 0 => trF (0 + 1) pr_PM_safe po_PM_safe
  | 1 => trF (1 + 1) pr_PM_rank po_PM_rank
  | 2 => trF (4 + 1) pr_PM_literalAt po_PM_literalAt
  | 3 => trF (0 + 1) pr_PM_derive po_PM_derive
  | _ => fun _ _ _ => False
set_option maxRecDepth 100000 in
theorem cs_PM_ruled (l : Launch) : ∀ x ∈ k_PM_ruled, CS l R_PM b_PM_ruled 3 (rmm 5 0 0) 131 131 C_PM_ruled x := fc (CS.no rfl) (fc (CS.no rfl) (fc (CS.no rfl) (fc (CS.no rfl) (fc (CS.no rfl) (fc (CS.no rfl) (fc (CS.no rfl) (fc (CS.no rfl) (fc (CS.no rfl) (fc (CS.V c_PM_safe wk_PM_safe wl_PM_156 wm_PM_safe we_PM_safe rfl rfl wi_PM dn_PM_safe ⟨rfl, rfl⟩ ⟨by decide, by decide⟩ ft_PM_safe rfl (e_PM_ruled_16).1) (fc (CS.no rfl) (fc (CS.no rfl) (fc (CS.no rfl) (fc (CS.no rfl) (fc (CS.no rfl) (fc (CS.V c_PM_rank wk_PM_rank wl_PM_87 wm_PM_rank we_PM_rank rfl rfl wi_PM dn_PM_rank ⟨rfl, rfl⟩ ⟨by decide, by decide⟩ ft_PM_rank rfl (e_PM_ruled_27).1) (fc (CS.no rfl) (fc (CS.no rfl) (fc (CS.no rfl) (fc (CS.no rfl) (fc (CS.no rfl) (fc (CS.no rfl) (fc (CS.no rfl) (fc (CS.no rfl) (fc (CS.no rfl) (fc (CS.no rfl) (fc (CS.no rfl) (fc (CS.no rfl) (fc (CS.no rfl) (fc (CS.no rfl) (fc (CS.no rfl) (fc (CS.no rfl) (fc (CS.no rfl) (fc (CS.no rfl) (fc (CS.no rfl) (fc (CS.no rfl) (fc (CS.no rfl) (fc (CS.no rfl) (fc (CS.no rfl) (fc (CS.no rfl) (fc (CS.no rfl) (fc (CS.no rfl) (fc (CS.no rfl) (fc (CS.no rfl) (fc (CS.no rfl) (fc (CS.no rfl) (fc (CS.no rfl) (fc (CS.no rfl) (fc (CS.no rfl) (fc (CS.no rfl) (fc (CS.no rfl) (fc (CS.no rfl) (fc (CS.no rfl) (fc (CS.no rfl) (fc (CS.no rfl) (fc (CS.no rfl) (fc (CS.no rfl) (fc (CS.no rfl) (fc (CS.no rfl) (fc (CS.no rfl) (fc (CS.V c_PM_literalAt wk_PM_literalAt wl_PM_91 wm_PM_literalAt we_PM_literalAt rfl rfl wi_PM dn_PM_literalAt ⟨rfl, rfl⟩ ⟨by decide, by decide⟩ ft_PM_literalAt rfl (e_PM_ruled_96).1) (fc (CS.no rfl) (fc (CS.no rfl) (fc (CS.no rfl) (fc (CS.no rfl) (fc (CS.no rfl) (fc (CS.no rfl) (fc (CS.no rfl) (fc (CS.no rfl) (fc (CS.no rfl) (fc (CS.no rfl) (fc (CS.no rfl) (fc (CS.no rfl) (fc (CS.no rfl) (fc (CS.no rfl) (fc (CS.no rfl) (fc (CS.no rfl) (fc (CS.no rfl) (fc (CS.V c_PM_derive wk_PM_derive wl_PM_147 wm_PM_derive we_PM_derive rfl rfl wi_PM dn_PM_derive ⟨rfl, rfl⟩ ⟨by decide, by decide⟩ ft_PM_derive rfl (e_PM_ruled_125).1) (fc (CS.no rfl) (fc (CS.no rfl) (fun _ h => absurd h List.not_mem_nil)))))))))))))))))))))))))))))))))))))))))))))))))))))))))))))))))))))))))))))))))
set_option maxRecDepth 100000 in
set_option maxHeartbeats 4000000 in
theorem c_PM_ruled : Cn y_PM_ruled b_PM_ruled 3 (some .int) (rmm 5 0 0) (1 + 1) 0 0 pr_PM_ruled po_PM_ruled := cv_I (ci := 8) (f := fun k => fun x0 μ => FM μ ∧ (k = 109 ∧ PI μ.2.1 ∧ ∃ j, j ≤ 14 ∧ x0 = nI j)) (g := fun k => fun x0 μ r μ' => RU μ.2.1 μ.2.2.1 x0 r μ') fun l k x0 μ hk h => by
  obtain ⟨hm, h⟩ := h
  obtain ⟨M, L, rfl⟩ := hm.e
  refine ky_met (own := R_PM) (ini := 0) (rb := 0) (nE := 131) (cd := k_PM_ruled) (C := C_PM_ruled) (by decide) rfl (fun h => by cases h) (Nat.le_of_ble_eq_true rfl) ⟨rfl, rfl⟩ (Or.inl ⟨rfl, rfl⟩) rfl rfl (by decide) ok_PM_ruled (cs_PM_ruled l) rt_PM_ruled (fun K hs => ?_)
  obtain ⟨rfl, hp, j, hj, rfl⟩ := h
  have hp : PI M := hp
  obtain ⟨g, hg4, eg⟩ := hp.2.1
  have egc : (M 109 8).toNatClampNeg = g := by rw [eg]; exact nI_clamp (n := g) (by omega)
  have ejc : (nI j).toNatClampNeg = j := nI_clamp (n := j) (by omega)
  have no : (M 109 8 = 0 ∨ nI j = 14) → K 13 [some (.ref 109), some (.int (nI j)), none] [] (131, M, L, TT) := by
    intro h
    exact hs.go [13] 10 _ _ _ _ ⟨rfl, fun z => (by cases z), fun _ => ⟨rfl, rfl⟩, fun z => absurd h z, fun z => absurd h z, fun z => absurd h z⟩
  refine hs.go [13, 55] 60 _ _ _ _ ⟨rfl, fun h1 => no (Or.inl h1), fun h1 => ⟨fun h2 => ⟨⟨rfl, ⟨rfl, rfl⟩, rfl, hp⟩, rfl, rfl, ?_⟩, fun h2 => no (Or.inr h2)⟩⟩
  have hA : ¬ (M 109 8 = 0 ∨ nI j = 14) := fun z => z.elim h1 h2
  have hj : j < 14 := by
    rcases Nat.lt_or_ge j 14 with z | z
    · exact z
    · exact absurd (show nI j = nI 14 by rw [show j = 14 by omega]) h2
  have hg1 : 1 ≤ g := by
    have h1 : ¬ M 109 8 = 0 := h1
    rw [eg] at h1
    exact Nat.pos_of_ne_zero (fun z => h1 (by rw [z]; rfl))
  have ij : vp_in (nI j) 14 := vp_in_nI hj (by decide)
  intro r μ' hq
  have g1 : r = some (Value.int (sfl M (M 109 8).toNatClampNeg 56 1)) := hq.1
  have g2 : μ' = (131, M, L, TT) := hq.2
  rw [g1, g2]
  refine ⟨fun h3 => ⟨⟨rfl, ⟨rfl, rfl⟩, rfl, hp, Or.inr h1⟩, rfl, rfl, ?_⟩, fun h3 => ⟨rfl, fun z => (by cases z), fun z => absurd z hA, fun _ _ => ⟨rfl, rfl⟩, fun _ z => absurd h3 z, fun _ z => absurd h3 z⟩⟩
  intro r μ' hq
  have g1 : r = some (Value.int (rkR M (nI j)).1) := hq.1
  have g2 : μ' = (131, rkM M (nI j), L, TT) := hq.2
  rw [g1, g2]
  refine ⟨fun h4 => ⟨rfl, _, rfl, rfl, ij, Or.inr rfl, rfl, _, rfl, rfl, rfl, ij, ?_⟩, fun h4 => ⟨rfl, fun z => (by cases z), fun z => absurd z hA, fun _ z => absurd z h3, fun _ _ _ => ⟨rfl, rfl⟩, fun _ _ z => absurd h4 z⟩⟩
  have loop : ∀ (n i : Nat), i + n = g → ∀ X : mM, PI X → X 109 8 = nI g → rcl j n i X = rul M (nI j) → K 55 [some (.ref 109), some (.int (nI j)), some (.int (nI i))] [] (131, X, L, TT) := by
    intro n
    induction n with
    | zero =>
      intro i hi X hX h8 he
      have hi : i = g := by omega
      subst hi
      have he : X = rul M (nI j) := he
      refine hs.go [55] 40 _ _ _ _ ⟨rfl, fun _ => ⟨⟨rfl, ⟨rfl, rfl⟩, rfl, hX⟩, rfl, rfl, ?_⟩, fun z => absurd (show X 109 8 ≤ nI i by rw [h8]; exact Int32.le_refl _) z⟩
      rintro _ _ ⟨rfl, M', hS, rfl⟩
      subst he
      exact ⟨rfl, fun z => (by cases z), fun z => absurd z hA, fun _ z => absurd z h3, fun _ _ z => absurd z h4, fun _ _ _ => ⟨rfl, M', hS, rfl⟩⟩
    | succ n ih =>
      intro i hi X hX h8 he
      have e56 : 56 + nI i = nI (56 + i) := nI_add 56 i
      have e56c : (56 + nI i).toNatClampNeg = 56 + i := by rw [e56]; exact nI_clamp (n := 56 + i) (by omega)
      have i56 : vp_in (56 + nI i) 60 := by rw [e56]; exact vp_in_nI (by omega) (by decide)
      have e4c : (4 * nI j + nI i).toNatClampNeg = 4 * j + i := by rw [nI_41]; exact nI_clamp (n := 4 * j + i) (by omega)
      have i4 : vp_in (4 * nI j + nI i) 60 := by rw [nI_41]; exact vp_in_nI (by omega) (by decide)
      refine hs.go [55] 80 _ _ _ _ ⟨rfl, fun z => absurd (show X 109 8 ≤ nI i from z) (by rw [h8]; exact nI_ge (a := i) (b := g) (by omega) (by omega)), fun _ => ⟨rfl, _, rfl, rfl, i56, rfl, _, rfl, rfl, i56, rfl, _, rfl, rfl, i56, ⟨rfl, ⟨rfl, rfl⟩, rfl, i4⟩, rfl, rfl, ?_⟩⟩
      intro r μ' hq
      have g1 : r = none := hq.1
      have g2 : μ' = (131, lat X (4 * nI j + nI i).toNatClampNeg (X 118 (56 + nI i).toNatClampNeg) (X 119 (56 + nI i).toNatClampNeg) (X 120 (56 + nI i).toNatClampNeg), L, TT) := hq.2
      rw [e4c, e56c] at g2
      rw [g1, g2]
      have ev : lat X (4 * j + i) (X 118 (56 + i)) (X 119 (56 + i)) (X 120 (56 + i)) 121 (56 + i) = X 121 (56 + i) := by
        unfold lat
        rw [up2_j (by omega)]
        rfl
      refine ⟨rfl, _, rfl, rfl, _, rfl, rfl, i56, rfl, i4, ?_, ?_⟩
      · show lat X (4 * j + i) (X 118 (56 + i)) (X 119 (56 + i)) (X 120 (56 + i)) 121 (56 + nI i).toNatClampNeg = 0 ∨ lat X (4 * j + i) (X 118 (56 + i)) (X 119 (56 + i)) (X 120 (56 + i)) 121 (56 + nI i).toNatClampNeg = 1
        rw [e56c, ev]
        exact (hX.2.2.2.2.2.1 (56 + i) (by omega)).1.2.2.2
      · show K 55 _ _ (131, up2 (lat X (4 * j + i) (X 118 (56 + i)) (X 119 (56 + i)) (X 120 (56 + i))) 121 (4 * nI j + nI i).toNatClampNeg (lat X (4 * j + i) (X 118 (56 + i)) (X 119 (56 + i)) (X 120 (56 + i)) 121 (56 + nI i).toNatClampNeg), L, TT)
        rw [e4c, e56c, ev]
        have h9 := ih (i + 1) (by omega) (rc1 X j i) (hX.rc (by omega)) (by rw [rc1_9]; exact h8) he
        rw [nI_succ] at h9
        exact h9
  have hX : PI (up2 (up2 (rkM M (nI j)) 116 j 1) 117 j (nI g)) := hp.rk.u1 hg4 hg1
  have h9 := loop g 0 (by omega) _ hX (show M 109 8 = nI g from eg) (by unfold rul; rw [ejc, egc, eg])
  show K 55 [some (.ref 109), some (.int (nI j)), some (.int (nI 0))] [] (131, up2 (up2 (rkM M (nI j)) 116 (nI j).toNatClampNeg 1) 117 (nI j).toNatClampNeg (M 109 8), L, TT)
  rw [ejc, eg]
  exact h9

theorem RU_e {M : mM} {L : mL} {x : Int32} {r : Option Value} {μ' : Mm} (h : RU M L x r μ') : ∃ (v : Int32) (X : mM) (Y : mL), r = some (.int v) ∧ μ' = (131, X, Y, TT) := by
  by_cases h1 : M 109 8 = 0 ∨ x = 14
  · exact ⟨_, _, _, h.1 h1⟩
  · by_cases h2 : sfl M (M 109 8).toNatClampNeg 56 1 = 0
    · exact ⟨_, _, _, h.2.1 h1 h2⟩
    · by_cases h3 : (rkR M x).1 = 0
      · exact ⟨_, _, _, h.2.2.1 h1 h2 h3⟩
      · obtain ⟨e1, M', _, e2⟩ := h.2.2.2 h1 h2 h3
        exact ⟨_, _, _, e1, e2⟩

theorem dn_PM_rule : y_PM_rule.cls ≠ "java/lang/invoke/MethodHandle" ∧ y_PM_rule.cls ≠ "java/lang/invoke/VarHandle" ∧ (parseMethodDescriptor y_PM_rule.desc).map (fun d => d.parameters.length) = some 0 := by decide +kernel
abbrev pr_PM_rule : List Value → Mm → Prop := preV 8 (fun k => a_0 (fun μ => FM μ ∧ (k = 109 ∧ PI μ.2.1)))
abbrev po_PM_rule : List Value → Mm → Option Value → Mm → Prop := qV (fun k => b_0 (fun μ r μ' => ∃ μ1, RU μ.2.1 μ.2.2.1 (frl μ.2.1 8 6) r μ1 ∧ μ' = sI μ1 109 8 0))
theorem ft_PM_rule : ∀ as μ, pr_PM_rule as μ → μ.1 + 0 ≤ 131 ∧ cz μ.1 + 0 ≤ cz 131 := hf_S (n := 131) (Nat.le_refl _) (fun as μ h => by
  obtain ⟨k, r, rfl, hk, h⟩ := preV_e h
  obtain ⟨rfl, h⟩ := a_0_e h
  exact h.1.1)
def C_PM_rule : Cf := fun id => match id with
  | 0 => trF (0 + 1) pr_PM_freeRule po_PM_freeRule
  | 1 => trF (1 + 1) pr_PM_ruled po_PM_ruled
  | _ => fun _ _ _ => False
set_option maxRecDepth 100000 in
theorem cs_PM_rule (l : Launch) : ∀ x ∈ k_PM_rule, CS l R_PM b_PM_rule 2 (rmm 6 0 0) 131 131 C_PM_rule x := fc (CS.no rfl) (fc (CS.no rfl) (fc (CS.V c_PM_freeRule wk_PM_freeRule wl_PM_160 wm_PM_freeRule we_PM_freeRule rfl rfl wi_PM dn_PM_freeRule ⟨rfl, rfl⟩ ⟨by decide, by decide⟩ ft_PM_freeRule rfl (e_PM_rule_2).1) (fc (CS.V c_PM_ruled wk_PM_ruled wl_PM_164 wm_PM_ruled we_PM_ruled rfl rfl wi_PM dn_PM_ruled ⟨rfl, rfl⟩ ⟨by decide, by decide⟩ ft_PM_ruled rfl (e_PM_rule_5).1) (fc (CS.no rfl) (fc (CS.no rfl) (fc (CS.no rfl) (fc (CS.no rfl) (fc (CS.no rfl) (fc (CS.no rfl) (fun _ h => absurd h List.not_mem_nil))))))))))
set_option maxRecDepth 100000 in
set_option maxHeartbeats 4000000 in
theorem c_PM_rule : Cn y_PM_rule b_PM_rule 2 (some .int) (rmm 6 0 0) (0 + 1) 0 0 pr_PM_rule po_PM_rule := cv_0 (ci := 8) (f := fun k => fun μ => FM μ ∧ (k = 109 ∧ PI μ.2.1)) (g := fun k => fun μ r μ' => ∃ μ1, RU μ.2.1 μ.2.2.1 (frl μ.2.1 8 6) r μ1 ∧ μ' = sI μ1 109 8 0) fun l k  μ hk h => by
  obtain ⟨hm, h⟩ := h
  obtain ⟨M, L, rfl⟩ := hm.e
  refine ky_met (own := R_PM) (ini := 0) (rb := 0) (nE := 131) (cd := k_PM_rule) (C := C_PM_rule) (by decide) rfl (fun h => by cases h) (Nat.le_of_ble_eq_true rfl) ⟨rfl, rfl⟩ (Or.inl ⟨rfl, rfl⟩) rfl rfl (by decide) ok_PM_rule (cs_PM_rule l) rt_PM_rule (fun K hs => ?_)
  obtain ⟨rfl, hp⟩ := h
  have hp : PI M := hp
  refine hs.go [] 60 _ _ _ _ ⟨⟨rfl, ⟨rfl, rfl⟩, rfl⟩, rfl, rfl, ?_⟩
  rintro _ _ ⟨rfl, rfl⟩
  obtain ⟨j, h1, h2, h3⟩ := frl_e (M := M) 8 6
  refine ⟨⟨rfl, ⟨rfl, rfl⟩, rfl, hp, j, h2, h3⟩, rfl, rfl, ?_⟩
  intro r μ' hq
  have hq : RU M L (frl M 8 6) r μ' := hq
  obtain ⟨v, X, Y, rfl, rfl⟩ := RU_e hq
  exact ⟨rfl, rfl, fun z => (by cases z), _, hq, rfl⟩
