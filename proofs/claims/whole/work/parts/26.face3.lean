theorem sI_rd (μ : Mm) (k j : Nat) (x : Int32) : (sI μ k j x).2.1 k j = x := by
  obtain ⟨n, f, g, z⟩ := μ
  exact up2_s
theorem cst_up {A : mM} {w : Int32} : ∀ n, cst (up2 A 0 5 w) n = cst A n := by
  intro n
  induction n with
  | zero => rfl
  | succ n ih => simp only [cst, ih, up2_k (show (2 : Nat) ≠ 0 by decide)]
/-- the cell of a fact of the user's relations -/
def fcl (M : mM) (x0 x1 x2 : Int32) : Int32 := if 9 ≤ x0 ∧ x0 < M 5 4 then cof (M 5 4) (M 6 x0.toNatClampNeg) x0 x1 x2 else -1
def trm (t : Int32) : Prop := (0 ≤ t ∧ t < 6) ∨ (10 ≤ t ∧ t ≤ 13)
/-- is a literal taken -/
def lit (M : mM) (x0 x1 x2 x3 : Int32) : Prop := M 10 4 < 4 ∧ (0 ≤ x0 ∧ x0 < M 5 4) ∧ (M 10 4 = 0 → x3 = 0 ∧ 9 ≤ x0) ∧ trm x1 ∧ trm (sec (M 6 x0.toNatClampNeg) x2)
def giv (μ : Mm) (x0 x1 x2 x3 : Int32) : Mm := sI (sI (sI (sI (sI μ (99 + (μ.2.1 10 4).toNatClampNeg) 0 x0) (99 + (μ.2.1 10 4).toNatClampNeg) 1 x1) (99 + (μ.2.1 10 4).toNatClampNeg) 2 x2) (99 + (μ.2.1 10 4).toNatClampNeg) 3 x3) 10 4 (μ.2.1 10 4 + 1)

theorem dn_PF_fact : y_PF_fact.cls ≠ "java/lang/invoke/MethodHandle" ∧ y_PF_fact.cls ≠ "java/lang/invoke/VarHandle" ∧ (parseMethodDescriptor y_PF_fact.desc).map (fun d => d.parameters.length) = some 4 := by decide +kernel
abbrev pr_PF_fact : List Value → Mm → Prop := preV 0 (fun k => a_IIII (fun x0 x1 x2 x3 μ => FM μ ∧ (k = 0 ∧ CI μ.2.1 ∧ (x3 = 0 ∨ x3 = 1))))
abbrev po_PF_fact : List Value → Mm → Option Value → Mm → Prop := qV (fun k => b_IIII (fun x0 x1 x2 x3 μ r μ' => ((fcl μ.2.1 x0 x1 x2 = -1 ∨ b2 (¬ ub (μ.2.2.1 7 x0.toNatClampNeg) (fcl μ.2.1 x0 x1 x2) = 0) = x3) → r = some (.int 0) ∧ μ' = μ) ∧ (¬ (fcl μ.2.1 x0 x1 x2 = -1 ∨ b2 (¬ ub (μ.2.2.1 7 x0.toNatClampNeg) (fcl μ.2.1 x0 x1 x2) = 0) = x3) → r = some (.int 1) ∧ ∃ ρ, μ' = folM μ.2.1 (up2 μ.2.2.1 7 x0.toNatClampNeg (μ.2.2.1 7 x0.toNatClampNeg ^^^ (1 <<< ((fcl μ.2.1 x0 x1 x2).toInt64 &&& 63)))) (1 <<< (x0 &&& 31)) ρ)))
theorem ft_PF_fact : ∀ as μ, pr_PF_fact as μ → μ.1 + 0 ≤ 131 ∧ cz μ.1 + 0 ≤ cz 131 := hf_S (n := 131) (Nat.le_refl _) (fun as μ h => by
  obtain ⟨k, r, rfl, hk, h⟩ := preV_e h
  obtain ⟨x0, x1, x2, x3, rfl, h⟩ := a_IIII_e h
  exact h.1.1)
def C_PF_fact : Cf := fun id => match id with
  | 0 => trF (1 + 1) pr_RS_isUsers po_RS_isUsers
  | 1 => trF (3 + 1) pr_RS_cellOf po_RS_cellOf
  | 2 => trF (2 + 1) pr_RS_isFact po_RS_isFact
  | 3 => trF (2 + 1) pr_RS_turnFact po_RS_turnFact
  | 4 => trF (1 + 1) pr_PF_follow po_PF_follow
  | _ => fun _ _ _ => False
set_option maxRecDepth 100000 in
theorem cs_PF_fact (l : Launch) : ∀ x ∈ k_PF_fact, CS l R_PF b_PF_fact 6 (rmm 11 0 0) 131 131 C_PF_fact x := fc (CS.no rfl) (fc (CS.no rfl) (fc (CS.no rfl) (fc (CS.V c_RS_isUsers wk_RS_isUsers wl_PF_58 wm_RS_isUsers we_RS_isUsers rfl rfl wi_RS dn_RS_isUsers ⟨rfl, rfl⟩ ⟨by decide, by decide⟩ ft_RS_isUsers rfl (e_PF_fact_5).1) (fc (CS.no rfl) (fc (CS.no rfl) (fc (CS.no rfl) (fc (CS.no rfl) (fc (CS.no rfl) (fc (CS.no rfl) (fc (CS.V c_RS_cellOf wk_RS_cellOf wl_PF_62 wm_RS_cellOf we_RS_cellOf rfl rfl wi_RS dn_RS_cellOf ⟨rfl, rfl⟩ ⟨by decide, by decide⟩ ft_RS_cellOf rfl (e_PF_fact_18).1) (fc (CS.no rfl) (fc (CS.no rfl) (fc (CS.no rfl) (fc (CS.no rfl) (fc (CS.no rfl) (fc (CS.no rfl) (fc (CS.no rfl) (fc (CS.no rfl) (fc (CS.no rfl) (fc (CS.no rfl) (fc (CS.V c_RS_isFact wk_RS_isFact wl_PF_66 wm_RS_isFact we_RS_isFact rfl rfl wi_RS dn_RS_isFact ⟨rfl, rfl⟩ ⟨by decide, by decide⟩ ft_RS_isFact rfl (e_PF_fact_40).1) (fc (CS.no rfl) (fc (CS.no rfl) (fc (CS.no rfl) (fc (CS.no rfl) (fc (CS.no rfl) (fc (CS.no rfl) (fc (CS.no rfl) (fc (CS.no rfl) (fc (CS.V c_RS_turnFact wk_RS_turnFact wl_PF_70 wm_RS_turnFact we_RS_turnFact rfl rfl wi_RS dn_RS_turnFact ⟨rfl, rfl⟩ ⟨by decide, by decide⟩ ft_RS_turnFact rfl (e_PF_fact_57).1) (fc (CS.no rfl) (fc (CS.no rfl) (fc (CS.no rfl) (fc (CS.no rfl) (fc (CS.V c_PF_follow wk_PF_follow wl_PF_74 wm_PF_follow we_PF_follow rfl rfl wi_PF dn_PF_follow ⟨rfl, rfl⟩ ⟨by decide, by decide⟩ ft_PF_follow rfl (e_PF_fact_64).1) (fc (CS.no rfl) (fc (CS.no rfl) (fun _ h => absurd h List.not_mem_nil))))))))))))))))))))))))))))))))))))))
set_option maxRecDepth 100000 in
set_option maxHeartbeats 4000000 in
theorem c_PF_fact : Cn y_PF_fact b_PF_fact 6 (some .boolean) (rmm 11 0 0) (4 + 1) 0 0 pr_PF_fact po_PF_fact := cv_IIII (ci := 0) (f := fun k => fun x0 x1 x2 x3 μ => FM μ ∧ (k = 0 ∧ CI μ.2.1 ∧ (x3 = 0 ∨ x3 = 1))) (g := fun k => fun x0 x1 x2 x3 μ r μ' => ((fcl μ.2.1 x0 x1 x2 = -1 ∨ b2 (¬ ub (μ.2.2.1 7 x0.toNatClampNeg) (fcl μ.2.1 x0 x1 x2) = 0) = x3) → r = some (.int 0) ∧ μ' = μ) ∧ (¬ (fcl μ.2.1 x0 x1 x2 = -1 ∨ b2 (¬ ub (μ.2.2.1 7 x0.toNatClampNeg) (fcl μ.2.1 x0 x1 x2) = 0) = x3) → r = some (.int 1) ∧ ∃ ρ, μ' = folM μ.2.1 (up2 μ.2.2.1 7 x0.toNatClampNeg (μ.2.2.1 7 x0.toNatClampNeg ^^^ (1 <<< ((fcl μ.2.1 x0 x1 x2).toInt64 &&& 63)))) (1 <<< (x0 &&& 31)) ρ)) fun l k x0 x1 x2 x3 μ hk h => by
  obtain ⟨hm, h⟩ := h
  obtain ⟨M, L, rfl⟩ := hm.e
  refine ky_met (own := R_PF) (ini := 0) (rb := 1) (nE := 131) (cd := k_PF_fact) (C := C_PF_fact) (by decide) rfl (fun h => by cases h) (Nat.le_of_ble_eq_true rfl) ⟨rfl, rfl⟩ (Or.inr (Or.inl ⟨rfl, rfl⟩)) rfl rfl (by decide) ok_PF_fact (cs_PF_fact l) rt_PF_fact (fun K hs => ?_)
  obtain ⟨rfl, hc, h3⟩ := h
  have hc : CI M := hc
  have s25 : ∀ v : Int32, v = fcl M x0 x1 x2 → K 25 [some (.ref 0), some (.int x0), some (.int x1), some (.int x2), some (.int x3), none] [.int v] (131, M, L, TT) := by
    intro v hv
    rw [hv]
    refine hs.go [25] 60 _ _ _ _ ⟨fun h1 => ⟨rfl, fun _ => Or.inl rfl, fun _ => ⟨rfl, rfl⟩, fun z => absurd (Or.inl h1) z⟩, fun h1 => ?_⟩
    have hu : 9 ≤ x0 ∧ x0 < M 5 4 := Classical.byContradiction fun z => h1 (if_neg z)
    have hx := hc.in14 (Int32.le_trans (by decide) hu.1) hu.2
    refine ⟨rfl, _, rfl, ⟨rfl, ⟨rfl, rfl⟩, rfl, hx⟩, rfl, rfl, ?_⟩
    rintro _ _ ⟨rfl, rfl⟩
    refine ⟨fun h2 => ⟨rfl, _, rfl, ⟨rfl, ⟨rfl, rfl⟩, rfl, hx⟩, rfl, rfl, ?_⟩, fun h2 => ⟨rfl, fun _ => Or.inl rfl, fun _ => ⟨rfl, rfl⟩, fun z => absurd (Or.inr h2) z⟩⟩
    rintro _ _ ⟨rfl, rfl⟩
    refine ⟨⟨rfl, ⟨rfl, rfl⟩, rfl, hc.2.1, hc.1.1⟩, rfl, rfl, ?_⟩
    intro r μ' hq
    obtain ⟨q1, ρ, q2⟩ := hq
    rw [q1, q2]
    exact ⟨rfl, fun _ => Or.inr rfl, fun z => absurd z (fun z => z.elim h1 h2), fun _ => ⟨rfl, ρ, rfl⟩⟩
  refine hs.go [25] 60 _ _ _ _ ⟨rfl, _, rfl, ⟨rfl, ⟨rfl, rfl⟩, rfl⟩, rfl, rfl, ?_⟩
  rintro _ _ ⟨rfl, rfl⟩
  by_cases h1 : 9 ≤ x0 ∧ x0 < M 5 4
  · rw [show b2 (9 ≤ x0 ∧ x0 < M 5 4) = 1 from b2_t h1]
    refine ⟨fun z => absurd z (by decide), fun _ => ⟨rfl, _, rfl, ⟨rfl, ⟨rfl, rfl⟩, rfl, hc.c14⟩, rfl, rfl, ?_⟩⟩
    rintro _ _ ⟨rfl, rfl⟩
    exact s25 _ (if_pos h1).symm
  · rw [show b2 (9 ≤ x0 ∧ x0 < M 5 4) = 0 from b2_f h1]
    exact ⟨fun _ => s25 _ (if_neg h1).symm, fun z => absurd rfl z⟩

theorem dn_PF_literal : y_PF_literal.cls ≠ "java/lang/invoke/MethodHandle" ∧ y_PF_literal.cls ≠ "java/lang/invoke/VarHandle" ∧ (parseMethodDescriptor y_PF_literal.desc).map (fun d => d.parameters.length) = some 4 := by decide +kernel
abbrev pr_PF_literal : List Value → Mm → Prop := preV 0 (fun k => a_IIII (fun x0 x1 x2 x3 μ => FM μ ∧ (k = 0 ∧ CI μ.2.1 ∧ (x3 = 0 ∨ x3 = 1))))
abbrev po_PF_literal : List Value → Mm → Option Value → Mm → Prop := qV (fun k => b_IIII (fun x0 x1 x2 x3 μ r μ' => (lit μ.2.1 x0 x1 x2 x3 → r = some (.int (μ.2.1 10 4 + 1)) ∧ μ' = giv μ x0 x1 (sec (μ.2.1 6 x0.toNatClampNeg) x2) x3) ∧ (¬ lit μ.2.1 x0 x1 x2 x3 → r = some (.int (-1)) ∧ μ' = μ)))
theorem ft_PF_literal : ∀ as μ, pr_PF_literal as μ → μ.1 + 0 ≤ 131 ∧ cz μ.1 + 0 ≤ cz 131 := hf_S (n := 131) (Nat.le_refl _) (fun as μ h => by
  obtain ⟨k, r, rfl, hk, h⟩ := preV_e h
  obtain ⟨x0, x1, x2, x3, rfl, h⟩ := a_IIII_e h
  exact h.1.1)
def C_PF_literal : Cf := fun id => match id with
  | 0 => trF (1 + 1) pr_RS_isThere po_RS_isThere
  | 1 => trF (1 + 1) pr_RS_isUsers po_RS_isUsers
  | 2 => trF (2 + 1) pr_RS_secondOf po_RS_secondOf
  | 3 => trF 1 pr_PF_isTerm po_PF_isTerm
  | 4 => trF (4 + 1) pr_RB_give po_RB_give
  | _ => fun _ _ _ => False
set_option maxRecDepth 100000 in
theorem cs_PF_literal (l : Launch) : ∀ x ∈ k_PF_literal, CS l R_PF b_PF_literal 6 (rmm 2 0 0) 131 131 C_PF_literal x := fc (CS.no rfl) (fc (CS.no rfl) (fc (CS.no rfl) (fc (CS.no rfl) (fc (CS.no rfl) (fc (CS.no rfl) (fc (CS.no rfl) (fc (CS.no rfl) (fc (CS.V c_RS_isThere wk_RS_isThere wl_PF_81 wm_RS_isThere we_RS_isThere rfl rfl wi_RS dn_RS_isThere ⟨rfl, rfl⟩ ⟨by decide, by decide⟩ ft_RS_isThere rfl (e_PF_literal_16).1) (fc (CS.no rfl) (fc (CS.no rfl) (fc (CS.no rfl) (fc (CS.no rfl) (fc (CS.no rfl) (fc (CS.no rfl) (fc (CS.no rfl) (fc (CS.no rfl) (fc (CS.no rfl) (fc (CS.no rfl) (fc (CS.no rfl) (fc (CS.no rfl) (fc (CS.V c_RS_isUsers wk_RS_isUsers wl_PF_58 wm_RS_isUsers we_RS_isUsers rfl rfl wi_RS dn_RS_isUsers ⟨rfl, rfl⟩ ⟨by decide, by decide⟩ ft_RS_isUsers rfl (e_PF_literal_44).1) (fc (CS.no rfl) (fc (CS.no rfl) (fc (CS.no rfl) (fc (CS.no rfl) (fc (CS.no rfl) (fc (CS.no rfl) (fc (CS.no rfl) (fc (CS.V c_RS_secondOf wk_RS_secondOf wl_PF_84 wm_RS_secondOf we_RS_secondOf rfl rfl wi_RS dn_RS_secondOf ⟨rfl, rfl⟩ ⟨by decide, by decide⟩ ft_RS_secondOf rfl (e_PF_literal_58).1) (fc (CS.no rfl) (fc (CS.no rfl) (fc (CS.S c_PF_isTerm wk_PF_isTerm wl_PF_88 wt_PF_isTerm wi_PF dn_PF_isTerm ⟨rfl, rfl⟩ ⟨by decide, by decide⟩ ft_PF_isTerm rfl (e_PF_literal_64).1) (fc (CS.no rfl) (fc (CS.no rfl) (fc (CS.S c_PF_isTerm wk_PF_isTerm wl_PF_88 wt_PF_isTerm wi_PF dn_PF_isTerm ⟨rfl, rfl⟩ ⟨by decide, by decide⟩ ft_PF_isTerm rfl (e_PF_literal_72).1) (fc (CS.no rfl) (fc (CS.no rfl) (fc (CS.no rfl) (fc (CS.no rfl) (fc (CS.no rfl) (fc (CS.no rfl) (fc (CS.no rfl) (fc (CS.no rfl) (fc (CS.no rfl) (fc (CS.V c_RB_give wk_RB_give wl_PF_91 wm_RB_give we_RB_give rfl rfl wi_RB dn_RB_give ⟨rfl, rfl⟩ ⟨by decide, by decide⟩ ft_RB_give rfl (e_PF_literal_90).1) (fc (CS.no rfl) (fc (CS.no rfl) (fc (CS.no rfl) (fc (CS.no rfl) (fun _ h => absurd h List.not_mem_nil))))))))))))))))))))))))))))))))))))))))))))))))))
set_option maxRecDepth 100000 in
set_option maxHeartbeats 4000000 in
theorem c_PF_literal : Cn y_PF_literal b_PF_literal 6 (some .int) (rmm 2 0 0) (4 + 1) 0 0 pr_PF_literal po_PF_literal := cv_IIII (ci := 0) (f := fun k => fun x0 x1 x2 x3 μ => FM μ ∧ (k = 0 ∧ CI μ.2.1 ∧ (x3 = 0 ∨ x3 = 1))) (g := fun k => fun x0 x1 x2 x3 μ r μ' => (lit μ.2.1 x0 x1 x2 x3 → r = some (.int (μ.2.1 10 4 + 1)) ∧ μ' = giv μ x0 x1 (sec (μ.2.1 6 x0.toNatClampNeg) x2) x3) ∧ (¬ lit μ.2.1 x0 x1 x2 x3 → r = some (.int (-1)) ∧ μ' = μ)) fun l k x0 x1 x2 x3 μ hk h => by
  obtain ⟨hm, h⟩ := h
  obtain ⟨M, L, rfl⟩ := hm.e
  refine ky_met (own := R_PF) (ini := 0) (rb := 0) (nE := 131) (cd := k_PF_literal) (C := C_PF_literal) (by decide) rfl (fun h => by cases h) (Nat.le_of_ble_eq_true rfl) ⟨rfl, rfl⟩ (Or.inl ⟨rfl, rfl⟩) rfl rfl (by decide) ok_PF_literal (cs_PF_literal l) rt_PF_literal (fun K hs => ?_)
  obtain ⟨rfl, hc, h3⟩ := h
  have hc : CI M := hc
  have no : ∀ (pc : Nat) (lv : List (Option Value)), ¬ lit M x0 x1 x2 x3 → (lit M x0 x1 x2 x3 → some (Value.int (-1)) = some (.int (M 10 4 + 1)) ∧ ((131, M, L, TT) : Mm) = giv (131, M, L, TT) x0 x1 (sec (M 6 x0.toNatClampNeg) x2) x3) ∧ (¬ lit M x0 x1 x2 x3 → some (Value.int (-1)) = some (.int (-1)) ∧ ((131, M, L, TT) : Mm) = (131, M, L, TT)) := fun _ _ h => ⟨fun z => absurd z h, fun _ => ⟨rfl, rfl⟩⟩
  obtain ⟨g, hg, hge⟩ := hc.1.2.2
  have s52 : M 10 4 < 4 → (0 ≤ x0 ∧ x0 < M 5 4) → (M 10 4 = 0 → x3 = 0 ∧ 9 ≤ x0) → K 52 [some (.ref 0), some (.int x0), some (.int x1), some (.int x2), some (.int x3), none] [] (131, M, L, TT) := by
    intro a1 a2 a3
    have hx := hc.in14 a2.1 a2.2
    have hg4 : vp_in (M 10 4) 4 := by
      rw [hge] at a1 ⊢
      refine vp_in_nI ?_ (by decide)
      rcases Nat.lt_or_ge g 4 with z | z
      · exact z
      · exact absurd a1 (nI_nlt (a := g) (b := 4) z (by omega))
    refine hs.go [52] 80 _ _ _ _ ⟨rfl, _, rfl, ⟨rfl, ⟨rfl, rfl⟩, rfl, hx⟩, rfl, rfl, ?_⟩
    rintro _ _ ⟨rfl, rfl⟩
    refine ⟨⟨⟨rfl, rfl⟩, trivial⟩, rfl, rfl, ?_⟩
    rintro _ _ ⟨rfl, rfl⟩
    by_cases t1 : (0 ≤ x1 ∧ x1 < 6) ∨ (10 ≤ x1 ∧ x1 ≤ 13)
    · rw [show b2 ((0 ≤ x1 ∧ x1 < 6) ∨ (10 ≤ x1 ∧ x1 ≤ 13)) = 1 from b2_t t1]
      refine ⟨fun z => absurd z (by decide), fun _ => ⟨⟨⟨rfl, rfl⟩, trivial⟩, rfl, rfl, ?_⟩⟩
      rintro _ _ ⟨rfl, rfl⟩
      by_cases t2 : (0 ≤ sec (M 6 x0.toNatClampNeg) x2 ∧ sec (M 6 x0.toNatClampNeg) x2 < 6) ∨ (10 ≤ sec (M 6 x0.toNatClampNeg) x2 ∧ sec (M 6 x0.toNatClampNeg) x2 ≤ 13)
      · refine ⟨fun _ => ⟨rfl, _, rfl, ⟨rfl, ⟨rfl, rfl⟩, rfl, hg4, h3⟩, rfl, rfl, ?_⟩, fun z => absurd ((b2_t t2).symm.trans z) (by decide)⟩
        rintro _ _ ⟨rfl, rfl⟩
        refine ⟨rfl, _, rfl, rfl, rfl, fun z => (by cases z), fun _ => ⟨?_, rfl⟩, fun z => absurd ⟨a1, a2, a3, t1, t2⟩ z⟩
        exact congrArg (fun v => some (Value.int v)) (sI_rd _ _ _ _)
      · exact ⟨fun z => absurd (b2_f t2) z, fun _ => ⟨rfl, fun z => (by cases z), no 0 [] (fun z => t2 z.2.2.2.2)⟩⟩
    · rw [show b2 ((0 ≤ x1 ∧ x1 < 6) ∨ (10 ≤ x1 ∧ x1 ≤ 13)) = 0 from b2_f t1]
      exact ⟨fun _ => ⟨rfl, fun z => (by cases z), no 0 [] (fun z => t1 z.2.2.2.1)⟩, fun z => absurd rfl z⟩
  refine hs.go [52] 80 _ _ _ _ ⟨rfl, _, rfl, rfl, fun h1 => ⟨rfl, fun z => (by cases z), no 0 [] (fun z => Int32.not_lt.mpr h1 z.1)⟩, fun h1 => ⟨rfl, _, rfl, ⟨rfl, ⟨rfl, rfl⟩, rfl⟩, rfl, rfl, ?_⟩⟩
  have a1 : M 10 4 < 4 := Int32.not_le.mp h1
  rintro _ _ ⟨rfl, rfl⟩
  by_cases a2 : 0 ≤ x0 ∧ x0 < M 5 4
  · refine ⟨fun _ => ⟨rfl, _, rfl, rfl, fun h0 => s52 a1 a2 (fun z => absurd z h0), fun h0 => ⟨fun h4 => ⟨rfl, fun z => (by cases z), no 0 [] (fun z => h4 (z.2.2.1 h0).1)⟩, fun h4 => ⟨rfl, _, rfl, ⟨rfl, ⟨rfl, rfl⟩, rfl⟩, rfl, rfl, ?_⟩⟩⟩, fun z => absurd ((b2_t a2).symm.trans z) (by decide)⟩
    rintro _ _ ⟨rfl, rfl⟩
    by_cases h5 : 9 ≤ x0 ∧ x0 < M 5 4
    · exact ⟨fun _ => s52 a1 a2 (fun _ => ⟨h4, h5.1⟩), fun z => absurd ((b2_t h5).symm.trans z) (by decide)⟩
    · exact ⟨fun z => absurd (b2_f h5) z, fun _ => ⟨rfl, fun z => (by cases z), no 0 [] (fun z => h5 ⟨(z.2.2.1 h0).2, a2.2⟩)⟩⟩
  · exact ⟨fun z => absurd (b2_f a2) z, fun _ => ⟨rfl, fun z => (by cases z), no 0 [] (fun z => a2 z.2.1)⟩⟩

theorem dn_PF_edit : y_PF_edit.cls ≠ "java/lang/invoke/MethodHandle" ∧ y_PF_edit.cls ≠ "java/lang/invoke/VarHandle" ∧ (parseMethodDescriptor y_PF_edit.desc).map (fun d => d.parameters.length) = some 4 := by decide +kernel
abbrev pr_PF_edit : List Value → Mm → Prop := preV 0 (fun k => a_IIII (fun x0 x1 x2 x3 μ => FM μ ∧ (k = 0 ∧ CI μ.2.1)))
abbrev po_PF_edit : List Value → Mm → Option Value → Mm → Prop := qV (fun k => b_IIII (fun x0 x1 x2 x3 μ r μ' => (¬ ((0 ≤ x0 ∧ x0 < 12) ∧ (-1 ≤ x1 ∧ x1 < 6) ∧ (x1 = -1 ∨ ((0 ≤ x2 ∧ x2 < 6) ∧ (0 ≤ x3 ∧ x3 < 6)))) → r = some (.int (-1)) ∧ μ' = μ) ∧ (((0 ≤ x0 ∧ x0 < 12) ∧ (-1 ≤ x1 ∧ x1 < 6) ∧ (x1 = -1 ∨ ((0 ≤ x2 ∧ x2 < 6) ∧ (0 ≤ x3 ∧ x3 < 6)))) → ∀ M1, M1 = up2 (up2 (up2 μ.2.1 2 x0.toNatClampNeg x1) 3 x0.toNatClampNeg x2) 4 x0.toNatClampNeg x3 → ∀ M2, M2 = upr (up2 M1 105 3 0) 106 (fun j => if j < 6 then -1 else M1 106 j) → ∃ ρ, μ' = folM M2 (rfF M2 μ.2.2.1 6) (rfC M2 μ.2.2.1 6) ρ ∧ r = some (.int (cst M2 12)))))
theorem ft_PF_edit : ∀ as μ, pr_PF_edit as μ → μ.1 + 0 ≤ 131 ∧ cz μ.1 + 0 ≤ cz 131 := hf_S (n := 131) (Nat.le_refl _) (fun as μ h => by
  obtain ⟨k, r, rfl, hk, h⟩ := preV_e h
  obtain ⟨x0, x1, x2, x3, rfl, h⟩ := a_IIII_e h
  exact h.1.1)
def C_PF_edit : Cf := fun id => match id with
  | 0 => trF 1 pr_PF_isLine po_PF_isLine
  | 1 => trF 1 pr_PF_isValue po_PF_isValue
  | 2 => trF (4 + 1) pr_PG_write po_PG_write
  | 3 => trF (0 + 1) pr_RN_restart po_RN_restart
  | 4 => trF (0 + 1) pr_PF_readFacts po_PF_readFacts
  | 5 => trF (1 + 1) pr_PF_follow po_PF_follow
  | 6 => trF (0 + 1) pr_PG_countStatements po_PG_countStatements
  | _ => fun _ _ _ => False
set_option maxRecDepth 100000 in
theorem cs_PF_edit (l : Launch) : ∀ x ∈ k_PF_edit, CS l R_PF b_PF_edit 5 (rmm 11 0 0) 131 131 C_PF_edit x := fc (CS.no rfl) (fc (CS.S c_PF_isLine wk_PF_isLine wl_PF_113 wt_PF_isLine wi_PF dn_PF_isLine ⟨rfl, rfl⟩ ⟨by decide, by decide⟩ ft_PF_isLine rfl (e_PF_edit_1).1) (fc (CS.no rfl) (fc (CS.no rfl) (fc (CS.no rfl) (fc (CS.no rfl) (fc (CS.no rfl) (fc (CS.no rfl) (fc (CS.no rfl) (fc (CS.no rfl) (fc (CS.no rfl) (fc (CS.no rfl) (fc (CS.no rfl) (fc (CS.no rfl) (fc (CS.no rfl) (fc (CS.S c_PF_isValue wk_PF_isValue wl_PF_116 wt_PF_isValue wi_PF dn_PF_isValue ⟨rfl, rfl⟩ ⟨by decide, by decide⟩ ft_PF_isValue rfl (e_PF_edit_26).1) (fc (CS.no rfl) (fc (CS.no rfl) (fc (CS.S c_PF_isValue wk_PF_isValue wl_PF_116 wt_PF_isValue wi_PF dn_PF_isValue ⟨rfl, rfl⟩ ⟨by decide, by decide⟩ ft_PF_isValue rfl (e_PF_edit_34).1) (fc (CS.no rfl) (fc (CS.no rfl) (fc (CS.no rfl) (fc (CS.no rfl) (fc (CS.no rfl) (fc (CS.no rfl) (fc (CS.no rfl) (fc (CS.no rfl) (fc (CS.no rfl) (fc (CS.V c_PG_write wk_PG_write wl_PF_119 wm_PG_write we_PG_write rfl rfl wi_PG dn_PG_write ⟨rfl, rfl⟩ ⟨by decide, by decide⟩ ft_PG_write rfl (e_PF_edit_51).1) (fc (CS.no rfl) (fc (CS.no rfl) (fc (CS.V c_RN_restart wk_RN_restart wl_PF_123 wm_RN_restart we_RN_restart rfl rfl wi_RN dn_RN_restart ⟨rfl, rfl⟩ ⟨by decide, by decide⟩ ft_RN_restart rfl (e_PF_edit_58).1) (fc (CS.no rfl) (fc (CS.no rfl) (fc (CS.V c_PF_readFacts wk_PF_readFacts wl_PF_126 wm_PF_readFacts we_PF_readFacts rfl rfl wi_PF dn_PF_readFacts ⟨rfl, rfl⟩ ⟨by decide, by decide⟩ ft_PF_readFacts rfl (e_PF_edit_63).1) (fc (CS.V c_PF_follow wk_PF_follow wl_PF_74 wm_PF_follow we_PF_follow rfl rfl wi_PF dn_PF_follow ⟨rfl, rfl⟩ ⟨by decide, by decide⟩ ft_PF_follow rfl (e_PF_edit_66).1) (fc (CS.no rfl) (fc (CS.no rfl) (fc (CS.V c_PG_countStatements wk_PG_countStatements wl_PF_129 wm_PG_countStatements we_PG_countStatements rfl rfl wi_PG dn_PG_countStatements ⟨rfl, rfl⟩ ⟨by decide, by decide⟩ ft_PG_countStatements rfl (e_PF_edit_73).1) (fc (CS.no rfl) (fun _ h => absurd h List.not_mem_nil))))))))))))))))))))))))))))))))))))))))
set_option maxRecDepth 100000 in
set_option maxHeartbeats 4000000 in
theorem c_PF_edit : Cn y_PF_edit b_PF_edit 5 (some .int) (rmm 11 0 0) (4 + 1) 0 0 pr_PF_edit po_PF_edit := cv_IIII (ci := 0) (f := fun k => fun x0 x1 x2 x3 μ => FM μ ∧ (k = 0 ∧ CI μ.2.1)) (g := fun k => fun x0 x1 x2 x3 μ r μ' => (¬ ((0 ≤ x0 ∧ x0 < 12) ∧ (-1 ≤ x1 ∧ x1 < 6) ∧ (x1 = -1 ∨ ((0 ≤ x2 ∧ x2 < 6) ∧ (0 ≤ x3 ∧ x3 < 6)))) → r = some (.int (-1)) ∧ μ' = μ) ∧ (((0 ≤ x0 ∧ x0 < 12) ∧ (-1 ≤ x1 ∧ x1 < 6) ∧ (x1 = -1 ∨ ((0 ≤ x2 ∧ x2 < 6) ∧ (0 ≤ x3 ∧ x3 < 6)))) → ∀ M1, M1 = up2 (up2 (up2 μ.2.1 2 x0.toNatClampNeg x1) 3 x0.toNatClampNeg x2) 4 x0.toNatClampNeg x3 → ∀ M2, M2 = upr (up2 M1 105 3 0) 106 (fun j => if j < 6 then -1 else M1 106 j) → ∃ ρ, μ' = folM M2 (rfF M2 μ.2.2.1 6) (rfC M2 μ.2.2.1 6) ρ ∧ r = some (.int (cst M2 12)))) fun l k x0 x1 x2 x3 μ hk h => by
  obtain ⟨hm, h⟩ := h
  obtain ⟨M, L, rfl⟩ := hm.e
  refine ky_met (own := R_PF) (ini := 0) (rb := 0) (nE := 131) (cd := k_PF_edit) (C := C_PF_edit) (by decide) rfl (fun h => by cases h) (Nat.le_of_ble_eq_true rfl) ⟨rfl, rfl⟩ (Or.inl ⟨rfl, rfl⟩) rfl rfl (by decide) ok_PF_edit (cs_PF_edit l) rt_PF_edit (fun K hs => ?_)
  obtain ⟨rfl, hc⟩ := h
  have hc : CI M := hc
  have no : ¬ ((0 ≤ x0 ∧ x0 < 12) ∧ (-1 ≤ x1 ∧ x1 < 6) ∧ (x1 = -1 ∨ ((0 ≤ x2 ∧ x2 < 6) ∧ (0 ≤ x3 ∧ x3 < 6)))) → _ := fun h => h
  have s42 : ((0 ≤ x0 ∧ x0 < 12) ∧ (-1 ≤ x1 ∧ x1 < 6) ∧ (x1 = -1 ∨ ((0 ≤ x2 ∧ x2 < 6) ∧ (0 ≤ x3 ∧ x3 < 6)))) → K 42 [some (.ref 0), some (.int x0), some (.int x1), some (.int x2), some (.int x3)] [] (131, M, L, TT) := by
    intro hA
    have hx := in_12 hA.1.1 hA.1.2
    refine hs.go [42] 80 _ _ _ _ ⟨rfl, _, rfl, ⟨rfl, ⟨rfl, rfl⟩, rfl, hx⟩, rfl, rfl, ?_⟩
    rintro _ _ ⟨rfl, rfl⟩
    refine ⟨rfl, _, rfl, ⟨rfl, ⟨rfl, rfl⟩, rfl⟩, rfl, rfl, ?_⟩
    rintro _ _ ⟨rfl, rfl⟩
    refine ⟨⟨rfl, ⟨rfl, rfl⟩, rfl⟩, rfl, rfl, ?_⟩
    rintro _ _ ⟨rfl, rfl⟩
    have e2 : upr (up2 (up2 (up2 (up2 M 2 x0.toNatClampNeg x1) 3 x0.toNatClampNeg x2) 4 x0.toNatClampNeg x3) 105 3 0) 106 (fun j => if j < 6 then -1 else up2 (up2 (up2 M 2 x0.toNatClampNeg x1) 3 x0.toNatClampNeg x2) 4 x0.toNatClampNeg x3 106 j) = upr (up2 (up2 (up2 (up2 M 2 x0.toNatClampNeg x1) 3 x0.toNatClampNeg x2) 4 x0.toNatClampNeg x3) 105 3 0) 106 (fun j => if j < (kd 106).2 then -1 else up2 (up2 (up2 (up2 M 2 x0.toNatClampNeg x1) 3 x0.toNatClampNeg x2) 4 x0.toNatClampNeg x3) 105 3 0 106 j) := by
      rw [show up2 (up2 (up2 (up2 M 2 x0.toNatClampNeg x1) 3 x0.toNatClampNeg x2) 4 x0.toNatClampNeg x3) 105 3 0 106 = up2 (up2 (up2 M 2 x0.toNatClampNeg x1) 3 x0.toNatClampNeg x2) 4 x0.toNatClampNeg x3 106 from up2_k (by decide)]
      rfl
    have fr : ∀ k, k ≠ 2 → k ≠ 3 → k ≠ 4 → k ≠ 105 → k ≠ 106 → upr (up2 (up2 (up2 (up2 M 2 x0.toNatClampNeg x1) 3 x0.toNatClampNeg x2) 4 x0.toNatClampNeg x3) 105 3 0) 106 (fun j => if j < (kd 106).2 then -1 else up2 (up2 (up2 (up2 M 2 x0.toNatClampNeg x1) 3 x0.toNatClampNeg x2) 4 x0.toNatClampNeg x3) 105 3 0 106 j) k = M k := by
      intro k h2 h3 h4 h5 h6
      rw [upr_k h6, up2_k h5, up2_k h4, up2_k h3, up2_k h2]
    have hv2 : VR (upr (up2 (up2 (up2 (up2 M 2 x0.toNatClampNeg x1) 3 x0.toNatClampNeg x2) 4 x0.toNatClampNeg x3) 105 3 0) 106 (fun j => if j < (kd 106).2 then -1 else up2 (up2 (up2 (up2 M 2 x0.toNatClampNeg x1) 3 x0.toNatClampNeg x2) 4 x0.toNatClampNeg x3) 105 3 0 106 j) 104) := by
      rw [fr 104 (by decide) (by decide) (by decide) (by decide) (by decide)]
      exact hc.2.1
    have hw2 : ∀ i, i < 14 → wR (upr (up2 (up2 (up2 (up2 M 2 x0.toNatClampNeg x1) 3 x0.toNatClampNeg x2) 4 x0.toNatClampNeg x3) 105 3 0) 106 (fun j => if j < (kd 106).2 then -1 else up2 (up2 (up2 (up2 M 2 x0.toNatClampNeg x1) 3 x0.toNatClampNeg x2) 4 x0.toNatClampNeg x3) 105 3 0 106 j)) i := by
      intro i hi
      obtain ⟨b1, b2, b3, b4⟩ := hc.1.1 i hi
      refine ⟨?_, ?_, fr_wL (fr _ (by omega) (by omega) (by omega) (by omega) (by omega)) b3, fun j hj => fr_wL (fr _ (by omega) (by omega) (by omega) (by omega) (by omega)) (b4 j hj)⟩
      · rw [fr _ (by omega) (by omega) (by omega) (by omega) (by omega)]; exact b1
      · rw [fr _ (by omega) (by omega) (by omega) (by omega) (by omega)]; exact b2
    refine ⟨⟨rfl, ⟨rfl, rfl⟩, rfl, hv2, hw2⟩, rfl, rfl, ?_⟩
    intro r μ' hq
    obtain ⟨q1, ρ, q2⟩ := hq
    rw [q1, q2]
    refine ⟨rfl, _, rfl, ⟨rfl, ⟨rfl, rfl⟩, rfl⟩, rfl, rfl, ?_⟩
    intro r μ' hq
    rw [hq.1, hq.2]
    refine ⟨rfl, fun z => (by cases z), fun z => absurd hA z, fun _ M1 hM1 M2 hM2 => ⟨ρ, ?_, ?_⟩⟩
    · rw [hM2, hM1, e2]
      rfl
    · rw [hM2, hM1, e2]
      refine congrArg (fun v => some (Value.int v)) ?_
      exact cst_up 12
  refine hs.go [42] 80 _ _ _ _ ⟨⟨⟨rfl, rfl⟩, trivial⟩, rfl, rfl, ?_⟩
  rintro _ _ ⟨rfl, rfl⟩
  by_cases h1 : 0 ≤ x0 ∧ x0 < 12
  · rw [show b2 (0 ≤ x0 ∧ x0 < 12) = 1 from b2_t h1]
    refine ⟨fun z => absurd z (by decide), fun _ => ⟨fun h2 => ⟨rfl, fun z => (by cases z), fun _ => ⟨rfl, rfl⟩, fun z => absurd h2 (Int32.not_lt.mpr z.2.1.1)⟩, fun h2 => ⟨fun h3 => ?_, fun h3 => ⟨rfl, fun z => (by cases z), fun _ => ⟨rfl, rfl⟩, fun z => absurd z.2.1.2 h3⟩⟩⟩⟩
    have h12 : -1 ≤ x1 ∧ x1 < 6 := ⟨Int32.not_lt.mp h2, h3⟩
    refine ⟨fun h4 => s42 ⟨h1, h12, Or.inl h4⟩, fun h4 => ⟨⟨⟨rfl, rfl⟩, trivial⟩, rfl, rfl, ?_⟩⟩
    rintro _ _ ⟨rfl, rfl⟩
    by_cases h5 : 0 ≤ x2 ∧ x2 < 6
    · rw [show b2 (0 ≤ x2 ∧ x2 < 6) = 1 from b2_t h5]
      refine ⟨fun z => absurd z (by decide), fun _ => ⟨⟨⟨rfl, rfl⟩, trivial⟩, rfl, rfl, ?_⟩⟩
      rintro _ _ ⟨rfl, rfl⟩
      by_cases h6 : 0 ≤ x3 ∧ x3 < 6
      · exact ⟨fun _ => s42 ⟨h1, h12, Or.inr ⟨h5, h6⟩⟩, fun z => absurd ((b2_t h6).symm.trans z) (by decide)⟩
      · exact ⟨fun z => absurd (b2_f h6) z, fun _ => ⟨rfl, fun z => (by cases z), fun _ => ⟨rfl, rfl⟩, fun z => absurd z.2.2 (fun z => z.elim h4 (fun z => h6 z.2))⟩⟩
    · rw [show b2 (0 ≤ x2 ∧ x2 < 6) = 0 from b2_f h5]
      exact ⟨fun _ => ⟨rfl, fun z => (by cases z), fun _ => ⟨rfl, rfl⟩, fun z => absurd z.2.2 (fun z => z.elim h4 (fun z => h5 z.1))⟩, fun z => absurd rfl z⟩
  · rw [show b2 (0 ≤ x0 ∧ x0 < 12) = 0 from b2_f h1]
    exact ⟨fun _ => ⟨rfl, fun z => (by cases z), fun _ => ⟨rfl, rfl⟩, fun z => absurd z.1 h1⟩, fun z => absurd rfl z⟩

theorem dg_W {M : mM} {x : Int32} (h : ∀ i, i < 14 → wR M i) : ∀ i, i < 14 → wR (up2 M 10 4 x) i := by
  intro i hi
  have fr : ∀ k, k ≠ 10 → up2 M 10 4 x k = M k := fun k hk => up2_k hk
  obtain ⟨b1, b2, b3, b4⟩ := h i hi
  refine ⟨?_, ?_, fr_wL (fr _ (by omega)) b3, fun j hj => fr_wL (fr _ (by omega)) (b4 j hj)⟩
  · rw [fr _ (by omega)]; exact b1
  · rw [fr _ (by omega)]; exact b2
theorem up96 {M : mM} {t : Nat → Int32} {k : Nat} (h1 : k ≠ 97) (h2 : k ≠ 96) : upr (upr M 97 t) 96 t k = M k := by rw [upr_k h2, upr_k h1]
theorem wR_96 {M : mM} {t : Nat → Int32} (h : ∀ i, i < 14 → wR M i) : ∀ i, i < 14 → wR (upr (upr M 97 t) 96 t) i := by
  intro i hi
  obtain ⟨b1, b2, b3, b4⟩ := h i hi
  refine ⟨?_, ?_, fr_wL (up96 (by omega) (by omega)) b3, fun j hj => fr_wL (up96 (by omega) (by omega)) (b4 j hj)⟩
  · rw [up96 (by omega) (by omega)]; exact b1
  · rw [up96 (by omega) (by omega)]; exact b2
theorem abS_k {M : mM} {i kk k : Nat} (hi : i < 14) (h : abI M i) (hl : M (12 + 6 * i) 2 < 3) (hk : 96 ≤ k) : abS M i kk k = M k := by
  obtain ⟨⟨n, hn, hne⟩, -⟩ := h
  have hn3 : n < 3 := by
    rw [hne] at hl
    rcases Nat.lt_or_ge n 3 with z | z
    · exact z
    · exact absurd hl (nI_nlt (a := n) (b := 3) z (by omega))
  have hrl : rln M i = n := by unfold rln; rw [hne]; exact nI_clamp (n := n) (by omega)
  unfold abS
  rw [hrl, up2_k (by omega), up2_k (by omega), cpy_k (by omega)]
theorem atb_k {i : Nat} {neg : Int32} {k : Nat} (hi : i < 14) (hk : 96 ≤ k) : ∀ (n kk : Nat) (M : mM), abI M i → atb i neg n kk M k = M k
  | 0, _, _, _ => rfl
  | n + 1, kk, M, h => by
    simp only [atb]
    split
    · rename_i hc
      rw [atb_k hi hk n (kk + 1) _ (abS_I hi h hc.2), abS_k hi h hc.2 hk]
    · exact atb_k hi hk n (kk + 1) _ h
theorem bcm_k {M : mM} {i g k : Nat} (hi : i < 14) (h : ∀ j, j < 4 → (M (99 + j) 3 = 0 ∨ M (99 + j) 3 = 1)) (hk : 96 ≤ k) : bcm M i g k = M k := by
  have hI1 : abI (up2 (up2 (cpy M (13 + 6 * i) 99) (12 + 6 * i) 2 0) (12 + 6 * i) 3 0) i := by
    refine ⟨⟨0, by decide, ?_⟩, fun j hj => ?_⟩
    · rw [up2_j (by decide), up2_s]; rfl
    · rw [up2_k (by omega), up2_k (by omega), cpy_k (by omega)]
      exact h j hj
  unfold bcm
  rw [up2_k (by omega), atb_k hi hk _ _ _ (atb_I hi _ _ _ hI1), atb_k hi hk _ _ _ hI1, up2_k (by omega), up2_k (by omega), cpy_k (by omega)]
/-- the memory with a new rule and its strata, the given literals dropped -/
def nwr (M : mM) (t : Nat → Int32) : mM := up2 (upr (upr (bcm M (fnr M 8 6).toNatClampNeg (M 10 4).toNatClampNeg) 97 t) 96 t) 10 4 0

theorem dn_PF_rule : y_PF_rule.cls ≠ "java/lang/invoke/MethodHandle" ∧ y_PF_rule.cls ≠ "java/lang/invoke/VarHandle" ∧ (parseMethodDescriptor y_PF_rule.desc).map (fun d => d.parameters.length) = some 0 := by decide +kernel
abbrev pr_PF_rule : List Value → Mm → Prop := preV 0 (fun k => a_0 (fun μ => FM μ ∧ (k = 0 ∧ CI μ.2.1)))
abbrev po_PF_rule : List Value → Mm → Option Value → Mm → Prop := qV (fun k => b_0 (fun μ r μ' => ((μ.2.1 10 4 = 0 ∨ fnr μ.2.1 8 6 = -1) → r = some (.int (-1)) ∧ μ' = sI μ 10 4 0) ∧ (¬ (μ.2.1 10 4 = 0 ∨ fnr μ.2.1 8 6 = -1) → (¬ msafe μ.2.1 → r = some (.int (-2)) ∧ μ' = sI μ 10 4 0) ∧ (msafe μ.2.1 → ∀ M1, M1 = bcm μ.2.1 (fnr μ.2.1 8 6).toNatClampNeg (μ.2.1 10 4).toNatClampNeg → (∀ t, sty M1 14 (z14 (M1 97)) = some t → r = some (.int (fnr μ.2.1 8 6)) ∧ ∃ ρ, μ' = folM (nwr μ.2.1 t) μ.2.2.1 (1 <<< (nwr μ.2.1 t (13 + 6 * (fnr μ.2.1 8 6).toNatClampNeg) 0 &&& 31)) ρ) ∧ (sty M1 14 (z14 (M1 97)) = none → r = some (.int (-3)) ∧ ∃ t, μ' = (131, up2 (up2 (upr M1 97 t) (12 + 6 * (fnr μ.2.1 8 6).toNatClampNeg) 4 0) 10 4 0, μ.2.2.1, TT))))))
theorem ft_PF_rule : ∀ as μ, pr_PF_rule as μ → μ.1 + 0 ≤ 131 ∧ cz μ.1 + 0 ≤ cz 131 := hf_S (n := 131) (Nat.le_refl _) (fun as μ h => by
  obtain ⟨k, r, rfl, hk, h⟩ := preV_e h
  obtain ⟨rfl, h⟩ := a_0_e h
  exact h.1.1)
def C_PF_rule : Cf := fun id => match id with
  | 0 => trF (0 + 1) pr_RB_makeRule po_RB_makeRule
  | 1 => trF (0 + 1) pr_RB_dropGiven po_RB_dropGiven
  | 2 => trF (1 + 1) pr_RB_headOf po_RB_headOf
  | 3 => trF (1 + 1) pr_PF_follow po_PF_follow
  | _ => fun _ _ _ => False
set_option maxRecDepth 100000 in
theorem cs_PF_rule (l : Launch) : ∀ x ∈ k_PF_rule, CS l R_PF b_PF_rule 2 (rmm 11 0 0) 131 131 C_PF_rule x := fc (CS.no rfl) (fc (CS.no rfl) (fc (CS.V c_RB_makeRule wk_RB_makeRule wl_PF_95 wm_RB_makeRule we_RB_makeRule rfl rfl wi_RB dn_RB_makeRule ⟨rfl, rfl⟩ ⟨by decide, by decide⟩ ft_RB_makeRule rfl (e_PF_rule_4).1) (fc (CS.no rfl) (fc (CS.no rfl) (fc (CS.no rfl) (fc (CS.V c_RB_dropGiven wk_RB_dropGiven wl_PF_99 wm_RB_dropGiven we_RB_dropGiven rfl rfl wi_RB dn_RB_dropGiven ⟨rfl, rfl⟩ ⟨by decide, by decide⟩ ft_RB_dropGiven rfl (e_PF_rule_12).1) (fc (CS.no rfl) (fc (CS.no rfl) (fc (CS.no rfl) (fc (CS.no rfl) (fc (CS.no rfl) (fc (CS.no rfl) (fc (CS.no rfl) (fc (CS.V c_RB_headOf wk_RB_headOf wl_PF_102 wm_RB_headOf we_RB_headOf rfl rfl wi_RB dn_RB_headOf ⟨rfl, rfl⟩ ⟨by decide, by decide⟩ ft_RB_headOf rfl (e_PF_rule_26).1) (fc (CS.no rfl) (fc (CS.V c_PF_follow wk_PF_follow wl_PF_74 wm_PF_follow we_PF_follow rfl rfl wi_PF dn_PF_follow ⟨rfl, rfl⟩ ⟨by decide, by decide⟩ ft_PF_follow rfl (e_PF_rule_30).1) (fc (CS.no rfl) (fc (CS.no rfl) (fun _ h => absurd h List.not_mem_nil)))))))))))))))))))
set_option maxRecDepth 100000 in
set_option maxHeartbeats 4000000 in
theorem c_PF_rule : Cn y_PF_rule b_PF_rule 2 (some .int) (rmm 11 0 0) (0 + 1) 0 0 pr_PF_rule po_PF_rule := cv_0 (ci := 0) (f := fun k => fun μ => FM μ ∧ (k = 0 ∧ CI μ.2.1)) (g := fun k => fun μ r μ' => ((μ.2.1 10 4 = 0 ∨ fnr μ.2.1 8 6 = -1) → r = some (.int (-1)) ∧ μ' = sI μ 10 4 0) ∧ (¬ (μ.2.1 10 4 = 0 ∨ fnr μ.2.1 8 6 = -1) → (¬ msafe μ.2.1 → r = some (.int (-2)) ∧ μ' = sI μ 10 4 0) ∧ (msafe μ.2.1 → ∀ M1, M1 = bcm μ.2.1 (fnr μ.2.1 8 6).toNatClampNeg (μ.2.1 10 4).toNatClampNeg → (∀ t, sty M1 14 (z14 (M1 97)) = some t → r = some (.int (fnr μ.2.1 8 6)) ∧ ∃ ρ, μ' = folM (nwr μ.2.1 t) μ.2.2.1 (1 <<< (nwr μ.2.1 t (13 + 6 * (fnr μ.2.1 8 6).toNatClampNeg) 0 &&& 31)) ρ) ∧ (sty M1 14 (z14 (M1 97)) = none → r = some (.int (-3)) ∧ ∃ t, μ' = (131, up2 (up2 (upr M1 97 t) (12 + 6 * (fnr μ.2.1 8 6).toNatClampNeg) 4 0) 10 4 0, μ.2.2.1, TT))))) fun l k  μ hk h => by
  obtain ⟨hm, h⟩ := h
  obtain ⟨M, L, rfl⟩ := hm.e
  refine ky_met (own := R_PF) (ini := 0) (rb := 0) (nE := 131) (cd := k_PF_rule) (C := C_PF_rule) (by decide) rfl (fun h => by cases h) (Nat.le_of_ble_eq_true rfl) ⟨rfl, rfl⟩ (Or.inl ⟨rfl, rfl⟩) rfl rfl (by decide) ok_PF_rule (cs_PF_rule l) rt_PF_rule (fun K hs => ?_)
  obtain ⟨rfl, hc⟩ := h
  have hc : CI M := hc
  obtain ⟨g, hg, hge⟩ := hc.1.2.2
  have hgcl : (M 10 4).toNatClampNeg = g := by rw [hge]; exact nI_clamp (n := g) (by omega)
  refine hs.go [] 60 _ _ _ _ ⟨rfl, _, rfl, ⟨rfl, ⟨rfl, rfl⟩, rfl, hc.1⟩, rfl, rfl, ?_⟩
  intro r μ' hq
  by_cases h0 : M 10 4 = 0 ∨ fnr M 8 6 = -1
  · obtain ⟨q1, q2⟩ := hq.1 h0
    rw [q1, q2]
    refine ⟨rfl, _, rfl, ⟨rfl, ⟨rfl, rfl⟩, rfl⟩, rfl, rfl, ?_⟩
    rintro _ _ ⟨rfl, rfl⟩
    exact ⟨fun _ => ⟨rfl, fun z => (by cases z), fun _ => ⟨rfl, rfl⟩, fun z => absurd h0 z⟩, fun z => absurd (by decide) z⟩
  · have hq2 := hq.2 h0
    by_cases hsf : msafe M
    · have hj1 : ¬ fnr M 8 6 = -1 := fun z => h0 (Or.inr z)
      have hg0 : ¬ M 10 4 = 0 := fun z => h0 (Or.inl z)
      obtain ⟨j, hj6, hj, hje, hj0⟩ := (fnr_lt (M := M) 8 6 (by decide)).resolve_left hj1
      have hjcl : (fnr M 8 6).toNatClampNeg = j := by rw [hje]; exact nI_clamp (n := j) (by omega)
      have hjin : vp_in (fnr M 8 6) 14 := by rw [hje]; exact vp_in_nI hj (by decide)
      have hg1 : 1 ≤ g := by
        rcases Nat.lt_or_ge 0 g with z | z
        · exact z
        · exfalso
          apply hg0
          rw [hge, show g = 0 by omega]
          rfl
      have hQ1 : WQ (bcm M j g) := WQ_bcm ⟨hc.1.1, hc.1.2.1⟩ hj hg1 hg
      have hq3 := hq2.2 hsf (bcm M j g) (by show bcm M j g = bcm M (fnr M 8 6).toNatClampNeg (M 10 4).toNatClampNeg; rw [hjcl, hgcl])
      have h01 : ∀ a, a < 4 → (M (99 + a) 3 = 0 ∨ M (99 + a) 3 = 1) := fun a ha => (hc.1.2.1 a ha).2.2.2
      cases hst : sty (bcm M j g) 14 (z14 (bcm M j g 97)) with
      | some t =>
        obtain ⟨q1, q2⟩ := hq3.1 t hst
        have enw : nwr M t = up2 (upr (upr (bcm M j g) 97 t) 96 t) 10 4 0 := by unfold nwr; rw [hjcl, hgcl]
        rw [q1, q2]
        refine ⟨rfl, _, rfl, ⟨rfl, ⟨rfl, rfl⟩, rfl⟩, rfl, rfl, ?_⟩
        rintro _ _ ⟨rfl, rfl⟩
        have hpos : ¬ fnr M 8 6 < 0 := by rw [hje]; exact nI_pos (n := j) (by omega)
        have hv2 : VR (up2 (upr (upr (bcm M j g) 97 t) 96 t) 10 4 0 104) := by
          rw [up2_k (by decide), up96 (by decide) (by decide), bcm_k hj h01 (by decide)]
          exact hc.2.1
        refine ⟨fun z => absurd z hpos, fun _ => ⟨rfl, _, rfl, ⟨rfl, ⟨rfl, rfl⟩, rfl, hjin⟩, rfl, rfl, ?_⟩⟩
        rintro _ _ ⟨rfl, rfl⟩
        refine ⟨⟨rfl, ⟨rfl, rfl⟩, rfl, hv2, dg_W (wR_96 hQ1.1)⟩, rfl, rfl, ?_⟩
        intro r μ' hq
        obtain ⟨f1, ρ, f2⟩ := hq
        rw [f1, f2]
        refine ⟨rfl, fun z => (by cases z), fun z => absurd z h0, fun _ => ⟨fun z => absurd hsf z, fun _ M1 hM1 => ?_⟩⟩
        have hM1 : M1 = bcm M (fnr M 8 6).toNatClampNeg (M 10 4).toNatClampNeg := hM1
        rw [hjcl, hgcl] at hM1
        subst hM1
        refine ⟨fun t' ht' => ?_, fun z => absurd (hst.symm.trans z) (by simp)⟩
        have : t = t' := Option.some.inj (hst.symm.trans ht')
        subst this
        refine ⟨rfl, ρ, ?_⟩
        show _ = folM (nwr M t) L (1 <<< (nwr M t (13 + 6 * (fnr M 8 6).toNatClampNeg) 0 &&& 31)) ρ
        rw [enw]
        rfl
      | none =>
        obtain ⟨q1, t, q2⟩ := hq3.2 hst
        rw [q1, q2]
        refine ⟨rfl, _, rfl, ⟨rfl, ⟨rfl, rfl⟩, rfl⟩, rfl, rfl, ?_⟩
        rintro _ _ ⟨rfl, rfl⟩
        refine ⟨fun _ => ⟨rfl, fun z => (by cases z), fun z => absurd z h0, fun _ => ⟨fun z => absurd hsf z, fun _ M1 hM1 => ?_⟩⟩, fun z => absurd (by decide) z⟩
        have hM1 : M1 = bcm M (fnr M 8 6).toNatClampNeg (M 10 4).toNatClampNeg := hM1
        rw [hjcl, hgcl] at hM1
        subst hM1
        exact ⟨fun t' ht' => absurd (hst.symm.trans ht') (by simp), fun _ => ⟨rfl, t, rfl⟩⟩
    · obtain ⟨q1, q2⟩ := hq2.1 hsf
      rw [q1, q2]
      refine ⟨rfl, _, rfl, ⟨rfl, ⟨rfl, rfl⟩, rfl⟩, rfl, rfl, ?_⟩
      rintro _ _ ⟨rfl, rfl⟩
      exact ⟨fun _ => ⟨rfl, fun z => (by cases z), fun z => absurd z h0, fun _ => ⟨fun _ => ⟨rfl, rfl⟩, fun z => absurd z hsf⟩⟩, fun z => absurd (by decide) z⟩

theorem dn_PF_forget : y_PF_forget.cls ≠ "java/lang/invoke/MethodHandle" ∧ y_PF_forget.cls ≠ "java/lang/invoke/VarHandle" ∧ (parseMethodDescriptor y_PF_forget.desc).map (fun d => d.parameters.length) = some 1 := by decide +kernel
abbrev pr_PF_forget : List Value → Mm → Prop := preV 0 (fun k => a_I (fun x0 μ => FM μ ∧ (k = 0 ∧ CI μ.2.1)))
abbrev po_PF_forget : List Value → Mm → Option Value → Mm → Prop := qV (fun k => b_I (fun x0 μ r μ' => (¬ (6 ≤ x0 ∧ x0 < 14 ∧ ¬ μ.2.1 (12 + 6 * x0.toNatClampNeg) 4 = 0) → r = some (.int 0) ∧ μ' = μ) ∧ ((6 ≤ x0 ∧ x0 < 14 ∧ ¬ μ.2.1 (12 + 6 * x0.toNatClampNeg) 4 = 0) → ∀ M1, M1 = up2 μ.2.1 (12 + 6 * x0.toNatClampNeg) 4 0 → r = some (.int 1) ∧ (∀ t, sty M1 14 (z14 (M1 97)) = some t → ∃ ρ, μ' = folM (upr (upr M1 97 t) 96 t) μ.2.2.1 (1 <<< (μ.2.1 (13 + 6 * x0.toNatClampNeg) 0 &&& 31)) ρ) ∧ (sty M1 14 (z14 (M1 97)) = none → ∃ t ρ, μ' = folM (upr M1 97 t) μ.2.2.1 (1 <<< (μ.2.1 (13 + 6 * x0.toNatClampNeg) 0 &&& 31)) ρ))))
theorem ft_PF_forget : ∀ as μ, pr_PF_forget as μ → μ.1 + 0 ≤ 131 ∧ cz μ.1 + 0 ≤ cz 131 := hf_S (n := 131) (Nat.le_refl _) (fun as μ h => by
  obtain ⟨k, r, rfl, hk, h⟩ := preV_e h
  obtain ⟨x0, rfl, h⟩ := a_I_e h
  exact h.1.1)
def C_PF_forget : Cf := fun id => match id with
  | 0 => trF (1 + 1) pr_RB_isUsers po_RB_isUsers
  | 1 => trF (1 + 1) pr_RB_remove po_RB_remove
  | 2 => trF (0 + 1) pr_RB_stratify po_RB_stratify
  | 3 => trF (1 + 1) pr_RB_headOf po_RB_headOf
  | 4 => trF (1 + 1) pr_PF_follow po_PF_follow
  | _ => fun _ _ _ => False
set_option maxRecDepth 100000 in
theorem cs_PF_forget (l : Launch) : ∀ x ∈ k_PF_forget, CS l R_PF b_PF_forget 2 (rmm 11 0 0) 131 131 C_PF_forget x := fc (CS.no rfl) (fc (CS.no rfl) (fc (CS.no rfl) (fc (CS.V c_RB_isUsers wk_RB_isUsers wl_PF_105 wm_RB_isUsers we_RB_isUsers rfl rfl wi_RB dn_RB_isUsers ⟨rfl, rfl⟩ ⟨by decide, by decide⟩ ft_RB_isUsers rfl (e_PF_forget_5).1) (fc (CS.no rfl) (fc (CS.no rfl) (fc (CS.no rfl) (fc (CS.no rfl) (fc (CS.no rfl) (fc (CS.no rfl) (fc (CS.V c_RB_remove wk_RB_remove wl_PF_106 wm_RB_remove we_RB_remove rfl rfl wi_RB dn_RB_remove ⟨rfl, rfl⟩ ⟨by decide, by decide⟩ ft_RB_remove rfl (e_PF_forget_18).1) (fc (CS.no rfl) (fc (CS.no rfl) (fc (CS.V c_RB_stratify wk_RB_stratify wl_PF_109 wm_RB_stratify we_RB_stratify rfl rfl wi_RB dn_RB_stratify ⟨rfl, rfl⟩ ⟨by decide, by decide⟩ ft_RB_stratify rfl (e_PF_forget_25).1) (fc (CS.no rfl) (fc (CS.no rfl) (fc (CS.no rfl) (fc (CS.no rfl) (fc (CS.no rfl) (fc (CS.no rfl) (fc (CS.V c_RB_headOf wk_RB_headOf wl_PF_102 wm_RB_headOf we_RB_headOf rfl rfl wi_RB dn_RB_headOf ⟨rfl, rfl⟩ ⟨by decide, by decide⟩ ft_RB_headOf rfl (e_PF_forget_36).1) (fc (CS.no rfl) (fc (CS.V c_PF_follow wk_PF_follow wl_PF_74 wm_PF_follow we_PF_follow rfl rfl wi_PF dn_PF_follow ⟨rfl, rfl⟩ ⟨by decide, by decide⟩ ft_PF_follow rfl (e_PF_forget_40).1) (fc (CS.no rfl) (fc (CS.no rfl) (fun _ h => absurd h List.not_mem_nil)))))))))))))))))))))))))
set_option maxRecDepth 100000 in
set_option maxHeartbeats 4000000 in
theorem c_PF_forget : Cn y_PF_forget b_PF_forget 2 (some .boolean) (rmm 11 0 0) (1 + 1) 0 0 pr_PF_forget po_PF_forget := cv_I (ci := 0) (f := fun k => fun x0 μ => FM μ ∧ (k = 0 ∧ CI μ.2.1)) (g := fun k => fun x0 μ r μ' => (¬ (6 ≤ x0 ∧ x0 < 14 ∧ ¬ μ.2.1 (12 + 6 * x0.toNatClampNeg) 4 = 0) → r = some (.int 0) ∧ μ' = μ) ∧ ((6 ≤ x0 ∧ x0 < 14 ∧ ¬ μ.2.1 (12 + 6 * x0.toNatClampNeg) 4 = 0) → ∀ M1, M1 = up2 μ.2.1 (12 + 6 * x0.toNatClampNeg) 4 0 → r = some (.int 1) ∧ (∀ t, sty M1 14 (z14 (M1 97)) = some t → ∃ ρ, μ' = folM (upr (upr M1 97 t) 96 t) μ.2.2.1 (1 <<< (μ.2.1 (13 + 6 * x0.toNatClampNeg) 0 &&& 31)) ρ) ∧ (sty M1 14 (z14 (M1 97)) = none → ∃ t ρ, μ' = folM (upr M1 97 t) μ.2.2.1 (1 <<< (μ.2.1 (13 + 6 * x0.toNatClampNeg) 0 &&& 31)) ρ))) fun l k x0 μ hk h => by
  obtain ⟨hm, h⟩ := h
  obtain ⟨M, L, rfl⟩ := hm.e
  refine ky_met (own := R_PF) (ini := 0) (rb := 1) (nE := 131) (cd := k_PF_forget) (C := C_PF_forget) (by decide) rfl (fun h => by cases h) (Nat.le_of_ble_eq_true rfl) ⟨rfl, rfl⟩ (Or.inr (Or.inl ⟨rfl, rfl⟩)) rfl rfl (by decide) ok_PF_forget (cs_PF_forget l) rt_PF_forget (fun K hs => ?_)
  obtain ⟨rfl, hc⟩ := h
  have hc : CI M := hc
  refine hs.go [] 60 _ _ _ _ ⟨rfl, _, rfl, ⟨rfl, ⟨rfl, rfl⟩, rfl⟩, rfl, rfl, ?_⟩
  rintro _ _ ⟨rfl, rfl⟩
  by_cases h1 : 6 ≤ x0 ∧ x0 < 14 ∧ ¬ M (12 + 6 * x0.toNatClampNeg) 4 = 0
  · have hx : vp_in x0 14 := in_lt (Int32.le_trans (by decide) h1.1) h1.2.1
    have hi := cl_lt hx
    refine ⟨fun _ => ⟨rfl, _, rfl, ⟨rfl, ⟨rfl, rfl⟩, rfl, hx⟩, rfl, rfl, ?_⟩, fun z => absurd ((b2_t h1).symm.trans z) (by decide)⟩
    rintro _ _ ⟨rfl, rfl⟩
    have hQ : WQ (up2 M (12 + 6 * x0.toNatClampNeg) 4 0) := WQ_up ⟨hc.1.1, hc.1.2.1⟩ hi (Or.inr (Or.inr ⟨rfl, Or.inl rfl⟩))
    refine ⟨rfl, _, rfl, ⟨rfl, ⟨rfl, rfl⟩, rfl, hQ.1⟩, rfl, rfl, ?_⟩
    intro r μ' hq
    have hq : (∀ t, sty (up2 M (12 + 6 * x0.toNatClampNeg) 4 0) 14 (z14 (up2 M (12 + 6 * x0.toNatClampNeg) 4 0 97)) = some t → r = some (.int 1) ∧ μ' = (131, upr (upr (up2 M (12 + 6 * x0.toNatClampNeg) 4 0) 97 t) 96 t, L, TT)) ∧ (sty (up2 M (12 + 6 * x0.toNatClampNeg) 4 0) 14 (z14 (up2 M (12 + 6 * x0.toNatClampNeg) 4 0 97)) = none → r = some (.int 0) ∧ ∃ t, μ' = (131, upr (up2 M (12 + 6 * x0.toNatClampNeg) 4 0) 97 t, L, TT)) := hq
    have eh : ∀ k, k ≠ 12 + 6 * x0.toNatClampNeg → up2 M (12 + 6 * x0.toNatClampNeg) 4 0 k = M k := fun k hk => up2_k hk
    cases hst : sty (up2 M (12 + 6 * x0.toNatClampNeg) 4 0) 14 (z14 (up2 M (12 + 6 * x0.toNatClampNeg) 4 0 97)) with
    | some t =>
      obtain ⟨q1, q2⟩ := hq.1 t hst
      rw [q1, q2]
      have hv2 : VR (upr (upr (up2 M (12 + 6 * x0.toNatClampNeg) 4 0) 97 t) 96 t 104) := by
        rw [up96 (by decide) (by decide), eh _ (by omega)]
        exact hc.2.1
      have ehd : upr (upr (up2 M (12 + 6 * x0.toNatClampNeg) 4 0) 97 t) 96 t (13 + 6 * x0.toNatClampNeg) = M (13 + 6 * x0.toNatClampNeg) := by rw [up96 (by omega) (by omega), eh _ (by omega)]
      refine ⟨rfl, _, rfl, ⟨rfl, ⟨rfl, rfl⟩, rfl, hx⟩, rfl, rfl, ?_⟩
      rintro _ _ ⟨rfl, rfl⟩
      refine ⟨⟨rfl, ⟨rfl, rfl⟩, rfl, hv2, wR_96 hQ.1⟩, rfl, rfl, ?_⟩
      intro r μ' hp
      obtain ⟨f1, ρ, f2⟩ := hp
      rw [f1, f2]
      refine ⟨rfl, fun _ => Or.inr rfl, fun z => absurd h1 z, fun _ M1 hM1 => ?_⟩
      have hM1 : M1 = up2 M (12 + 6 * x0.toNatClampNeg) 4 0 := hM1
      subst hM1
      refine ⟨rfl, fun t' ht' => ⟨ρ, ?_⟩, fun z => absurd (hst.symm.trans z) (by simp)⟩
      have : t = t' := Option.some.inj (hst.symm.trans ht')
      subst this
      show folM (upr (upr (up2 M (12 + 6 * x0.toNatClampNeg) 4 0) 97 t) 96 t) L (1 <<< (upr (upr (up2 M (12 + 6 * x0.toNatClampNeg) 4 0) 97 t) 96 t (13 + 6 * x0.toNatClampNeg) 0 &&& 31)) ρ = _
      rw [ehd]
    | none =>
      obtain ⟨q1, t, q2⟩ := hq.2 hst
      rw [q1, q2]
      have hv2 : VR (upr (up2 M (12 + 6 * x0.toNatClampNeg) 4 0) 97 t 104) := by
        rw [upr_k (by decide), eh _ (by omega)]
        exact hc.2.1
      have ehd : upr (up2 M (12 + 6 * x0.toNatClampNeg) 4 0) 97 t (13 + 6 * x0.toNatClampNeg) = M (13 + 6 * x0.toNatClampNeg) := by rw [upr_k (by omega), eh _ (by omega)]
      refine ⟨rfl, _, rfl, ⟨rfl, ⟨rfl, rfl⟩, rfl, hx⟩, rfl, rfl, ?_⟩
      rintro _ _ ⟨rfl, rfl⟩
      refine ⟨⟨rfl, ⟨rfl, rfl⟩, rfl, hv2, fun i hi => fr_wR upr_fr hi (hQ.1 i hi)⟩, rfl, rfl, ?_⟩
      intro r μ' hp
      obtain ⟨f1, ρ, f2⟩ := hp
      rw [f1, f2]
      refine ⟨rfl, fun _ => Or.inr rfl, fun z => absurd h1 z, fun _ M1 hM1 => ?_⟩
      have hM1 : M1 = up2 M (12 + 6 * x0.toNatClampNeg) 4 0 := hM1
      subst hM1
      refine ⟨rfl, fun t' ht' => absurd (hst.symm.trans ht') (by simp), fun _ => ⟨t, ρ, ?_⟩⟩
      show folM (upr (up2 M (12 + 6 * x0.toNatClampNeg) 4 0) 97 t) L (1 <<< (upr (up2 M (12 + 6 * x0.toNatClampNeg) 4 0) 97 t (13 + 6 * x0.toNatClampNeg) 0 &&& 31)) ρ = _
      rw [ehd]
  · exact ⟨fun z => absurd (b2_f h1) z, fun _ => ⟨rfl, fun _ => Or.inl rfl, fun _ => ⟨rfl, rfl⟩, fun z => absurd z h1⟩⟩
