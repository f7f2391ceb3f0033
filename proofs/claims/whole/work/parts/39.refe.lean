theorem PI.u0 {M : mM} {j : Nat} (h : PI M) : PI (up2 M 116 j 0) := by
  obtain ⟨p1, p2, p3, p4, p5, p6, p7, p8⟩ := h
  refine ⟨p1, p2, p3, fun i hi => ?_, fun i hi => ?_, p6, p7, p8⟩
  · by_cases e : i = j
    · subst e
      exact Or.inl up2_s
    · rw [up2_j e]; exact p4 i hi
  · obtain ⟨n, h1, h2, h3⟩ := p5 i hi
    refine ⟨n, h1, h2, fun z => h3 (fun q => z ?_)⟩
    by_cases e : i = j
    · subst e
      exact up2_s
    · rw [up2_j e]; exact q
theorem PI.u1 {M : mM} {j g : Nat} (h : PI M) (hg : g ≤ 4) (hg1 : 1 ≤ g) : PI (up2 (up2 M 116 j 1) 117 j (nI g)) := by
  obtain ⟨p1, p2, p3, p4, p5, p6, p7, p8⟩ := h
  refine ⟨p1, p2, p3, fun i hi => ?_, fun i hi => ?_, p6, p7, p8⟩
  · rw [up2_k (by decide)]
    by_cases e : i = j
    · subst e
      exact Or.inr up2_s
    · rw [up2_j e]; exact p4 i hi
  · by_cases e : i = j
    · subst e
      exact ⟨g, hg, up2_s, fun _ => hg1⟩
    · obtain ⟨n, h1, h2, h3⟩ := p5 i hi
      refine ⟨n, h1, by rw [up2_j e]; exact h2, fun z => h3 ?_⟩
      rw [up2_k (by decide), up2_j e] at z
      exact z
theorem PI.put {M : mM} {a : Nat} {x y z w : Int32} (h : PI M) (hx : vp_in x 14) (hx2 : x < M 109 0) (hy : tmok y) (hz : M 110 x.toNatClampNeg = 1 ∨ tmok z) (hw : w = 0 ∨ w = 1) : PI (up2 (lat M a x y z) 121 a w) := by
  obtain ⟨p1, p2, p3, p4, p5, p6, p7, p8⟩ := h
  refine ⟨p1, p2, p3, p4, p5, fun i hi => ?_, p7, p8⟩
  by_cases e : i = a
  · subst e
    have e1 : up2 (lat M i x y z) 121 i w 118 i = x := by
      show up2 M 118 i x 118 i = x
      exact up2_s
    have e2 : up2 (lat M i x y z) 121 i w 119 i = y := by
      show up2 (up2 M 118 i x) 119 i y 119 i = y
      exact up2_s
    have e3 : up2 (lat M i x y z) 121 i w 120 i = z := by
      show up2 (up2 (up2 M 118 i x) 119 i y) 120 i z 120 i = z
      exact up2_s
    have e4 : up2 (lat M i x y z) 121 i w 121 i = w := up2_s
    unfold rok
    rw [e1, e2, e3, e4]
    exact ⟨⟨hx, hy, hz, hw⟩, hx2⟩
  · have e1 : up2 (lat M a x y z) 121 a w 118 i = M 118 i := by
      show up2 M 118 a x 118 i = _
      exact up2_j e
    have e2 : up2 (lat M a x y z) 121 a w 119 i = M 119 i := by
      show up2 (up2 M 118 a x) 119 a y 119 i = _
      rw [up2_j e]; rfl
    have e3 : up2 (lat M a x y z) 121 a w 120 i = M 120 i := by
      show up2 (up2 (up2 M 118 a x) 119 a y) 120 a z 120 i = _
      rw [up2_j e]; rfl
    have e4 : up2 (lat M a x y z) 121 a w 121 i = M 121 i := by
      rw [up2_j e]
      unfold lat
      rw [up2_j e]; rfl
    unfold rok
    rw [e1, e2, e3, e4]
    exact p6 i hi
abbrev LC (M : mM) (x0 x1 x2 x3 : Int32) : Prop := (¬ M 109 8 = 4 ∧ 0 ≤ x0 ∧ x0 < M 109 0 ∧ isT x1 ∧ (M 110 x0.toNatClampNeg = 2 → isT x2)) ∧ (M 109 8 = 0 → x3 = 0 ∧ 9 ≤ x0)
def mkR (M : mM) (x y : Nat) (v : Int32) : mM := up2 (up2 (up2 (up2 (up2 M 126 (M 109 19).toNatClampNeg v) 127 (2 * M 109 19).toNatClampNeg (-1)) 127 (2 * M 109 19 + 1).toNatClampNeg (-1)) 125 x (M 109 19)) 109 19 (M 109 19 + 1)
/-- a step of the reference's program -/
def stO (M : mM) (op : Int32) (x y : Nat) (v : Int32) : Int32 × mM := if op = 0 then (if M 109 19 = 20 then (0, M) else (1, mkR M x y v)) else if op = 1 then (1, up2 M 125 x (M 125 y)) else if op - op / 2 * 2 = 0 then (if M 125 y < 0 then (0, M) else (1, up2 M 125 x (M 127 (2 * M 125 y + (op / 2 - 1)).toNatClampNeg))) else (if M 125 x < 0 then (0, M) else (1, up2 M 127 (2 * M 125 x + (op / 2 - 1)).toNatClampNeg (M 125 y)))
def stR (M : mM) (x0 : Int32) : Int32 × mM := if 0 ≤ x0 ∧ x0 ≤ 11 ∧ 0 ≤ M 122 x0.toNatClampNeg then stO M (M 122 x0.toNatClampNeg) (M 123 x0.toNatClampNeg).toNatClampNeg (M 124 x0.toNatClampNeg).toNatClampNeg (M 124 x0.toNatClampNeg) else (0, M)

theorem dn_PM_literal : y_PM_literal.cls ≠ "java/lang/invoke/MethodHandle" ∧ y_PM_literal.cls ≠ "java/lang/invoke/VarHandle" ∧ (parseMethodDescriptor y_PM_literal.desc).map (fun d => d.parameters.length) = some 4 := by decide +kernel
abbrev pr_PM_literal : List Value → Mm → Prop := preV 8 (fun k => a_IIII (fun x0 x1 x2 x3 μ => FM μ ∧ (k = 109 ∧ PI μ.2.1 ∧ (x3 = 0 ∨ x3 = 1))))
abbrev po_PM_literal : List Value → Mm → Option Value → Mm → Prop := qV (fun k => b_IIII (fun x0 x1 x2 x3 μ r μ' => (r, μ') = (if LC μ.2.1 x0 x1 x2 x3 then (some (.int (μ.2.1 109 8 + 1)), (131, up2 (up2 (lat μ.2.1 (56 + μ.2.1 109 8).toNatClampNeg x0 x1 x2) 121 (56 + μ.2.1 109 8).toNatClampNeg x3) 109 8 (μ.2.1 109 8 + 1), μ.2.2.1, TT)) else (some (.int (-1)), μ))))
theorem ft_PM_literal : ∀ as μ, pr_PM_literal as μ → μ.1 + 0 ≤ 131 ∧ cz μ.1 + 0 ≤ cz 131 := hf_S (n := 131) (Nat.le_refl _) (fun as μ h => by
  obtain ⟨k, r, rfl, hk, h⟩ := preV_e h
  obtain ⟨x0, x1, x2, x3, rfl, h⟩ := a_IIII_e h
  exact h.1.1)
def C_PM_literal : Cf := fun id => match id with
  | 0 => trF 1 pr_PM_noTerm po_PM_noTerm
  | 1 => trF (4 + 1) pr_PM_literalAt po_PM_literalAt
  | _ => fun _ _ _ => False
set_option maxRecDepth 100000 in
theorem cs_PM_literal (l : Launch) : ∀ x ∈ k_PM_literal, CS l R_PM b_PM_literal 5 (rmm 2 0 0) 131 131 C_PM_literal x := fc (CS.no rfl) (fc (CS.no rfl) (fc (CS.no rfl) (fc (CS.no rfl) (fc (CS.no rfl) (fc (CS.no rfl) (fc (CS.no rfl) (fc (CS.no rfl) (fc (CS.no rfl) (fc (CS.no rfl) (fc (CS.no rfl) (fc (CS.S c_PM_noTerm wk_PM_noTerm wl_PM_150 wt_PM_noTerm wi_PM dn_PM_noTerm ⟨rfl, rfl⟩ ⟨by decide, by decide⟩ ft_PM_noTerm rfl (e_PM_literal_21).1) (fc (CS.no rfl) (fc (CS.no rfl) (fc (CS.no rfl) (fc (CS.no rfl) (fc (CS.no rfl) (fc (CS.no rfl) (fc (CS.no rfl) (fc (CS.no rfl) (fc (CS.S c_PM_noTerm wk_PM_noTerm wl_PM_150 wt_PM_noTerm wi_PM dn_PM_noTerm ⟨rfl, rfl⟩ ⟨by decide, by decide⟩ ft_PM_noTerm rfl (e_PM_literal_38).1) (fc (CS.no rfl) (fc (CS.no rfl) (fc (CS.no rfl) (fc (CS.no rfl) (fc (CS.no rfl) (fc (CS.no rfl) (fc (CS.no rfl) (fc (CS.no rfl) (fc (CS.no rfl) (fc (CS.no rfl) (fc (CS.no rfl) (fc (CS.no rfl) (fc (CS.no rfl) (fc (CS.no rfl) (fc (CS.no rfl) (fc (CS.no rfl) (fc (CS.no rfl) (fc (CS.no rfl) (fc (CS.no rfl) (fc (CS.no rfl) (fc (CS.no rfl) (fc (CS.V c_PM_literalAt wk_PM_literalAt wl_PM_91 wm_PM_literalAt we_PM_literalAt rfl rfl wi_PM dn_PM_literalAt ⟨rfl, rfl⟩ ⟨by decide, by decide⟩ ft_PM_literalAt rfl (e_PM_literal_77).1) (fc (CS.no rfl) (fc (CS.no rfl) (fc (CS.no rfl) (fc (CS.no rfl) (fc (CS.no rfl) (fc (CS.no rfl) (fc (CS.no rfl) (fc (CS.no rfl) (fc (CS.no rfl) (fc (CS.no rfl) (fc (CS.no rfl) (fc (CS.no rfl) (fc (CS.no rfl) (fc (CS.no rfl) (fc (CS.no rfl) (fc (CS.no rfl) (fc (CS.no rfl) (fun _ h => absurd h List.not_mem_nil))))))))))))))))))))))))))))))))))))))))))))))))))))))))))))
set_option maxRecDepth 100000 in
set_option maxHeartbeats 4000000 in
theorem c_PM_literal : Cn y_PM_literal b_PM_literal 5 (some .int) (rmm 2 0 0) (4 + 1) 0 0 pr_PM_literal po_PM_literal := cv_IIII (ci := 8) (f := fun k => fun x0 x1 x2 x3 μ => FM μ ∧ (k = 109 ∧ PI μ.2.1 ∧ (x3 = 0 ∨ x3 = 1))) (g := fun k => fun x0 x1 x2 x3 μ r μ' => (r, μ') = (if LC μ.2.1 x0 x1 x2 x3 then (some (.int (μ.2.1 109 8 + 1)), (131, up2 (up2 (lat μ.2.1 (56 + μ.2.1 109 8).toNatClampNeg x0 x1 x2) 121 (56 + μ.2.1 109 8).toNatClampNeg x3) 109 8 (μ.2.1 109 8 + 1), μ.2.2.1, TT)) else (some (.int (-1)), μ))) fun l k x0 x1 x2 x3 μ hk h => by
  obtain ⟨hm, h⟩ := h
  obtain ⟨M, L, rfl⟩ := hm.e
  refine ky_met (own := R_PM) (ini := 0) (rb := 0) (nE := 131) (cd := k_PM_literal) (C := C_PM_literal) (by decide) rfl (fun h => by cases h) (Nat.le_of_ble_eq_true rfl) ⟨rfl, rfl⟩ (Or.inl ⟨rfl, rfl⟩) rfl rfl (by decide) ok_PM_literal (cs_PM_literal l) rt_PM_literal (fun K hs => ?_)
  obtain ⟨rfl, hp, h3⟩ := h
  have hp : PI M := hp
  obtain ⟨g, hg4, eg⟩ := hp.2.1
  have no : ¬ LC M x0 x1 x2 x3 → K 44 [some (.ref 109), some (.int x0), some (.int x1), some (.int x2), some (.int x3)] [] (131, M, L, TT) := by
    intro h
    exact hs.go [44] 10 _ _ _ _ ⟨rfl, fun z => (by cases z), (if_neg h).symm⟩
  have no2 : ¬ LC M x0 x1 x2 x3 → K 64 [some (.ref 109), some (.int x0), some (.int x1), some (.int x2), some (.int x3)] [] (131, M, L, TT) := by
    intro h
    exact hs.go [64] 10 _ _ _ _ ⟨rfl, fun z => (by cases z), (if_neg h).symm⟩
  have yes : LC M x0 x1 x2 x3 → K 66 [some (.ref 109), some (.int x0), some (.int x1), some (.int x2), some (.int x3)] [] (131, M, L, TT) := by
    intro h
    have hg3 : g < 4 := by
      rcases Nat.lt_or_ge g 4 with z | z
      · exact z
      · exact absurd (by rw [eg, show g = 4 by omega]; rfl) h.1.1
    have ig : vp_in (56 + M 109 8) 60 := by
      rw [eg, show 56 + nI g = nI (56 + g) from nI_add 56 g]
      exact vp_in_nI (by omega) (by decide)
    refine hs.go [66] 60 _ _ _ _ ⟨rfl, ⟨rfl, ⟨rfl, rfl⟩, rfl, ig⟩, rfl, rfl, ?_⟩
    rintro _ _ ⟨rfl, rfl⟩
    exact ⟨rfl, _, rfl, rfl, rfl, ig, h3, rfl, rfl, rfl, rfl, fun z => (by cases z), (if_pos h).symm⟩
  have s46 : (¬ M 109 8 = 4 ∧ 0 ≤ x0 ∧ x0 < M 109 0 ∧ isT x1 ∧ (M 110 x0.toNatClampNeg = 2 → isT x2)) → K 46 [some (.ref 109), some (.int x0), some (.int x1), some (.int x2), some (.int x3)] [] (131, M, L, TT) := by
    intro hA
    exact hs.go [46, 64, 66] 40 _ _ _ _ ⟨rfl, fun h1 => yes ⟨hA, fun z => absurd z h1⟩, fun h1 => ⟨fun h2 => no2 (fun z => h2 (z.2 h1).1), fun h2 => ⟨fun h4 => yes ⟨hA, fun _ => ⟨h2, h4⟩⟩, fun h4 => no2 (fun z => h4 (z.2 h1).2)⟩⟩⟩
  refine hs.go [44, 46] 60 _ _ _ _ ⟨rfl, fun h1 => no (fun z => z.1.1 h1), fun h1 => ⟨fun h2 => no (fun z => Int32.not_lt.mpr z.1.2.1 h2), fun h2 => ⟨rfl, fun h4 => no (fun z => Int32.not_lt.mpr h4 z.1.2.2.1), fun h4 => ⟨⟨⟨rfl, rfl⟩, trivial⟩, rfl, rfl, ?_⟩⟩⟩⟩
  have h0 : 0 ≤ x0 := Int32.not_lt.mp h2
  have h4 : x0 < M 109 0 := Int32.not_le.mp h4
  have hx := hp.in14 h0 h4
  rintro _ _ ⟨rfl, rfl⟩
  by_cases h5 : isT x1
  · rw [show b2 (¬ isT x1) = 0 from b2_f (fun z => z h5)]
    refine ⟨fun z => absurd rfl z, fun _ => ⟨rfl, _, rfl, rfl, hx, fun h6 => s46 ⟨h1, h0, h4, h5, fun z => absurd z h6⟩, fun h6 => ⟨⟨⟨rfl, rfl⟩, trivial⟩, rfl, rfl, ?_⟩⟩⟩
    rintro _ _ ⟨rfl, rfl⟩
    by_cases h7 : isT x2
    · rw [show b2 (¬ isT x2) = 0 from b2_f (fun z => z h7)]
      exact ⟨fun _ => s46 ⟨h1, h0, h4, h5, fun _ => h7⟩, fun z => absurd rfl z⟩
    · rw [show b2 (¬ isT x2) = 1 from b2_t h7]
      exact ⟨fun z => absurd z (by decide), fun _ => no (fun z => h7 (z.1.2.2.2.2 h6))⟩
  · rw [show b2 (¬ isT x1) = 1 from b2_t h5]
    exact ⟨fun _ => no (fun z => h5 z.1.2.2.2.1), fun z => absurd z (by decide)⟩

theorem dn_PM_forget : y_PM_forget.cls ≠ "java/lang/invoke/MethodHandle" ∧ y_PM_forget.cls ≠ "java/lang/invoke/VarHandle" ∧ (parseMethodDescriptor y_PM_forget.desc).map (fun d => d.parameters.length) = some 1 := by decide +kernel
abbrev pr_PM_forget : List Value → Mm → Prop := preV 8 (fun k => a_I (fun x0 μ => FM μ ∧ (k = 109 ∧ PI μ.2.1)))
abbrev po_PM_forget : List Value → Mm → Option Value → Mm → Prop := qV (fun k => b_I (fun x0 μ r μ' => ((6 ≤ x0 ∧ x0 < 14 ∧ ¬ μ.2.1 116 x0.toNatClampNeg = 0) → r = some (.int 1) ∧ ∃ M', Sm (rkM (up2 μ.2.1 116 x0.toNatClampNeg 0) 14) M' ∧ μ' = DM (rkM (up2 μ.2.1 116 x0.toNatClampNeg 0) 14) M' μ.2.2.1) ∧ (¬ (6 ≤ x0 ∧ x0 < 14 ∧ ¬ μ.2.1 116 x0.toNatClampNeg = 0) → r = some (.int 0) ∧ μ' = μ)))
theorem ft_PM_forget : ∀ as μ, pr_PM_forget as μ → μ.1 + 0 ≤ 131 ∧ cz μ.1 + 0 ≤ cz 131 := hf_S (n := 131) (Nat.le_refl _) (fun as μ h => by
  obtain ⟨k, r, rfl, hk, h⟩ := preV_e h
  obtain ⟨x0, rfl, h⟩ := a_I_e h
  exact h.1.1)
def C_PM_forget : Cf := fun id => match id with
  | 0 => trF (1 + 1) pr_PM_rank po_PM_rank
  | 1 => trF (0 + 1) pr_PM_derive po_PM_derive
  | _ => fun _ _ _ => False
set_option maxRecDepth 100000 in
theorem cs_PM_forget (l : Launch) : ∀ x ∈ k_PM_forget, CS l R_PM b_PM_forget 2 (rmm 5 0 0) 131 131 C_PM_forget x := fc (CS.no rfl) (fc (CS.no rfl) (fc (CS.no rfl) (fc (CS.no rfl) (fc (CS.no rfl) (fc (CS.no rfl) (fc (CS.no rfl) (fc (CS.no rfl) (fc (CS.no rfl) (fc (CS.no rfl) (fc (CS.no rfl) (fc (CS.no rfl) (fc (CS.no rfl) (fc (CS.no rfl) (fc (CS.no rfl) (fc (CS.no rfl) (fc (CS.no rfl) (fc (CS.no rfl) (fc (CS.no rfl) (fc (CS.no rfl) (fc (CS.V c_PM_rank wk_PM_rank wl_PM_87 wm_PM_rank we_PM_rank rfl rfl wi_PM dn_PM_rank ⟨rfl, rfl⟩ ⟨by decide, by decide⟩ ft_PM_rank rfl (e_PM_forget_33).1) (fc (CS.no rfl) (fc (CS.no rfl) (fc (CS.V c_PM_derive wk_PM_derive wl_PM_147 wm_PM_derive we_PM_derive rfl rfl wi_PM dn_PM_derive ⟨rfl, rfl⟩ ⟨by decide, by decide⟩ ft_PM_derive rfl (e_PM_forget_38).1) (fc (CS.no rfl) (fc (CS.no rfl) (fun _ h => absurd h List.not_mem_nil))))))))))))))))))))))))))
set_option maxRecDepth 100000 in
set_option maxHeartbeats 4000000 in
theorem c_PM_forget : Cn y_PM_forget b_PM_forget 2 (some .boolean) (rmm 5 0 0) (1 + 1) 0 0 pr_PM_forget po_PM_forget := cv_I (ci := 8) (f := fun k => fun x0 μ => FM μ ∧ (k = 109 ∧ PI μ.2.1)) (g := fun k => fun x0 μ r μ' => ((6 ≤ x0 ∧ x0 < 14 ∧ ¬ μ.2.1 116 x0.toNatClampNeg = 0) → r = some (.int 1) ∧ ∃ M', Sm (rkM (up2 μ.2.1 116 x0.toNatClampNeg 0) 14) M' ∧ μ' = DM (rkM (up2 μ.2.1 116 x0.toNatClampNeg 0) 14) M' μ.2.2.1) ∧ (¬ (6 ≤ x0 ∧ x0 < 14 ∧ ¬ μ.2.1 116 x0.toNatClampNeg = 0) → r = some (.int 0) ∧ μ' = μ)) fun l k x0 μ hk h => by
  obtain ⟨hm, h⟩ := h
  obtain ⟨M, L, rfl⟩ := hm.e
  refine ky_met (own := R_PM) (ini := 0) (rb := 1) (nE := 131) (cd := k_PM_forget) (C := C_PM_forget) (by decide) rfl (fun h => by cases h) (Nat.le_of_ble_eq_true rfl) ⟨rfl, rfl⟩ (Or.inr (Or.inl ⟨rfl, rfl⟩)) rfl rfl (by decide) ok_PM_forget (cs_PM_forget l) rt_PM_forget (fun K hs => ?_)
  obtain ⟨rfl, hp⟩ := h
  have hp : PI M := hp
  have no : ¬ (6 ≤ x0 ∧ x0 < 14 ∧ ¬ M 116 x0.toNatClampNeg = 0) → K 21 [some (.ref 109), some (.int x0)] [] (131, M, L, TT) := by
    intro h
    exact hs.go [21] 10 _ _ _ _ ⟨rfl, fun _ => Or.inl rfl, fun z => absurd z h, fun _ => ⟨rfl, rfl⟩⟩
  refine hs.go [21] 60 _ _ _ _ ⟨fun h1 => no (fun z => Int32.not_lt.mpr z.1 h1), fun h1 => ⟨fun h2 => no (fun z => Int32.not_lt.mpr h2 z.2.1), fun h2 => ?_⟩⟩
  have h6 : 6 ≤ x0 := Int32.not_lt.mp h1
  have h14 : x0 < 14 := Int32.not_le.mp h2
  have hx : vp_in x0 14 := in_lt (Int32.le_trans (by decide) h6) h14
  have hp' : PI (up2 M 116 x0.toNatClampNeg 0) := hp.u0
  refine ⟨rfl, _, rfl, rfl, hx, fun h3 => ⟨rfl, _, rfl, rfl, hx, Or.inl rfl, ⟨rfl, ⟨rfl, rfl⟩, rfl, hp', Or.inl (Int32.le_refl _)⟩, rfl, rfl, ?_⟩, fun h3 => no (fun z => z.2.2 (show M 116 x0.toNatClampNeg = 0 from h3))⟩
  intro r μ' hq
  have g1 : r = some (Value.int (rkR (up2 M 116 x0.toNatClampNeg 0) 14).1) := hq.1
  have g2 : μ' = (131, rkM (up2 M 116 x0.toNatClampNeg 0) 14, L, TT) := hq.2
  rw [g1, g2]
  refine ⟨⟨rfl, ⟨rfl, rfl⟩, rfl, hp'.rk⟩, rfl, rfl, ?_⟩
  rintro _ _ ⟨rfl, M', hS, rfl⟩
  exact ⟨rfl, fun _ => Or.inr rfl, fun _ => ⟨rfl, M', hS, rfl⟩, fun z => absurd ⟨h6, h14, h3⟩ z⟩
