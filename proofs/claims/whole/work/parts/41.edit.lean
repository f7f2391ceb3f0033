abbrev EC (x0 x1 x2 x3 : Int32) : Prop := 0 ≤ x0 ∧ x0 ≤ 11 ∧ -1 ≤ x1 ∧ x1 ≤ 5 ∧ (0 ≤ x1 → isV x2 ∧ isV x3)
def edM (M : mM) (l : Nat) (x1 x2 x3 : Int32) : mM := up2 (up2 (up2 M 122 l x1) 123 l x2) 124 l x3
def edl (M : mM) : Nat → Nat → Int32 × mL → Int32 × mL
  | 0, _, s => s
  | n + 1, i, s => edl M n (i + 1) (if M 122 i < 0 then s else (s.1 + 1, up2 s.2 111 (M 122 i).toNatClampNeg (s.2 111 (M 122 i).toNatClampNeg ||| (1 <<< ((6 * M 123 i + M 124 i).toInt64 &&& 63)))))
def edF (M : mM) (L : mL) : Int32 × mL := edl M 12 0 (0, upr L 111 (stg (L 111) (fun _ => 0) 6))
def ED (M : mM) (L : mL) (x0 x1 x2 x3 : Int32) (r : Option Value) (μ' : Mm) : Prop := r = some (.int (edF (edM M x0.toNatClampNeg x1 x2 x3) L).1) ∧ ∃ M', Sm (edM M x0.toNatClampNeg x1 x2 x3) M' ∧ μ' = (131, upr (up2 (up2 M' 109 7 (dct (derL (edM M x0.toNatClampNeg x1 x2 x3) (edF (edM M x0.toNatClampNeg x1 x2 x3) L).2) 14 0 0)) 109 19 0) 125 (stc (M' 125) (fun _ => -1) 6), derL (edM M x0.toNatClampNeg x1 x2 x3) (edF (edM M x0.toNatClampNeg x1 x2 x3) L).2, TT)
theorem m1_of {x : Int32} (h1 : -1 ≤ x) (h2 : x ≤ 5) : x = -1 ∨ vp_in x 6 := by
  have e1 := Int32.le_iff_toInt_le.mp h1
  have e2 := Int32.le_iff_toInt_le.mp h2
  have f0 : (-1 : Int32).toInt = -1 := rfl
  have f1 : (5 : Int32).toInt = 5 := rfl
  by_cases h : x.toInt = -1
  · exact Or.inl (Int32.toInt_inj.mp (h.trans f0.symm))
  · right
    rw [vp_in_iff]
    omega
theorem PI.ed {M : mM} {l : Nat} {x1 x2 x3 : Int32} (h : PI M) (h1 : -1 ≤ x1) (h2 : x1 ≤ 5) (h3 : 0 ≤ x1 → isV x2 ∧ isV x3) : PI (edM M l x1 x2 x3) := by
  obtain ⟨p1, p2, p3, p4, p5, p6, p7, p8⟩ := h
  refine ⟨p1, p2, p3, p4, p5, p6, p7, fun i hi => ?_⟩
  have e2 : edM M l x1 x2 x3 122 i = up2 M 122 l x1 122 i := rfl
  have e3 : edM M l x1 x2 x3 123 i = up2 (up2 M 122 l x1) 123 l x2 123 i := rfl
  have e4 : edM M l x1 x2 x3 124 i = up2 (up2 (up2 M 122 l x1) 123 l x2) 124 l x3 124 i := rfl
  rw [e2, e3, e4]
  by_cases e : i = l
  · subst e
    rw [up2_s, up2_s, up2_s]
    rcases m1_of h1 h2 with z | z
    · exact Or.inl z
    · have h0 : 0 ≤ x1 := (out_6 z).1
      exact Or.inr ⟨z, in_6 (h3 h0).1.1 (h3 h0).1.2, in_6 (h3 h0).2.1 (h3 h0).2.2⟩
  · rw [up2_j e, up2_j e, up2_j e]
    exact p8 i hi

theorem dn_PM_edit : y_PM_edit.cls ≠ "java/lang/invoke/MethodHandle" ∧ y_PM_edit.cls ≠ "java/lang/invoke/VarHandle" ∧ (parseMethodDescriptor y_PM_edit.desc).map (fun d => d.parameters.length) = some 4 := by decide +kernel
abbrev pr_PM_edit : List Value → Mm → Prop := preV 8 (fun k => a_IIII (fun x0 x1 x2 x3 μ => FM μ ∧ (k = 109 ∧ PI μ.2.1)))
abbrev po_PM_edit : List Value → Mm → Option Value → Mm → Prop := qV (fun k => b_IIII (fun x0 x1 x2 x3 μ r μ' => (EC x0 x1 x2 x3 → ED μ.2.1 μ.2.2.1 x0 x1 x2 x3 r μ') ∧ (¬ EC x0 x1 x2 x3 → r = some (.int (-1)) ∧ μ' = μ)))
theorem ft_PM_edit : ∀ as μ, pr_PM_edit as μ → μ.1 + 0 ≤ 131 ∧ cz μ.1 + 0 ≤ cz 131 := hf_S (n := 131) (Nat.le_refl _) (fun as μ h => by
  obtain ⟨k, r, rfl, hk, h⟩ := preV_e h
  obtain ⟨x0, x1, x2, x3, rfl, h⟩ := a_IIII_e h
  exact h.1.1)
def C_PM_edit : Cf := fun id => match id with
  | 0 => trF 1 pr_PM_noValue po_PM_noValue
  | 1 => trF 2 pr_PM_bit po_PM_bit
  | 2 => trF (0 + 1) pr_PM_derive po_PM_derive
  | _ => fun _ _ _ => False
set_option maxRecDepth 100000 in
theorem cs_PM_edit (l : Launch) : ∀ x ∈ k_PM_edit, CS l R_PM b_PM_edit 7 (rmm 5 0 0) 131 131 C_PM_edit x := fc (CS.no rfl) (fc (CS.no rfl) (fc (CS.no rfl) (fc (CS.no rfl) (fc (CS.no rfl) (fc (CS.no rfl) (fc (CS.no rfl) (fc (CS.no rfl) (fc (CS.no rfl) (fc (CS.no rfl) (fc (CS.no rfl) (fc (CS.no rfl) (fc (CS.no rfl) (fc (CS.no rfl) (fc (CS.S c_PM_noValue wk_PM_noValue wl_PM_141 wt_PM_noValue wi_PM dn_PM_noValue ⟨rfl, rfl⟩ ⟨by decide, by decide⟩ ft_PM_noValue rfl (e_PM_edit_25).1) (fc (CS.no rfl) (fc (CS.no rfl) (fc (CS.S c_PM_noValue wk_PM_noValue wl_PM_141 wt_PM_noValue wi_PM dn_PM_noValue ⟨rfl, rfl⟩ ⟨by decide, by decide⟩ ft_PM_noValue rfl (e_PM_edit_33).1) (fc (CS.no rfl) (fc (CS.no rfl) (fc (CS.no rfl) (fc (CS.no rfl) (fc (CS.no rfl) (fc (CS.no rfl) (fc (CS.no rfl) (fc (CS.no rfl) (fc (CS.no rfl) (fc (CS.no rfl) (fc (CS.no rfl) (fc (CS.no rfl) (fc (CS.no rfl) (fc (CS.no rfl) (fc (CS.no rfl) (fc (CS.no rfl) (fc (CS.no rfl) (fc (CS.no rfl) (fc (CS.no rfl) (fc (CS.no rfl) (fc (CS.no rfl) (fc (CS.no rfl) (fc (CS.no rfl) (fc (CS.no rfl) (fc (CS.no rfl) (fc (CS.no rfl) (fc (CS.no rfl) (fc (CS.no rfl) (fc (CS.no rfl) (fc (CS.no rfl) (fc (CS.no rfl) (fc (CS.no rfl) (fc (CS.no rfl) (fc (CS.no rfl) (fc (CS.no rfl) (fc (CS.no rfl) (fc (CS.no rfl) (fc (CS.no rfl) (fc (CS.no rfl) (fc (CS.no rfl) (fc (CS.no rfl) (fc (CS.no rfl) (fc (CS.no rfl) (fc (CS.no rfl) (fc (CS.no rfl) (fc (CS.no rfl) (fc (CS.no rfl) (fc (CS.no rfl) (fc (CS.no rfl) (fc (CS.no rfl) (fc (CS.no rfl) (fc (CS.no rfl) (fc (CS.no rfl) (fc (CS.no rfl) (fc (CS.no rfl) (fc (CS.no rfl) (fc (CS.no rfl) (fc (CS.no rfl) (fc (CS.no rfl) (fc (CS.S c_PM_bit wk_PM_bit wl_PM_105 wt_PM_bit wi_PM dn_PM_bit ⟨rfl, rfl⟩ ⟨by decide, by decide⟩ ft_PM_bit rfl (e_PM_edit_138).1) (fc (CS.no rfl) (fc (CS.no rfl) (fc (CS.no rfl) (fc (CS.no rfl) (fc (CS.no rfl) (fc (CS.no rfl) (fc (CS.no rfl) (fc (CS.V c_PM_derive wk_PM_derive wl_PM_147 wm_PM_derive we_PM_derive rfl rfl wi_PM dn_PM_derive ⟨rfl, rfl⟩ ⟨by decide, by decide⟩ ft_PM_derive rfl (e_PM_edit_154).1) (fc (CS.no rfl) (fc (CS.no rfl) (fc (CS.no rfl) (fc (CS.no rfl) (fc (CS.no rfl) (fc (CS.no rfl) (fc (CS.no rfl) (fc (CS.no rfl) (fc (CS.no rfl) (fc (CS.no rfl) (fc (CS.no rfl) (fc (CS.no rfl) (fc (CS.no rfl) (fc (CS.no rfl) (fc (CS.no rfl) (fc (CS.no rfl) (fc (CS.no rfl) (fun _ h => absurd h List.not_mem_nil)))))))))))))))))))))))))))))))))))))))))))))))))))))))))))))))))))))))))))))))))))))))))))))))))))))))
set_option maxRecDepth 100000 in
set_option maxHeartbeats 4000000 in
theorem c_PM_edit : Cn y_PM_edit b_PM_edit 7 (some .int) (rmm 5 0 0) (4 + 1) 0 0 pr_PM_edit po_PM_edit := cv_IIII (ci := 8) (f := fun k => fun x0 x1 x2 x3 μ => FM μ ∧ (k = 109 ∧ PI μ.2.1)) (g := fun k => fun x0 x1 x2 x3 μ r μ' => (EC x0 x1 x2 x3 → ED μ.2.1 μ.2.2.1 x0 x1 x2 x3 r μ') ∧ (¬ EC x0 x1 x2 x3 → r = some (.int (-1)) ∧ μ' = μ)) fun l k x0 x1 x2 x3 μ hk h => by
  obtain ⟨hm, h⟩ := h
  obtain ⟨M, L, rfl⟩ := hm.e
  refine ky_met (own := R_PM) (ini := 0) (rb := 0) (nE := 131) (cd := k_PM_edit) (C := C_PM_edit) (by decide) rfl (fun h => by cases h) (Nat.le_of_ble_eq_true rfl) ⟨rfl, rfl⟩ (Or.inl ⟨rfl, rfl⟩) rfl rfl (by decide) ok_PM_edit (cs_PM_edit l) rt_PM_edit (fun K hs => ?_)
  obtain ⟨rfl, hp⟩ := h
  have hp : PI M := hp
  have no : ¬ EC x0 x1 x2 x3 → K 39 [some (.ref 109), some (.int x0), some (.int x1), some (.int x2), some (.int x3), none, none] [] (131, M, L, TT) := by
    intro h
    exact hs.go [39] 10 _ _ _ _ ⟨rfl, fun z => (by cases z), fun z => absurd z h, fun _ => ⟨rfl, rfl⟩⟩
  have yes : EC x0 x1 x2 x3 → K 41 [some (.ref 109), some (.int x0), some (.int x1), some (.int x2), some (.int x3), none, none] [] (131, M, L, TT) := by
    intro hE
    have hx : vp_in x0 12 := by
      rw [vp_in_iff]
      have e1 := Int32.le_iff_toInt_le.mp hE.1
      have e2 := Int32.le_iff_toInt_le.mp hE.2.1
      have f0 : (0 : Int32).toInt = 0 := rfl
      have f1 : (11 : Int32).toInt = 11 := rfl
      omega
    have hN : PI (edM M x0.toNatClampNeg x1 x2 x3) := hp.ed hE.2.2.1 hE.2.2.2.1 hE.2.2.2.2
    generalize hNe : edM M x0.toNatClampNeg x1 x2 x3 = N at hN
    have last : ∀ (M' : mM), Sm N M' → ∀ (n c : Nat), c + n = 6 → K 165 [some (.ref 109), some (.int x0), some (.int x1), some (.int x2), some (.int x3), some (.int (edF N L).1), some (.int (nI c))] [] (131, upr (up2 (up2 M' 109 7 (dct (derL N (edF N L).2) 14 0 0)) 109 19 0) 125 (stc (M' 125) (fun _ => -1) c), derL N (edF N L).2, TT) := by
      intro M' hS n
      induction n with
      | zero =>
        intro c hc
        have hc : c = 6 := by omega
        subst hc
        refine hs.go [165] 40 _ _ _ _ ⟨fun _ => ⟨rfl, fun z => (by cases z), fun _ => ?_, fun z => absurd hE z⟩, fun z => absurd (Int32.le_refl _) z⟩
        show ED M L x0 x1 x2 x3 _ _
        unfold ED
        rw [hNe]
        exact ⟨rfl, M', hS, rfl⟩
      | succ n ih =>
        intro c hc
        have ic : vp_in (nI c) 6 := vp_in_nI (by omega) (by decide)
        have ec : (nI c).toNatClampNeg = c := nI_clamp (n := c) (by omega)
        have h9 := ih (c + 1) (by omega)
        rw [nI_succ, stc_s] at h9
        refine hs.go [165] 40 _ _ _ _ ⟨fun z => absurd z (nI_ge (a := c) (b := 6) (by omega) (by decide)), fun _ => ⟨rfl, _, rfl, rfl, ic, ?_⟩⟩
        show K 165 _ _ (131, up2 (upr (up2 (up2 M' 109 7 (dct (derL N (edF N L).2) 14 0 0)) 109 19 0) 125 (stc (M' 125) (fun _ => -1) c)) 125 (nI c).toNatClampNeg (-1), derL N (edF N L).2, TT)
        rw [ec]
        exact h9
    have mid : ∀ (n i : Nat), i + n = 12 → ∀ s : Int32 × mL, edl N n i s = edF N L → K 93 [some (.ref 109), some (.int x0), some (.int x1), some (.int x2), some (.int x3), some (.int s.1), some (.int (nI i))] [] (131, N, s.2, TT) := by
      intro n
      induction n with
      | zero =>
        intro i hi s he
        have hi : i = 12 := by omega
        subst hi
        have he : s = edF N L := he
        subst he
        refine hs.go [93, 165] 60 _ _ _ _ ⟨fun _ => ⟨⟨rfl, ⟨rfl, rfl⟩, rfl, hN⟩, rfl, rfl, ?_⟩, fun z => absurd (Int32.le_refl _) z⟩
        rintro _ _ ⟨rfl, M', hS, rfl⟩
        have h9 := last M' hS 6 0 rfl
        rw [stc_0] at h9
        have e : upr (up2 (up2 M' 109 7 (dct (derL N (edF N L).2) 14 0 0)) 109 19 0) 125 (M' 125) = up2 (up2 M' 109 7 (dct (derL N (edF N L).2) 14 0 0)) 109 19 0 := by
          have : M' 125 = up2 (up2 M' 109 7 (dct (derL N (edF N L).2) 14 0 0)) 109 19 0 125 := by
            rw [up2_k (by decide), up2_k (by decide)]
          rw [this, upr_id]
        rw [e] at h9
        exact ⟨rfl, h9⟩
      | succ n ih =>
        intro i hi s he
        have ii : vp_in (nI i) 12 := vp_in_nI (by omega) (by decide)
        have ei : (nI i).toNatClampNeg = i := nI_clamp (n := i) (by omega)
        refine hs.go [93] 60 _ _ _ _ ⟨fun z => absurd z (nI_ge (a := i) (b := 12) (by omega) (by decide)), fun _ => ⟨rfl, _, rfl, rfl, ii, ?_⟩⟩
        show (N 122 (nI i).toNatClampNeg < 0 → _) ∧ (¬ N 122 (nI i).toNatClampNeg < 0 → _)
        rw [ei]
        refine ⟨fun h1 => ?_, fun h1 => ?_⟩
        · have h9 := ih (i + 1) (by omega) s (by rw [← he]; show _ = edl N n (i + 1) (if N 122 i < 0 then s else _); rw [if_pos h1])
          rw [nI_succ] at h9
          exact h9
        · have io : vp_in (N 122 i) 14 := by
            rcases hN.2.2.2.2.2.2.2 i (by omega) with z | z
            · rw [z] at h1; exact absurd (by decide) h1
            · have := cl_lt z.1
              obtain ⟨t, ht, e⟩ := vp_in_of z.1 (by decide)
              rw [e]
              exact vp_in_nI (by omega) (by decide)
          have io' : vp_in (N 122 (nI i).toNatClampNeg) 14 := by rw [ei]; exact io
          refine ⟨rfl, _, rfl, rfl, _, rfl, rfl, ii, rfl, io', rfl, _, rfl, rfl, ii, rfl, _, rfl, rfl, ii, ⟨⟨rfl, rfl⟩, trivial⟩, rfl, rfl, ?_⟩
          intro r μ' hq
          have g1 : r = some (Value.int (6 * N 123 (nI i).toNatClampNeg + N 124 (nI i).toNatClampNeg)) := hq.1
          have g2 : μ' = (131, N, s.2, TT) := hq.2
          rw [ei] at g1
          rw [g1, g2]
          refine ⟨rfl, io', ?_⟩
          have h9 := ih (i + 1) (by omega) (s.1 + 1, up2 s.2 111 (N 122 i).toNatClampNeg (s.2 111 (N 122 i).toNatClampNeg ||| (1 <<< ((6 * N 123 i + N 124 i).toInt64 &&& 63)))) (by rw [← he]; show _ = edl N n (i + 1) (if N 122 i < 0 then s else _); rw [if_neg h1])
          rw [nI_succ] at h9
          show K 93 _ _ (131, N, up2 s.2 111 (N 122 (nI i).toNatClampNeg).toNatClampNeg (s.2 111 (N 122 (nI i).toNatClampNeg).toNatClampNeg ||| (1 <<< ((6 * N 123 i + N 124 i).toInt64 &&& 63))), TT)
          rw [ei]
          exact h9
    have first : ∀ (n c : Nat), c + n = 6 → K 69 [some (.ref 109), some (.int x0), some (.int x1), some (.int x2), some (.int x3), some (.int 0), some (.int (nI c))] [] (131, N, upr L 111 (stg (L 111) (fun _ => 0) c), TT) := by
      intro n
      induction n with
      | zero =>
        intro c hc
        have hc : c = 6 := by omega
        subst hc
        exact hs.go [69, 93] 40 _ _ _ _ ⟨fun _ => mid 12 0 rfl (0, _) rfl, fun z => absurd (Int32.le_refl _) z⟩
      | succ n ih =>
        intro c hc
        have ic : vp_in (nI c) 14 := vp_in_nI (by omega) (by decide)
        have ec : (nI c).toNatClampNeg = c := nI_clamp (n := c) (by omega)
        have h9 := ih (c + 1) (by omega)
        rw [nI_succ, stg_s] at h9
        refine hs.go [69, 93] 40 _ _ _ _ ⟨fun z => absurd z (nI_ge (a := c) (b := 6) (by omega) (by decide)), fun _ => ⟨rfl, _, rfl, rfl, ic, ?_⟩⟩
        show K 69 _ _ (131, N, up2 (upr L 111 (stg (L 111) (fun _ => 0) c)) 111 (nI c).toNatClampNeg 0, TT)
        rw [ec]
        exact h9
    have h0 := first 6 0 rfl
    rw [stg_0, uprL_id] at h0
    refine hs.go [41, 69] 40 _ _ _ _ ⟨rfl, _, rfl, rfl, hx, rfl, _, rfl, rfl, hx, rfl, _, rfl, rfl, hx, ?_⟩
    show K 69 _ _ (131, edM M x0.toNatClampNeg x1 x2 x3, L, TT)
    rw [hNe]
    exact h0
  refine hs.go [39, 41] 60 _ _ _ _ ⟨fun h1 => no (fun z => Int32.not_lt.mpr z.1 h1), fun h1 => ⟨fun h2 => no (fun z => Int32.not_lt.mpr z.2.1 h2), fun h2 => ⟨fun h3 => no (fun z => Int32.not_lt.mpr z.2.2.1 h3), fun h3 => ⟨fun h4 => no (fun z => Int32.not_lt.mpr z.2.2.2.1 h4), fun h4 => ?_⟩⟩⟩⟩
  have q1 : 0 ≤ x0 := Int32.not_lt.mp h1
  have q2 : x0 ≤ 11 := Int32.not_lt.mp h2
  have q3 : -1 ≤ x1 := Int32.not_lt.mp h3
  have q4 : x1 ≤ 5 := Int32.not_lt.mp h4
  refine ⟨fun h5 => yes ⟨q1, q2, q3, q4, fun z => absurd h5 (Int32.not_lt.mpr z)⟩, fun h5 => ⟨⟨⟨rfl, rfl⟩, trivial⟩, rfl, rfl, ?_⟩⟩
  rintro _ _ ⟨rfl, rfl⟩
  by_cases h6 : isV x2
  · rw [show b2 (¬ isV x2) = 0 from b2_f (fun z => z h6)]
    refine ⟨fun z => absurd rfl z, fun _ => ⟨⟨⟨rfl, rfl⟩, trivial⟩, rfl, rfl, ?_⟩⟩
    rintro _ _ ⟨rfl, rfl⟩
    by_cases h7 : isV x3
    · rw [show b2 (¬ isV x3) = 0 from b2_f (fun z => z h7)]
      exact ⟨fun _ => yes ⟨q1, q2, q3, q4, fun _ => ⟨h6, h7⟩⟩, fun z => absurd rfl z⟩
    · rw [show b2 (¬ isV x3) = 1 from b2_t h7]
      exact ⟨fun z => absurd z (by decide), fun _ => no (fun z => h7 (z.2.2.2.2 (Int32.not_lt.mp h5)).2)⟩
  · rw [show b2 (¬ isV x2) = 1 from b2_t h6]
    exact ⟨fun _ => no (fun z => h6 (z.2.2.2.2 (Int32.not_lt.mp h5)).1), fun z => absurd z (by decide)⟩
