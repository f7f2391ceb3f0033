def nxF (M : mM) (L : mL) (i d c : Nat) : Option Nat := fnd M (L 112 (M 118 i).toNatClampNeg) (rsv M d 4) i (36 - c) c
def NX (M : mM) (L : mL) (i d c : Nat) (r : Option Value) (μ' : Mm) : Prop :=
  (¬ M 121 i = 0 → (0 < c → r = some (.int (nI d - 1)) ∧ μ' = (131, up2 (upr M 128 (rsv M d 4)) 130 d 36, L, TT)) ∧ (c = 0 → r = some (.int (nI d + 1)) ∧ μ' = (131, dpr (up2 (upr M 128 (rsv M d 4)) 130 d 36) d, L, TT))) ∧
  (M 121 i = 0 → (∀ c', nxF M L i d c = some c' → r = some (.int (nI d + 1)) ∧ μ' = (131, dpr (up2 (upr M 128 (agv M (rsv M d 4) i (nI c'))) 130 d (nI (c' + 1))) d, L, TT)) ∧ (nxF M L i d c = none → r = some (.int (nI d - 1)) ∧ ∃ w, (∀ j, 4 ≤ j → w j = M 128 j) ∧ μ' = (131, upr M 128 w, L, TT)))
theorem fvl_hi {v : Nat → Int32} {t x : Int32} {j : Nat} (h : tmok t) (hj : 4 ≤ j) : fvl' v t x j = v j := by
  unfold fvl'
  by_cases h1 : 10 ≤ t
  · rw [if_pos h1]
    have := cl_lt (tm4 h h1)
    exact pk_un (by omega)
  · rw [if_neg h1]
theorem agv_hi {M : mM} {v : Nat → Int32} {i : Nat} {x : Int32} {j : Nat} (h : rok M i) (hj : 4 ≤ j) : agv M v i x j = v j := by
  obtain ⟨-, r2, r3, -⟩ := h
  unfold agv
  by_cases h1 : una M i
  · rw [if_pos h1, fvl_hi r2 hj]
  · rw [if_neg h1]
    have r3 := r3.resolve_left h1
    split
    · rw [fvl_hi r3 hj, fvl_hi r2 hj]
    · rw [fvl_hi r2 hj]
theorem rsv_w {M : mM} {w : Nat → Int32} {d : Nat} (h : ∀ j, 4 ≤ j → w j = M 128 j) : rsv (upr M 128 w) d 4 = rsv M d 4 := by
  funext t
  unfold rsv
  by_cases ht : t < 4
  · rw [if_pos ht, if_pos ht]
    rfl
  · rw [if_neg ht, if_neg ht]
    show w t = _
    exact h t (by omega)

theorem dn_PM_next : y_PM_next.cls ≠ "java/lang/invoke/MethodHandle" ∧ y_PM_next.cls ≠ "java/lang/invoke/VarHandle" ∧ (parseMethodDescriptor y_PM_next.desc).map (fun d => d.parameters.length) = some 2 := by decide +kernel
abbrev pr_PM_next : List Value → Mm → Prop := preV 8 (fun k => a_II (fun x0 x1 μ => FM μ ∧ (k = 109 ∧ ∃ i d c, i < 60 ∧ d < 4 ∧ 1 ≤ d ∧ c ≤ 36 ∧ x0 = nI i ∧ x1 = nI d ∧ μ.2.1 130 d = nI c ∧ rok μ.2.1 i)))
abbrev po_PM_next : List Value → Mm → Option Value → Mm → Prop := qV (fun k => b_II (fun x0 x1 μ r μ' => ∀ i d c, i < 60 → d < 4 → c ≤ 36 → x0 = nI i → x1 = nI d → μ.2.1 130 d = nI c → NX μ.2.1 μ.2.2.1 i d c r μ'))
theorem ft_PM_next : ∀ as μ, pr_PM_next as μ → μ.1 + 0 ≤ 131 ∧ cz μ.1 + 0 ≤ cz 131 := hf_S (n := 131) (Nat.le_refl _) (fun as μ h => by
  obtain ⟨k, r, rfl, hk, h⟩ := preV_e h
  obtain ⟨x0, x1, rfl, h⟩ := a_II_e h
  exact h.1.1)
def C_PM_next : Cf := fun id => match id with
  | 0 => trF (1 + 1) pr_PM_restore po_PM_restore
  | 1 => trF (1 + 1) pr_PM_deeper po_PM_deeper
  | 2 => trF (2 + 1) pr_PM_agrees po_PM_agrees
  | _ => fun _ _ _ => False
set_option maxRecDepth 100000 in
theorem cs_PM_next (l : Launch) : ∀ x ∈ k_PM_next, CS l R_PM b_PM_next 5 (rmm 2 0 0) 131 131 C_PM_next x := fc (CS.no rfl) (fc (CS.no rfl) (fc (CS.V c_PM_restore wk_PM_restore wl_PM_125 wm_PM_restore we_PM_restore rfl rfl wi_PM dn_PM_restore ⟨rfl, rfl⟩ ⟨by decide, by decide⟩ ft_PM_restore rfl (e_PM_next_2).1) (fc (CS.no rfl) (fc (CS.no rfl) (fc (CS.no rfl) (fc (CS.no rfl) (fc (CS.no rfl) (fc (CS.no rfl) (fc (CS.no rfl) (fc (CS.no rfl) (fc (CS.no rfl) (fc (CS.no rfl) (fc (CS.no rfl) (fc (CS.no rfl) (fc (CS.no rfl) (fc (CS.no rfl) (fc (CS.no rfl) (fc (CS.no rfl) (fc (CS.no rfl) (fc (CS.no rfl) (fc (CS.no rfl) (fc (CS.no rfl) (fc (CS.no rfl) (fc (CS.no rfl) (fc (CS.no rfl) (fc (CS.V c_PM_deeper wk_PM_deeper wl_PM_128 wm_PM_deeper we_PM_deeper rfl rfl wi_PM dn_PM_deeper ⟨rfl, rfl⟩ ⟨by decide, by decide⟩ ft_PM_deeper rfl (e_PM_next_39).1) (fc (CS.no rfl) (fc (CS.no rfl) (fc (CS.no rfl) (fc (CS.no rfl) (fc (CS.no rfl) (fc (CS.no rfl) (fc (CS.no rfl) (fc (CS.no rfl) (fc (CS.V c_PM_restore wk_PM_restore wl_PM_125 wm_PM_restore we_PM_restore rfl rfl wi_PM dn_PM_restore ⟨rfl, rfl⟩ ⟨by decide, by decide⟩ ft_PM_restore rfl (e_PM_next_55).1) (fc (CS.no rfl) (fc (CS.no rfl) (fc (CS.no rfl) (fc (CS.no rfl) (fc (CS.no rfl) (fc (CS.no rfl) (fc (CS.no rfl) (fc (CS.no rfl) (fc (CS.no rfl) (fc (CS.no rfl) (fc (CS.no rfl) (fc (CS.no rfl) (fc (CS.no rfl) (fc (CS.no rfl) (fc (CS.no rfl) (fc (CS.no rfl) (fc (CS.no rfl) (fc (CS.V c_PM_agrees wk_PM_agrees wl_PM_131 wm_PM_agrees we_PM_agrees rfl rfl wi_PM dn_PM_agrees ⟨rfl, rfl⟩ ⟨by decide, by decide⟩ ft_PM_agrees rfl (e_PM_next_83).1) (fc (CS.no rfl) (fc (CS.no rfl) (fc (CS.no rfl) (fc (CS.no rfl) (fc (CS.no rfl) (fc (CS.no rfl) (fc (CS.no rfl) (fc (CS.no rfl) (fc (CS.no rfl) (fc (CS.no rfl) (fc (CS.V c_PM_deeper wk_PM_deeper wl_PM_128 wm_PM_deeper we_PM_deeper rfl rfl wi_PM dn_PM_deeper ⟨rfl, rfl⟩ ⟨by decide, by decide⟩ ft_PM_deeper rfl (e_PM_next_101).1) (fc (CS.no rfl) (fc (CS.no rfl) (fc (CS.no rfl) (fc (CS.no rfl) (fc (CS.no rfl) (fc (CS.no rfl) (fc (CS.no rfl) (fun _ h => absurd h List.not_mem_nil))))))))))))))))))))))))))))))))))))))))))))))))))))))))))))))))))))))))
set_option maxRecDepth 100000 in
set_option maxHeartbeats 4000000 in
theorem c_PM_next : Cn y_PM_next b_PM_next 5 (some .int) (rmm 2 0 0) (2 + 1) 0 0 pr_PM_next po_PM_next := cv_II (ci := 8) (f := fun k => fun x0 x1 μ => FM μ ∧ (k = 109 ∧ ∃ i d c, i < 60 ∧ d < 4 ∧ 1 ≤ d ∧ c ≤ 36 ∧ x0 = nI i ∧ x1 = nI d ∧ μ.2.1 130 d = nI c ∧ rok μ.2.1 i)) (g := fun k => fun x0 x1 μ r μ' => ∀ i d c, i < 60 → d < 4 → c ≤ 36 → x0 = nI i → x1 = nI d → μ.2.1 130 d = nI c → NX μ.2.1 μ.2.2.1 i d c r μ') fun l k x0 x1 μ hk h => by
  obtain ⟨hm, h⟩ := h
  obtain ⟨M, L, rfl⟩ := hm.e
  refine ky_met (own := R_PM) (ini := 0) (rb := 0) (nE := 131) (cd := k_PM_next) (C := C_PM_next) (by decide) rfl (fun h => by cases h) (Nat.le_of_ble_eq_true rfl) ⟨rfl, rfl⟩ (Or.inl ⟨rfl, rfl⟩) rfl rfl (by decide) ok_PM_next (cs_PM_next l) rt_PM_next (fun K hs => ?_)
  obtain ⟨rfl, i, d, c, hi, hd, hd1, hc, rfl, rfl, hcd, hr⟩ := h
  have hcd : M 130 d = nI c := hcd
  have hr : rok M i := hr
  obtain ⟨r1, r2, r3, r4⟩ := id hr
  have post : ∀ (r : Option Value) (μ' : Mm), NX M L i d c r μ' → ∀ i' d' c', i' < 60 → d' < 4 → c' ≤ 36 → nI i = nI i' → nI d = nI d' → M 130 d' = nI c' → NX M L i' d' c' r μ' := by
    intro r μ' h i' d' c' h1 h2 h3 h4 h5 h6
    have e1 : i = i' := (nI_eq (by omega) (by omega)).mp h4
    have e2 : d = d' := (nI_eq (by omega) (by omega)).mp h5
    subst e1; subst e2
    rw [hcd] at h6
    have e3 : c = c' := (nI_eq (by omega) (by omega)).mp h6
    subst e3
    exact h
  have ei : (nI i).toNatClampNeg = i := nI_clamp (n := i) (by omega)
  have ed : (nI d).toNatClampNeg = d := nI_clamp (n := d) (by omega)
  have ii : vp_in (nI i) 60 := vp_in_nI hi (by decide)
  have id4 : vp_in (nI d) 4 := vp_in_nI hd (by decide)
  have i118 : vp_in (M 118 (nI i).toNatClampNeg) 14 := by rw [ei]; exact r1
  have hv4 : ∀ j, 4 ≤ j → rsv M d 4 j = M 128 j := by
    intro j hj
    unfold rsv
    exact if_neg (by omega)
  have loop : ∀ (n e : Nat), e + n = 36 → M 121 i = 0 → fnd M (L 112 (M 118 i).toNatClampNeg) (rsv M d 4) i n e = nxF M L i d c → ∀ w, (∀ j, 4 ≤ j → w j = M 128 j) → ∀ l3 : Int32, K 46 [some (.ref 109), some (.int (nI i)), some (.int (nI d)), some (.int l3), some (.int (nI e))] [] (131, upr M 128 w, L, TT) := by
    intro n
    induction n with
    | zero =>
      intro e he hn hf w hw l3
      have he : e = 36 := by omega
      subst he
      refine hs.go [46] 40 _ _ _ _ ⟨fun _ => ⟨rfl, fun z => (by cases z), post _ _ ⟨fun z => absurd hn z, fun _ => ⟨fun c' hc' => ?_, fun _ => ⟨rfl, w, hw, rfl⟩⟩⟩⟩, fun z => absurd (Int32.le_refl _) z⟩
      rw [← hf] at hc'
      exact absurd hc' (by simp [fnd])
    | succ n ih =>
      intro e he hn hf w hw l3
      have ee : (nI e).toNatClampNeg = e := nI_clamp (n := e) (by omega)
      have s105 : ∀ w, (∀ j, 4 ≤ j → w j = M 128 j) → ¬ (sb (L 112 (M 118 i).toNatClampNeg) (nI e) = 1 ∧ agk M (rsv M d 4) i (nI e)) → K 105 [some (.ref 109), some (.int (nI i)), some (.int (nI d)), some (.int l3), some (.int (nI e))] [] (131, upr M 128 w, L, TT) := by
        intro w hw hno
        have h9 := ih (e + 1) (by omega) hn (by rw [← hf]; exact (if_neg hno).symm) w hw l3
        rw [nI_succ] at h9
        exact hs.go [105, 46] 10 _ _ _ _ h9
      refine hs.go [46, 105] 60 _ _ _ _ ⟨fun z => absurd z (nI_ge (a := e) (b := 36) (by omega) (by decide)), fun _ => ⟨⟨rfl, ⟨rfl, rfl⟩, rfl, id4⟩, rfl, rfl, ?_⟩⟩
      intro r μ' hq
      have g2 : μ' = (131, upr (upr M 128 w) 128 (rsv (upr M 128 w) (nI d).toNatClampNeg 4), L, TT) := hq.2
      rw [ed, rsv_w hw, upr_upr] at g2
      rw [hq.1, g2]
      refine ⟨rfl, _, rfl, rfl, _, rfl, rfl, ii, rfl, i118, fun h1 => s105 _ hv4 ?_, fun h1 => ⟨⟨rfl, ⟨rfl, rfl⟩, rfl, ii, ?_⟩, rfl, rfl, ?_⟩⟩
      · have h1 : ¬ lg_cmp (sb (L 112 (M 118 (nI i).toNatClampNeg).toNatClampNeg) (nI e)) 1 = 0 := h1
        rw [cmpE, ei] at h1
        exact fun z => h1 z.1
      · show rok M (nI i).toNatClampNeg
        rw [ei]; exact hr
      · have h1 : lg_cmp (sb (L 112 (M 118 (nI i).toNatClampNeg).toNatClampNeg) (nI e)) 1 = 0 := h1
        rw [cmpE, ei] at h1
        intro r μ' hq
        have g1 : r = some (Value.int (b2 (agk M (rsv M d 4) (nI i).toNatClampNeg (nI e)))) := hq.1
        have g2 : μ' = (131, upr (upr M 128 (rsv M d 4)) 128 (agv M (rsv M d 4) (nI i).toNatClampNeg (nI e)), L, TT) := hq.2
        rw [ei] at g1
        rw [ei, upr_upr] at g2
        rw [g1, g2]
        have hw' : ∀ j, 4 ≤ j → agv M (rsv M d 4) i (nI e) j = M 128 j := fun j hj => (agv_hi hr hj).trans (hv4 j hj)
        by_cases h2 : agk M (rsv M d 4) i (nI e)
        · rw [b2_t h2]
          refine ⟨fun z => absurd z (by decide), fun _ => ⟨rfl, _, rfl, rfl, id4, ⟨rfl, ⟨rfl, rfl⟩, rfl, id4⟩, rfl, rfl, ?_⟩⟩
          intro r μ' hq
          have g1 : r = some (Value.int (nI d + 1)) := hq.1
          have g2 : μ' = (131, dpr (up2 (upr M 128 (agv M (rsv M d 4) i (nI e))) 130 (nI d).toNatClampNeg (nI e + 1)) (nI d).toNatClampNeg, L, TT) := hq.2
          rw [ed, ← nI_succ] at g2
          rw [g1, g2]
          refine ⟨rfl, fun z => (by cases z), post _ _ ⟨fun z => absurd hn z, fun _ => ⟨fun c' hc' => ?_, fun hc' => ?_⟩⟩⟩
          · rw [← hf] at hc'
            have hc' := (if_pos (show sb (L 112 (M 118 i).toNatClampNeg) (nI e) = 1 ∧ agk M (rsv M d 4) i (nI e) from ⟨h1, h2⟩)).symm.trans hc'
            injection hc' with hc'
            subst hc'
            exact ⟨rfl, rfl⟩
          · rw [← hf] at hc'
            have hc' := (if_pos (show sb (L 112 (M 118 i).toNatClampNeg) (nI e) = 1 ∧ agk M (rsv M d 4) i (nI e) from ⟨h1, h2⟩)).symm.trans hc'
            exact absurd hc' (by simp)
        · rw [b2_f h2]
          exact ⟨fun _ => s105 _ hw' (fun z => h2 z.2), fun z => absurd rfl z⟩
  refine hs.go [46] 60 _ _ _ _ ⟨⟨rfl, ⟨rfl, rfl⟩, rfl, id4⟩, rfl, rfl, ?_⟩
  intro r μ' hq
  have g2 : μ' = (131, upr M 128 (rsv M (nI d).toNatClampNeg 4), L, TT) := hq.2
  rw [ed] at g2
  rw [hq.1, g2]
  refine ⟨rfl, _, rfl, rfl, id4, rfl, _, rfl, rfl, ii, fun h1 => ?_, fun h1 => ⟨rfl, _, rfl, rfl, id4, ?_⟩⟩
  · have h1 : M 121 (nI i).toNatClampNeg = 0 := h1
    rw [ei] at h1
    show K 46 [some (.ref 109), some (.int (nI i)), some (.int (nI d)), some (.int (M 130 (nI d).toNatClampNeg)), some (.int (M 130 (nI d).toNatClampNeg))] [] (131, upr M 128 (rsv M d 4), L, TT)
    rw [ed, hcd]
    exact loop (36 - c) c (by omega) h1 rfl _ hv4 _
  · have h1 : ¬ M 121 (nI i).toNatClampNeg = 0 := h1
    rw [ei] at h1
    refine ⟨fun h2 => ⟨⟨rfl, ⟨rfl, rfl⟩, rfl, id4⟩, rfl, rfl, ?_⟩, fun h2 => ⟨rfl, fun z => (by cases z), post _ _ ⟨fun _ => ⟨fun _ => ⟨rfl, ?_⟩, fun h3 => ?_⟩, fun z => absurd z h1⟩⟩⟩
    · have h2 : M 130 (nI d).toNatClampNeg ≤ nI 0 := h2
      rw [ed, hcd, nI_leI (by omega) (by decide)] at h2
      intro r μ' hq
      have g1 : r = some (Value.int (nI d + 1)) := hq.1
      have g2 : μ' = (131, dpr (up2 (upr M 128 (rsv M d 4)) 130 (nI d).toNatClampNeg 36) (nI d).toNatClampNeg, L, TT) := hq.2
      rw [ed] at g2
      rw [g1, g2]
      exact ⟨rfl, fun z => (by cases z), post _ _ ⟨fun _ => ⟨fun h3 => absurd h3 (by omega), fun _ => ⟨rfl, rfl⟩⟩, fun z => absurd z h1⟩⟩
    · show (131, up2 (upr M 128 (rsv M d 4)) 130 (nI d).toNatClampNeg 36, L, TT) = (131, up2 (upr M 128 (rsv M d 4)) 130 d 36, L, TT)
      rw [ed]
    · have h2 : ¬ M 130 (nI d).toNatClampNeg ≤ nI 0 := h2
      rw [ed, hcd, h3] at h2
      exact absurd (Int32.le_refl _) h2
