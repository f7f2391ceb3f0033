theorem fr_rlt {M M' : mM} {t : Nat → Int32} {i : Nat} (h : ∀ k, k ≠ 97 → M' k = M k) (hi : i < 14) : ∀ j, j ≤ 3 → rlt M' t i j = rlt M t i j := by
  intro j
  induction j with
  | zero => intro _; rfl
  | succ j ih =>
    intro hj
    have e : M' (15 + 6 * i + j) = M (15 + 6 * i + j) := h _ (by omega)
    have e2 : rlv M' t i j = rlv M t i j := by unfold rlv; rw [e]
    simp only [rlt, ih (by omega), e2]
theorem fr_rhd {M M' : mM} {i : Nat} (h : ∀ k, k ≠ 97 → M' k = M k) (hi : i < 14) : rhd M' i = rhd M i := by
  unfold rhd
  rw [h _ (show 13 + 6 * i ≠ 97 by omega)]
theorem fr_rln {M M' : mM} {i : Nat} (h : ∀ k, k ≠ 97 → M' k = M k) (hi : i < 14) : rln M' i = rln M i := by
  unfold rln
  rw [h _ (show 12 + 6 * i ≠ 97 by omega)]
theorem wR_ln {M : mM} {i : Nat} (h : wR M i) : rln M i ≤ 3 := by
  obtain ⟨-, ⟨n, hn, hne⟩, -⟩ := h
  unfold rln
  rw [hne, nI_clamp (n := n) (by omega)]
  exact hn
theorem fr_rht {M M' : mM} {t : Nat → Int32} {i : Nat} (h : ∀ k, k ≠ 97 → M' k = M k) (hi : i < 14) (hw : wR M i) : rht M' t i = rht M t i := by
  unfold rht
  rw [fr_rhd h hi, fr_rln h hi, fr_rlt h hi _ (wR_ln hw)]
theorem fr_wL {M M' : mM} {k : Nat} (h : M' k = M k) (hw : wL M k) : wL M' k := by
  unfold wL at hw ⊢
  rw [h]
  exact hw
theorem fr_wR {M M' : mM} {i : Nat} (h : ∀ k, k ≠ 97 → M' k = M k) (hi : i < 14) (hw : wR M i) : wR M' i := by
  obtain ⟨h1, h2, h3, h4⟩ := hw
  refine ⟨?_, ?_, fr_wL (h _ (by omega)) h3, fun j hj => fr_wL (h _ (by omega)) (h4 j hj)⟩
  · rw [h _ (show 12 + 6 * i ≠ 97 by omega)]; exact h1
  · rw [h _ (show 12 + 6 * i ≠ 97 by omega)]; exact h2
theorem upr_fr {M : mM} {t : Nat → Int32} : ∀ k, k ≠ 97 → upr M 97 t k = M k := fun k hk => upr_k hk
theorem upr_upr {M : mM} {k : Nat} {s t : Nat → Int32} : upr (upr M k s) k t = upr M k t := by
  funext a
  unfold upr
  by_cases ha : a = k
  · simp [ha]
  · simp [ha]
def rsT (M : mM) (t : Nat → Int32) : Nat → Nat → Int32
  | 0 => t
  | n + 1 => if M (12 + 6 * n) 4 = 0 then rsT M t n else rht M (rsT M t n) n
def rsF (M : mM) (t : Nat → Int32) : Nat → Int32
  | 0 => 0
  | n + 1 => if M (12 + 6 * n) 4 = 0 then rsF M t n else if rsT M t n (rhd M n) < rlt M (rsT M t n) n (rln M n) then 1 else rsF M t n
def sty (M : mM) : Nat → (Nat → Int32) → Option (Nat → Int32)
  | 0, _ => none
  | n + 1, t => if rsF M t 14 = 0 then some (rsT M t 14) else sty M n (rsT M t 14)
def z14 (t : Nat → Int32) : Nat → Int32 := fun j => if j < 14 then 0 else t j
def afI (M : mM) (a : Int32) : Nat → Int32
  | 0 => a
  | n + 1 => if M (12 + 6 * n) 4 = 0 then afI M a n else if M (12 + 6 * n) 3 &&& afI M a n = 0 then afI M a n else afI M a n ||| (1 <<< (M (13 + 6 * n) 0 &&& 31))
def afO (M : mM) : Nat → Int32 → Int32 → Int32
  | 0, a, _ => a
  | n + 1, a, b => if a = b then a else afO M n (afI M a 14) a
theorem rsF_01 (M : mM) (t : Nat → Int32) : ∀ n, rsF M t n = 0 ∨ rsF M t n = 1
  | 0 => Or.inl rfl
  | n + 1 => by
    simp only [rsF]
    split
    · exact rsF_01 M t n
    · split
      · exact Or.inr rfl
      · exact rsF_01 M t n

theorem dn_RB_raiseHeads : y_RB_raiseHeads.cls ≠ "java/lang/invoke/MethodHandle" ∧ y_RB_raiseHeads.cls ≠ "java/lang/invoke/VarHandle" ∧ (parseMethodDescriptor y_RB_raiseHeads.desc).map (fun d => d.parameters.length) = some 0 := by decide +kernel
abbrev pr_RB_raiseHeads : List Value → Mm → Prop := preV 3 (fun k => a_0 (fun μ => FM μ ∧ (k = 10 ∧ (∀ i, i < 14 → wR μ.2.1 i))))
abbrev po_RB_raiseHeads : List Value → Mm → Option Value → Mm → Prop := qV (fun k => b_0 (fun μ r μ' => r = some (.int (rsF μ.2.1 (μ.2.1 97) 14)) ∧ μ' = (131, upr μ.2.1 97 (rsT μ.2.1 (μ.2.1 97) 14), μ.2.2.1, TT)))
theorem ft_RB_raiseHeads : ∀ as μ, pr_RB_raiseHeads as μ → μ.1 + 0 ≤ 131 ∧ cz μ.1 + 0 ≤ cz 131 := hf_S (n := 131) (Nat.le_refl _) (fun as μ h => by
  obtain ⟨k, r, rfl, hk, h⟩ := preV_e h
  obtain ⟨rfl, h⟩ := a_0_e h
  exact h.1.1)
def C_RB_raiseHeads : Cf := fun id => match id with
  | 0 => trF (1 + 1) pr_RB_raiseHead po_RB_raiseHead
  | _ => fun _ _ _ => False
set_option maxRecDepth 100000 in
theorem cs_RB_raiseHeads (l : Launch) : ∀ x ∈ k_RB_raiseHeads, CS l R_RB b_RB_raiseHeads 3 (rmm 2 0 0) 131 131 C_RB_raiseHeads x := fc (CS.no rfl) (fc (CS.no rfl) (fc (CS.no rfl) (fc (CS.no rfl) (fc (CS.no rfl) (fc (CS.no rfl) (fc (CS.no rfl) (fc (CS.no rfl) (fc (CS.no rfl) (fc (CS.no rfl) (fc (CS.no rfl) (fc (CS.no rfl) (fc (CS.no rfl) (fc (CS.no rfl) (fc (CS.no rfl) (fc (CS.no rfl) (fc (CS.no rfl) (fc (CS.no rfl) (fc (CS.V c_RB_raiseHead wk_RB_raiseHead wl_RB_99 wm_RB_raiseHead we_RB_raiseHead rfl rfl wi_RB dn_RB_raiseHead ⟨rfl, rfl⟩ ⟨by decide, by decide⟩ ft_RB_raiseHead rfl (e_RB_raiseHeads_29).1) (fc (CS.no rfl) (fc (CS.no rfl) (fc (CS.no rfl) (fc (CS.no rfl) (fc (CS.no rfl) (fc (CS.no rfl) (fc (CS.no rfl) (fun _ h => absurd h List.not_mem_nil))))))))))))))))))))))))))
set_option maxRecDepth 100000 in
set_option maxHeartbeats 4000000 in
theorem c_RB_raiseHeads : Cn y_RB_raiseHeads b_RB_raiseHeads 3 (some .boolean) (rmm 2 0 0) (0 + 1) 0 0 pr_RB_raiseHeads po_RB_raiseHeads := cv_0 (ci := 3) (f := fun k => fun μ => FM μ ∧ (k = 10 ∧ (∀ i, i < 14 → wR μ.2.1 i))) (g := fun k => fun μ r μ' => r = some (.int (rsF μ.2.1 (μ.2.1 97) 14)) ∧ μ' = (131, upr μ.2.1 97 (rsT μ.2.1 (μ.2.1 97) 14), μ.2.2.1, TT)) fun l k  μ hk h => by
  obtain ⟨hm, h⟩ := h
  obtain ⟨M, L, rfl⟩ := hm.e
  refine ky_met (own := R_RB) (ini := 0) (rb := 1) (nE := 131) (cd := k_RB_raiseHeads) (C := C_RB_raiseHeads) (by decide) rfl (fun h => by cases h) (Nat.le_of_ble_eq_true rfl) ⟨rfl, rfl⟩ (Or.inr (Or.inl ⟨rfl, rfl⟩)) rfl rfl (by decide) ok_RB_raiseHeads (cs_RB_raiseHeads l) rt_RB_raiseHeads (fun K hs => ?_)
  obtain ⟨rfl, hw⟩ := h
  have hw : ∀ i, i < 14 → wR M i := hw
  have loop : ∀ (d c : Nat), c + d = 14 → K 4 [some (.ref 10), some (.int (rsF M (M 97) c)), some (.int (nI c))] [] (131, upr M 97 (rsT M (M 97) c), L, TT) := by
    intro d
    induction d with
    | zero =>
      intro c hc
      rw [show c = 14 by omega]
      exact hs.go [4] 40 _ _ _ _ ⟨fun _ => ⟨rfl, fun _ => rsF_01 _ _ _, rfl, rfl⟩, fun z => absurd (Int32.le_refl _) z⟩
    | succ d ih =>
      intro c hc
      have hc14 : c < 14 := by omega
      have hin : vp_in (nI c) 14 := vp_in_nI hc14 (by decide)
      have hcl : (nI c).toNatClampNeg = c := nI_clamp (n := c) (by omega)
      have h9 := ih (c + 1) (by omega)
      rw [nI_succ] at h9
      have io : ∀ N : mM, isO (131, N, L, TT) (12 + 6 * (nI c).toNatClampNeg) 4 = true := fun N => by rw [hcl]; exact ioR hc14
      have e97 : upr M 97 (rsT M (M 97) c) 97 = rsT M (M 97) c := upr_s
      have eth : upr M 97 (rsT M (M 97) c) (12 + 6 * (nI c).toNatClampNeg) 4 = M (12 + 6 * c) 4 := by rw [hcl, upr_k (show 12 + 6 * c ≠ 97 by omega)]
      refine hs.go [4] 40 _ _ _ _ ⟨fun z => absurd z (nI_ge (a := c) (b := 14) (by omega) (by decide)), fun _ => ⟨rfl, _, rfl, rfl, hin, _, rfl, io _, fun hb => ?_, fun hb => ⟨rfl, _, rfl, rfl, hin, _, rfl, ⟨rfl, ⟨rfl, rfl⟩, rfl, c, hc14, by rw [hcl], fr_wR upr_fr hc14 (hw c hc14)⟩, rfl, rfl, ?_⟩⟩⟩
      · have hb : M (12 + 6 * c) 4 = 0 := eth.symm.trans hb
        simp only [rsF, rsT, if_pos hb] at h9
        exact h9
      · have hb : ¬ M (12 + 6 * c) 4 = 0 := fun z => hb (eth.trans z)
        simp only [rsF, rsT, if_neg hb] at h9
        intro r μ' hp
        have e1 : rhd (upr M 97 (rsT M (M 97) c)) c = rhd M c := fr_rhd upr_fr hc14
        have e2 : rln (upr M 97 (rsT M (M 97) c)) c = rln M c := fr_rln upr_fr hc14
        have e3 : rlt (upr M 97 (rsT M (M 97) c)) (rsT M (M 97) c) c (rln M c) = rlt M (rsT M (M 97) c) c (rln M c) := fr_rlt upr_fr hc14 _ (wR_ln (hw c hc14))
        have e4 : rht (upr M 97 (rsT M (M 97) c)) (rsT M (M 97) c) c = rht M (rsT M (M 97) c) c := fr_rht upr_fr hc14 (hw c hc14)
        have h1 : r = some (.int (b2 (rsT M (M 97) c (rhd M c) < rlt M (rsT M (M 97) c) c (rln M c)))) := by
          refine ((hp c (by rw [hcl])).1).trans ?_
          show some (Value.int (b2 (upr M 97 (rsT M (M 97) c) 97 (rhd (upr M 97 (rsT M (M 97) c)) c) < rlt (upr M 97 (rsT M (M 97) c)) (upr M 97 (rsT M (M 97) c) 97) c (rln (upr M 97 (rsT M (M 97) c)) c)))) = _
          rw [e97, e1, e2, e3]
        have h2 : μ' = (131, upr M 97 (rht M (rsT M (M 97) c) c), L, TT) := by
          refine ((hp c (by rw [hcl])).2).trans ?_
          show (131, upr (upr M 97 (rsT M (M 97) c)) 97 (rht (upr M 97 (rsT M (M 97) c)) (upr M 97 (rsT M (M 97) c) 97) c), L, TT) = _
          rw [e97, e4, upr_upr]
        rw [h1, h2]
        refine ⟨fun hz => ?_, fun hz => ?_⟩
        · have hn : ¬ rsT M (M 97) c (rhd M c) < rlt M (rsT M (M 97) c) c (rln M c) := fun z => by rw [b2_t z] at hz; exact absurd hz (by decide)
          rw [if_neg hn] at h9
          exact h9
        · have hn : rsT M (M 97) c (rhd M c) < rlt M (rsT M (M 97) c) c (rln M c) := Classical.byContradiction fun z => hz (b2_f z)
          rw [if_pos hn] at h9
          exact h9
  have h0 := loop 14 0 rfl
  have e0 : upr M 97 (rsT M (M 97) 0) = M := upr_id
  rw [e0] at h0
  exact hs.go [4] 40 _ _ _ _ h0

theorem dn_RB_stratify : y_RB_stratify.cls ≠ "java/lang/invoke/MethodHandle" ∧ y_RB_stratify.cls ≠ "java/lang/invoke/VarHandle" ∧ (parseMethodDescriptor y_RB_stratify.desc).map (fun d => d.parameters.length) = some 0 := by decide +kernel
abbrev pr_RB_stratify : List Value → Mm → Prop := preV 3 (fun k => a_0 (fun μ => FM μ ∧ (k = 10 ∧ (∀ i, i < 14 → wR μ.2.1 i))))
abbrev po_RB_stratify : List Value → Mm → Option Value → Mm → Prop := qV (fun k => b_0 (fun μ r μ' => (∀ t, sty μ.2.1 14 (z14 (μ.2.1 97)) = some t → r = some (.int 1) ∧ μ' = (131, upr (upr μ.2.1 97 t) 96 t, μ.2.2.1, TT)) ∧ (sty μ.2.1 14 (z14 (μ.2.1 97)) = none → r = some (.int 0) ∧ ∃ t, μ' = (131, upr μ.2.1 97 t, μ.2.2.1, TT))))
theorem ft_RB_stratify : ∀ as μ, pr_RB_stratify as μ → μ.1 + 0 ≤ 131 ∧ cz μ.1 + 0 ≤ cz 131 := hf_S (n := 131) (Nat.le_refl _) (fun as μ h => by
  obtain ⟨k, r, rfl, hk, h⟩ := preV_e h
  obtain ⟨rfl, h⟩ := a_0_e h
  exact h.1.1)
def C_RB_stratify : Cf := fun id => match id with
  | 0 => trF 2 pr_AR_fill po_AR_fill
  | 1 => trF (0 + 1) pr_RB_raiseHeads po_RB_raiseHeads
  | 2 => trY
  | _ => fun _ _ _ => False
set_option maxRecDepth 100000 in
theorem cs_RB_stratify (l : Launch) : ∀ x ∈ k_RB_stratify, CS l R_RB b_RB_stratify 2 (rmm 3 0 0) 131 131 C_RB_stratify x := fc (CS.no rfl) (fc (CS.no rfl) (fc (CS.no rfl) (fc (CS.S c_AR_fill wk_AR_fill wl_RB_84 wt_AR_fill wi_AR dn_AR_fill ⟨rfl, rfl⟩ ⟨by decide, by decide⟩ ft_AR_fill rfl (e_RB_stratify_5).1) (fc (CS.no rfl) (fc (CS.no rfl) (fc (CS.no rfl) (fc (CS.no rfl) (fc (CS.no rfl) (fc (CS.no rfl) (fc (CS.V c_RB_raiseHeads wk_RB_raiseHeads wl_RB_90 wm_RB_raiseHeads we_RB_raiseHeads rfl rfl wi_RB dn_RB_raiseHeads ⟨rfl, rfl⟩ ⟨by decide, by decide⟩ ft_RB_raiseHeads rfl (e_RB_stratify_17).1) (fc (CS.no rfl) (fc (CS.no rfl) (fc (CS.no rfl) (fc (CS.no rfl) (fc (CS.no rfl) (fc (CS.no rfl) (fc (CS.no rfl) (fc (CS.no rfl) (fc (CS.Y wl_RB_93 ⟨by decide, by decide⟩ rfl (e_RB_stratify_35).1) (fc (CS.no rfl) (fc (CS.no rfl) (fc (CS.no rfl) (fc (CS.no rfl) (fc (CS.no rfl) (fc (CS.no rfl) (fun _ h => absurd h List.not_mem_nil))))))))))))))))))))))))))
set_option maxRecDepth 100000 in
set_option maxHeartbeats 4000000 in
theorem c_RB_stratify : Cn y_RB_stratify b_RB_stratify 2 (some .boolean) (rmm 3 0 0) (0 + 1) 0 0 pr_RB_stratify po_RB_stratify := cv_0 (ci := 3) (f := fun k => fun μ => FM μ ∧ (k = 10 ∧ (∀ i, i < 14 → wR μ.2.1 i))) (g := fun k => fun μ r μ' => (∀ t, sty μ.2.1 14 (z14 (μ.2.1 97)) = some t → r = some (.int 1) ∧ μ' = (131, upr (upr μ.2.1 97 t) 96 t, μ.2.2.1, TT)) ∧ (sty μ.2.1 14 (z14 (μ.2.1 97)) = none → r = some (.int 0) ∧ ∃ t, μ' = (131, upr μ.2.1 97 t, μ.2.2.1, TT))) fun l k  μ hk h => by
  obtain ⟨hm, h⟩ := h
  obtain ⟨M, L, rfl⟩ := hm.e
  refine ky_met (own := R_RB) (ini := 0) (rb := 1) (nE := 131) (cd := k_RB_stratify) (C := C_RB_stratify) (by decide) rfl (fun h => by cases h) (Nat.le_of_ble_eq_true rfl) ⟨rfl, rfl⟩ (Or.inr (Or.inl ⟨rfl, rfl⟩)) rfl rfl (by decide) ok_RB_stratify (cs_RB_stratify l) rt_RB_stratify (fun K hs => ?_)
  obtain ⟨rfl, hw⟩ := h
  have hw : ∀ i, i < 14 → wR M i := hw
  have fT : ∀ (t u : Nat → Int32) n, n ≤ 14 → rsT (upr M 97 t) u n = rsT M u n := by
    intro t u n
    induction n with
    | zero => intro _; rfl
    | succ n ih =>
      intro hn
      simp only [rsT, ih (by omega), upr_k (show 12 + 6 * n ≠ 97 by omega), fr_rht (M := M) upr_fr (show n < 14 by omega) (hw n (by omega))]
  have fF : ∀ (t u : Nat → Int32) n, n ≤ 14 → rsF (upr M 97 t) u n = rsF M u n := by
    intro t u n
    induction n with
    | zero => intro _; rfl
    | succ n ih =>
      intro hn
      have e1 : rhd (upr M 97 t) n = rhd M n := fr_rhd upr_fr (show n < 14 by omega)
      have e2 : rln (upr M 97 t) n = rln M n := fr_rln upr_fr (show n < 14 by omega)
      have e3 : rlt (upr M 97 t) (rsT M u n) n (rln M n) = rlt M (rsT M u n) n (rln M n) := fr_rlt upr_fr (show n < 14 by omega) _ (wR_ln (hw n (by omega)))
      simp only [rsF, ih (by omega), fT t u n (by omega), upr_k (show 12 + 6 * n ≠ 97 by omega), e1, e2, e3]
  have loop : ∀ (d c : Nat) (t : Nat → Int32), c + d = 14 → sty M d t = sty M 14 (z14 (M 97)) → K 10 [some (.ref 10), some (.int (nI c))] [] (131, upr M 97 t, L, TT) := by
    intro d
    induction d with
    | zero =>
      intro c t hc hr
      rw [show c = 14 by omega]
      refine hs.go [10] 40 _ _ _ _ ⟨fun _ => ⟨rfl, fun _ => Or.inl rfl, fun t' h => ?_, fun _ => ⟨rfl, t, rfl⟩⟩, fun z => absurd (Int32.le_refl _) z⟩
      exact absurd (hr.trans h) (by simp [sty])
    | succ d ih =>
      intro c t hc hr
      have e97 : upr M 97 t 97 = t := upr_s
      refine hs.go [10] 40 _ _ _ _ ⟨fun z => absurd z (nI_ge (a := c) (b := 14) (by omega) (by decide)), fun _ => ⟨⟨rfl, ⟨rfl, rfl⟩, rfl, fun i hi => fr_wR upr_fr hi (hw i hi)⟩, rfl, rfl, ?_⟩⟩
      intro r μ' hp
      have h1 : r = some (.int (rsF M t 14)) := by
        refine hp.1.trans ?_
        show some (Value.int (rsF (upr M 97 t) (upr M 97 t 97) 14)) = _
        rw [e97, fF t t 14 (Nat.le_refl _)]
      have h2 : μ' = (131, upr M 97 (rsT M t 14), L, TT) := by
        refine hp.2.trans ?_
        show (131, upr (upr M 97 t) 97 (rsT (upr M 97 t) (upr M 97 t 97) 14), L, TT) = _
        rw [e97, fT t t 14 (Nat.le_refl _), upr_upr]
      rw [h1, h2]
      refine ⟨fun hz => ?_, fun hz => ⟨rfl, _, rfl, rfl, _, rfl, rfl, rfl, rfl, rfl, rfl, rfl, Or.inl ⟨rfl, rfl, rfl, fun _ => Or.inr rfl, fun t' h => ?_, fun h => ?_⟩⟩⟩
      · have h9 := ih (c + 1) (rsT M t 14) (by omega) (by rw [← hr]; simp only [sty, if_neg hz])
        rw [nI_succ] at h9
        exact h9
      · have e : sty M (d + 1) t = some (rsT M t 14) := by simp only [sty, if_pos hz]
        have : t' = rsT M t 14 := (Option.some.inj (e.symm.trans (hr.trans h))).symm
        subst this
        refine ⟨rfl, ?_⟩
        show (131, upr (upr M 97 (rsT M t 14)) 96 (upr M 97 (rsT M t 14) 97), L, TT) = _
        rw [upr_s]
      · have e : sty M (d + 1) t = some (rsT M t 14) := by simp only [sty, if_pos hz]
        exact absurd (e.symm.trans (hr.trans h)) (by simp)
  refine hs.go [10] 40 _ _ _ _ ⟨rfl, _, rfl, ⟨rfl, rfl, (by decide)⟩, rfl, rfl, ?_⟩
  rintro _ _ ⟨rfl, rfl⟩
  exact loop 14 0 (z14 (M 97)) rfl rfl

theorem dn_RB_affectedBy : y_RB_affectedBy.cls ≠ "java/lang/invoke/MethodHandle" ∧ y_RB_affectedBy.cls ≠ "java/lang/invoke/VarHandle" ∧ (parseMethodDescriptor y_RB_affectedBy.desc).map (fun d => d.parameters.length) = some 1 := by decide +kernel
abbrev pr_RB_affectedBy : List Value → Mm → Prop := preV 3 (fun k => a_I (fun x0 μ => FM μ ∧ (k = 10)))
abbrev po_RB_affectedBy : List Value → Mm → Option Value → Mm → Prop := qV (fun k => b_I (fun x0 μ r μ' => r = some (.int (afO μ.2.1 14 x0 0)) ∧ μ' = μ))
theorem ft_RB_affectedBy : ∀ as μ, pr_RB_affectedBy as μ → μ.1 + 0 ≤ 131 ∧ cz μ.1 + 0 ≤ cz 131 := hf_S (n := 131) (Nat.le_refl _) (fun as μ h => by
  obtain ⟨k, r, rfl, hk, h⟩ := preV_e h
  obtain ⟨x0, rfl, h⟩ := a_I_e h
  exact h.1.1)
theorem nc_RB_affectedBy : ∀ x ∈ k_RB_affectedBy, isInv x.2.1 = false := by decide +kernel
set_option maxRecDepth 100000 in
set_option maxHeartbeats 4000000 in
theorem c_RB_affectedBy : Cn y_RB_affectedBy b_RB_affectedBy 7 (some .int) (rmm 0 0 0) (1 + 1) 0 0 pr_RB_affectedBy po_RB_affectedBy := cv_I (ci := 3) (f := fun k => fun x0 μ => FM μ ∧ (k = 10)) (g := fun k => fun x0 μ r μ' => r = some (.int (afO μ.2.1 14 x0 0)) ∧ μ' = μ) fun l k x0 μ hk h => by
  obtain ⟨hm, h⟩ := h
  obtain ⟨M, L, rfl⟩ := hm.e
  refine ky_met (own := R_RB) (ini := 0) (rb := 0) (nE := 131) (cd := k_RB_affectedBy) (C := (fun _ _ _ _ => False)) (by decide) rfl (fun h => by cases h) (Nat.le_of_ble_eq_true rfl) ⟨rfl, rfl⟩ (Or.inl ⟨rfl, rfl⟩) rfl rfl (by decide) ok_RB_affectedBy (fun x hx => CS.no (nc_RB_affectedBy x hx)) rt_RB_affectedBy (fun K hs => ?_)
  subst h
  have inner : ∀ (a0 b c : Int32) (x6 : Option Value), (∀ x6, K 77 [some (.ref 10), some (.int x0), some (.int (afI M a0 14)), some (.int b), some (.int c), some (.int 14), x6] [] (131, M, L, TT)) → ∀ (d n : Nat), n + d = 14 → ∀ x6, K 24 [some (.ref 10), some (.int x0), some (.int (afI M a0 n)), some (.int b), some (.int c), some (.int (nI n)), x6] [] (131, M, L, TT) := by
    intro a0 b c _ hk d
    induction d with
    | zero =>
      intro n hn x6
      rw [show n = 14 by omega]
      exact hs.go [24, 77] 40 _ _ _ _ ⟨fun _ => hk x6, fun z => absurd (Int32.le_refl _) z⟩
    | succ d ih =>
      intro n hn x6
      have hin : vp_in (nI n) 14 := vp_in_nI (by omega) (by decide)
      have hcl : (nI n).toNatClampNeg = n := nI_clamp (n := n) (by omega)
      have hn14 : (nI n).toNatClampNeg < 14 := cl_lt hin
      have h9 := ih (n + 1) (by omega) (some (.ref (12 + 6 * (nI n).toNatClampNeg)))
      rw [nI_succ] at h9
      refine hs.go [24, 77] 40 _ _ _ _ ⟨fun z => absurd z (nI_ge (a := n) (b := 14) (by omega) (by decide)), fun _ => ⟨rfl, _, rfl, rfl, hin, _, rfl, ioR hn14, fun h1 => ?_, fun h1 => ⟨ioR hn14, fun h2 => ?_, fun h2 => ⟨ioR hn14, _, TTh _ hn14, ioH hn14, ?_⟩⟩⟩⟩
      · have h1 : M (12 + 6 * (nI n).toNatClampNeg) 4 = 0 := h1
        have h1' : M (12 + 6 * n) 4 = 0 := by rw [hcl] at h1; exact h1
        simp only [afI, if_pos h1'] at h9
        exact h9
      · have h1' : ¬ M (12 + 6 * n) 4 = 0 := by have h1 : ¬ M (12 + 6 * (nI n).toNatClampNeg) 4 = 0 := h1; rw [hcl] at h1; exact h1
        have h2' : M (12 + 6 * n) 3 &&& afI M a0 n = 0 := by have h2 : M (12 + 6 * (nI n).toNatClampNeg) 3 &&& afI M a0 n = 0 := h2; rw [hcl] at h2; exact h2
        simp only [afI, if_neg h1', if_pos h2'] at h9
        exact h9
      · have h1' : ¬ M (12 + 6 * n) 4 = 0 := by have h1 : ¬ M (12 + 6 * (nI n).toNatClampNeg) 4 = 0 := h1; rw [hcl] at h1; exact h1
        have h2' : ¬ M (12 + 6 * n) 3 &&& afI M a0 n = 0 := by have h2 : ¬ M (12 + 6 * (nI n).toNatClampNeg) 3 &&& afI M a0 n = 0 := h2; rw [hcl] at h2; exact h2
        simp only [afI, if_neg h1', if_neg h2'] at h9
        show K 24 [some (.ref 10), some (.int x0), some (.int (afI M a0 n ||| (1 <<< (M (13 + 6 * (nI n).toNatClampNeg) 0 &&& 31)))), some (.int b), some (.int c), some (.int (nI n + 1)), some (.ref (12 + 6 * (nI n).toNatClampNeg))] [] (131, M, L, TT)
        rw [hcl] at h9 ⊢
        exact h9
  have outer : ∀ (d c : Nat) (a b : Int32), c + d = 14 → afO M d a b = afO M 14 x0 0 → ∀ x5 x6, K 7 [some (.ref 10), some (.int x0), some (.int a), some (.int b), some (.int (nI c)), x5, x6] [] (131, M, L, TT) := by
    intro d
    induction d with
    | zero =>
      intro c a b hc hr x5 x6
      rw [show c = 14 by omega]
      exact hs.go [7, 24] 40 _ _ _ _ ⟨fun _ => ⟨rfl, fun z => (by cases z), by rw [← hr]; rfl, rfl⟩, fun z => absurd (Int32.le_refl _) z⟩
    | succ d ih =>
      intro c a b hc hr x5 x6
      refine hs.go [7, 24] 40 _ _ _ _ ⟨fun z => absurd z (nI_ge (a := c) (b := 14) (by omega) (by decide)), fun _ => ⟨fun hab => ⟨rfl, fun z => (by cases z), by rw [← hr]; simp only [afO, if_pos hab], rfl⟩, fun hab => ?_⟩⟩
      refine inner a a (nI c) none (fun y6 => ?_) 14 0 rfl x6
      have h9 := ih (c + 1) (afI M a 14) a (by omega) (by rw [← hr]; simp only [afO, if_neg hab]) (some (.int 14)) y6
      rw [nI_succ] at h9
      exact hs.go [7, 24] 40 _ _ _ _ h9
  exact hs.go [7, 24] 40 _ _ _ _ (outer 14 0 x0 0 rfl rfl none none)
