abbrev pr_DV_matchFromA (d : Nat) : List Value → Mm → Prop := pr_mf d
/-- the values of the terms at rest -/
def VR (v : Nat → Int32) : Prop := (∀ t, t < 6 → v t = nI t) ∧ ∀ t, 10 ≤ t → t ≤ 13 → v t = -1
theorem VR.ok {v : Nat → Int32} (h : VR v) : vok v := fun t ht => ht.elim (fun h1 => Or.inr ⟨t, h1, h.1 t h1⟩) (fun h1 => Or.inl (h.2 t h1.1 h1.2))
theorem nI_ne_m1 {n : Nat} (h : n < 2 ^ 31) : ¬ nI n = -1 := by
  intro e
  have := nI_pos (n := n) h
  rw [e] at this
  exact this (by decide)
theorem bdv_rel {v w : Nat → Int32} {t : Nat} {x : Int32} (hv : VR v) (ht : t < 6 ∨ (10 ≤ t ∧ t ≤ 13)) (hw : ∀ u, ¬ (10 ≤ u ∧ u ≤ 13) → w u = v u) : ∀ u, ¬ (10 ≤ u ∧ u ≤ 13) → bdv w t x u = v u := by
  intro u hu
  unfold bdv
  split
  · rename_i e
    by_cases e2 : u = t
    · subst e2
      exfalso
      rcases ht with h1 | h1
      · rw [hw u hu, hv.1 u h1] at e
        exact nI_ne_m1 (by omega) e
      · exact hu h1
    · rw [pk_un e2]; exact hw u hu
  · exact hw u hu
theorem rel_VR {v w : Nat → Int32} (hv : VR v) (hw : ∀ u, ¬ (10 ≤ u ∧ u ≤ 13) → w u = v u) : rlv4 w 14 = v := by
  funext u
  unfold rlv4
  split
  · rename_i h
    exact (hv.2 u h.1 (by omega)).symm
  · rename_i h
    exact hw u (by omega)
def cin (M : mM) (L : mL) (i c : Nat) : Int32 := if bdv (M 104) (tmn M (13 + 6 * i) 1) (c6 c) (tmn M (13 + 6 * i) 1) = c6 c ∧ b6 (M 104) (tmn M (13 + 6 * i) 1) (tmn M (13 + 6 * i) 2) c (tmn M (13 + 6 * i) 2) = r6 c then (mmt M L i (rln M i) (rln M i) (b6 (M 104) (tmn M (13 + 6 * i) 1) (tmn M (13 + 6 * i) 2) c) (L 103 1)).1 else 0

abbrev f_mfX (k : Nat) : Nat → Nat → Int32 → Mm → Prop := fun x0 x1 x2 μ => FM μ ∧ (k = 103 ∧ x0 = 5 ∧ x2 = 0 ∧ vok (μ.2.1 104) ∧ ∃ i, i < 14 ∧ x1 = 12 + 6 * i ∧ wR μ.2.1 i)
abbrev g_mfX (k : Nat) : Nat → Nat → Int32 → Mm → Option Value → Mm → Prop := fun x0 x1 x2 μ r μ' => ∀ i, i < 14 → x1 = 12 + 6 * i → r = some (.int (mmt μ.2.1 μ.2.2.1 i (rln μ.2.1 i) (rln μ.2.1 i) (μ.2.1 104) (μ.2.2.1 103 1)).1) ∧ μ' = (131, μ.2.1, up2 μ.2.2.1 103 1 (mmt μ.2.1 μ.2.2.1 i (rln μ.2.1 i) (rln μ.2.1 i) (μ.2.1 104) (μ.2.2.1 103 1)).2, TT)
abbrev pr_DV_matchFrom : List Value → Mm → Prop := preV 6 (fun k => a_RRI (f_mfX k))
abbrev po_DV_matchFrom : List Value → Mm → Option Value → Mm → Prop := qV (fun k => b_RRI (g_mfX k))
theorem ft_DV_matchFrom : ∀ as μ, pr_DV_matchFrom as μ → μ.1 + 0 ≤ 131 ∧ cz μ.1 + 0 ≤ cz 131 := hf_S (n := 131) (Nat.le_refl _) (fun as μ h => by
  obtain ⟨k, r, rfl, hk, h⟩ := preV_e h
  obtain ⟨x0, x1, x2, rfl, h⟩ := a_RRI_e h
  exact h.1.1)
theorem Ct.mono {l : Launch} {y : MethodName} {ws : List Cond} {rm : Room} {as : List Value} {μ : Mm} {mc ms : Nat} {post post' : Option Value → Mm → Prop} (h : Ct l y ws rm as μ mc ms post) (hp : ∀ r μ', post r μ' → post' r μ') : Ct l y ws rm as μ mc ms post' := fun q D G => MetFree.mono (h q D G) (fun _ _ h => h) (fun _ _ _ _ _ h => h) (fun a st o t _ z => ⟨by
  obtain ⟨r, μ', h1, h2, h3⟩ := z.1
  exact ⟨r, μ', h1, hp r μ' h2, h3⟩, z.2⟩)
theorem c_DV_matchFrom : Cn y_DV_matchFrom b_DV_matchFrom 4 (some .int) (rmm 7 0 0) (3 + 1) 0 0 pr_DV_matchFrom po_DV_matchFrom := cv_RRI (ci := 6) (f := f_mfX) (g := g_mfX) fun l k x0 x1 x2 μ hk h => by
  obtain ⟨hm, h⟩ := h
  obtain ⟨M, L, rfl⟩ := hm.e
  obtain ⟨rfl, rfl, rfl, hv, i, hi, rfl, hw⟩ := h
  have hw : wR M i := hw
  have hl := wR_ln hw
  obtain ⟨x, hx⟩ : ∃ x, 1 + 2 * rln M i + x = 7 := ⟨6 - 2 * rln M i, by omega⟩
  have H := c_mfall x (rln M i) l [.ref 103, .ref 5, .ref (12 + 6 * i), .int 0] (131, M, L, TT) rfl ⟨hk, ⟨rfl, rfl⟩, rfl, rfl, hv, i, rln M i, 0, hi, rfl, hw, rfl, by omega, rfl⟩
  rw [hx] at H
  refine H.mono (fun r μ' hq i' hi' he => ?_)
  have : i' = i := by omega
  subst this
  exact hq i' hi' rfl

theorem dn_DV_countInstances : y_DV_countInstances.cls ≠ "java/lang/invoke/MethodHandle" ∧ y_DV_countInstances.cls ≠ "java/lang/invoke/VarHandle" ∧ (parseMethodDescriptor y_DV_countInstances.desc).map (fun d => d.parameters.length) = some 3 := by decide +kernel
abbrev pr_DV_countInstances : List Value → Mm → Prop := preV 6 (fun k => a_RRI (fun x0 x1 x2 μ => FM μ ∧ (k = 103 ∧ x0 = 5 ∧ VR (μ.2.1 104) ∧ ∃ i c, i < 14 ∧ x1 = 12 + 6 * i ∧ wR μ.2.1 i ∧ c < 36 ∧ x2 = nI c)))
abbrev po_DV_countInstances : List Value → Mm → Option Value → Mm → Prop := qV (fun k => b_RRI (fun x0 x1 x2 μ r μ' => ∀ i c, i < 14 → x1 = 12 + 6 * i → c < 36 → x2 = nI c → r = some (.int (cin μ.2.1 μ.2.2.1 i c)) ∧ ∃ ρ, μ' = (131, μ.2.1, up2 μ.2.2.1 103 1 ρ, TT)))
theorem ft_DV_countInstances : ∀ as μ, pr_DV_countInstances as μ → μ.1 + 0 ≤ 131 ∧ cz μ.1 + 0 ≤ cz 131 := hf_S (n := 131) (Nat.le_refl _) (fun as μ h => by
  obtain ⟨k, r, rfl, hk, h⟩ := preV_e h
  obtain ⟨x0, x1, x2, rfl, h⟩ := a_RRI_e h
  exact h.1.1)
def C_DV_countInstances : Cf := fun id => match id with
  | 0 => trF (2 + 1) pr_DV_bind po_DV_bind
  | 1 => trF (3 + 1) pr_DV_matchFrom po_DV_matchFrom
  | 2 => trF (0 + 1) pr_DV_release po_DV_release
  | _ => fun _ _ _ => False
set_option maxRecDepth 100000 in
theorem cs_DV_countInstances (l : Launch) : ∀ x ∈ k_DV_countInstances, CS l R_DV b_DV_countInstances 6 (rmm 8 0 0) 131 131 C_DV_countInstances x := fc (CS.no rfl) (fc (CS.no rfl) (fc (CS.no rfl) (fc (CS.no rfl) (fc (CS.no rfl) (fc (CS.no rfl) (fc (CS.no rfl) (fc (CS.V c_DV_bind wk_DV_bind wl_DV_34 wm_DV_bind we_DV_bind rfl rfl wi_DV dn_DV_bind ⟨rfl, rfl⟩ ⟨by decide, by decide⟩ ft_DV_bind rfl (e_DV_countInstances_12).1) (fc (CS.no rfl) (fc (CS.no rfl) (fc (CS.no rfl) (fc (CS.no rfl) (fc (CS.no rfl) (fc (CS.no rfl) (fc (CS.no rfl) (fc (CS.no rfl) (fc (CS.V c_DV_bind wk_DV_bind wl_DV_34 wm_DV_bind we_DV_bind rfl rfl wi_DV dn_DV_bind ⟨rfl, rfl⟩ ⟨by decide, by decide⟩ ft_DV_bind rfl (e_DV_countInstances_30).1) (fc (CS.no rfl) (fc (CS.no rfl) (fc (CS.no rfl) (fc (CS.no rfl) (fc (CS.no rfl) (fc (CS.no rfl) (fc (CS.no rfl) (fc (CS.no rfl) (fc (CS.no rfl) (fc (CS.no rfl) (fc (CS.no rfl) (fc (CS.V c_DV_matchFrom wk_DV_matchFrom wl_DV_41 wm_DV_matchFrom we_DV_matchFrom rfl rfl wi_DV dn_DV_matchFrom ⟨rfl, rfl⟩ ⟨by decide, by decide⟩ ft_DV_matchFrom rfl (e_DV_countInstances_52).1) (fc (CS.no rfl) (fc (CS.no rfl) (fc (CS.no rfl) (fc (CS.no rfl) (fc (CS.V c_DV_release wk_DV_release wl_DV_15 wm_DV_release we_DV_release rfl rfl wi_DV dn_DV_release ⟨rfl, rfl⟩ ⟨by decide, by decide⟩ ft_DV_release rfl (e_DV_countInstances_62).1) (fc (CS.no rfl) (fc (CS.no rfl) (fun _ h => absurd h List.not_mem_nil))))))))))))))))))))))))))))))))))))
set_option maxRecDepth 100000 in
set_option maxHeartbeats 4000000 in
theorem c_DV_countInstances : Cn y_DV_countInstances b_DV_countInstances 6 (some .int) (rmm 8 0 0) (3 + 1) 0 0 pr_DV_countInstances po_DV_countInstances := cv_RRI (ci := 6) (f := fun k => fun x0 x1 x2 μ => FM μ ∧ (k = 103 ∧ x0 = 5 ∧ VR (μ.2.1 104) ∧ ∃ i c, i < 14 ∧ x1 = 12 + 6 * i ∧ wR μ.2.1 i ∧ c < 36 ∧ x2 = nI c)) (g := fun k => fun x0 x1 x2 μ r μ' => ∀ i c, i < 14 → x1 = 12 + 6 * i → c < 36 → x2 = nI c → r = some (.int (cin μ.2.1 μ.2.2.1 i c)) ∧ ∃ ρ, μ' = (131, μ.2.1, up2 μ.2.2.1 103 1 ρ, TT)) fun l k x0 x1 x2 μ hk h => by
  obtain ⟨hm, h⟩ := h
  obtain ⟨M, L, rfl⟩ := hm.e
  refine ky_met (own := R_DV) (ini := 0) (rb := 0) (nE := 131) (cd := k_DV_countInstances) (C := C_DV_countInstances) (by decide) rfl (fun h => by cases h) (Nat.le_of_ble_eq_true rfl) ⟨rfl, rfl⟩ (Or.inl ⟨rfl, rfl⟩) rfl rfl (by decide) ok_DV_countInstances (cs_DV_countInstances l) rt_DV_countInstances (fun K hs => ?_)
  obtain ⟨rfl, rfl, hv, i, c, hi, rfl, hw, hc, rfl⟩ := h
  have hv : VR (M 104) := hv
  have hw : wR M i := hw
  have hwh := hw.2.2.1
  have hf := tm_in hwh.2.1
  have hsn := tm_in hwh.2.2.1
  have post : ∀ (r : Option Value) (μ' : Mm), r = some (.int (cin M L i c)) → (∃ ρ, μ' = (131, M, up2 L 103 1 ρ, TT)) → ∀ i' c', i' < 14 → 12 + 6 * i = 12 + 6 * i' → c' < 36 → nI c = nI c' → r = some (.int (cin M L i' c')) ∧ ∃ ρ, μ' = (131, M, up2 L 103 1 ρ, TT) := by
    intro r μ' h1 h2 i' c' _ hi' hc' hcc
    have e1 : i' = i := by omega
    have e2 : c = c' := (nI_eq (a := c) (b := c') (by omega) (by omega)).mp hcc
    subst e1; subst e2
    exact ⟨h1, h2⟩
  have fin : ∀ (w : Nat → Int32) (x4 : Int32) (v : Int32) (ρ : Int64), (∀ u, ¬ (10 ≤ u ∧ u ≤ 13) → w u = M 104 u) → v = cin M L i c → K 59 [some (.ref 103), some (.ref 5), some (.ref (12 + 6 * i)), some (.int (nI c)), some (.int x4), none] [.int v] (131, upr M 104 w, up2 L 103 1 ρ, TT) := by
    intro w x4 v ρ hw' hv'
    refine hs.go [59] 40 _ _ _ _ ⟨⟨rfl, ⟨rfl, rfl⟩, rfl⟩, rfl, rfl, ?_⟩
    intro r μ' hq
    have e2 : μ' = (131, M, up2 L 103 1 ρ, TT) := by
      refine hq.2.trans ?_
      show (131, upr (upr M 104 w) 104 (rlv4 (upr M 104 w 104) 14), up2 L 103 1 ρ, TT) = _
      rw [upr_s, upr_upr, rel_VR hv hw', upr_id]
    rw [hq.1, e2]
    exact ⟨rfl, fun z => (by cases z), post _ _ (by rw [hv']) ⟨ρ, rfl⟩⟩
  have hw0 : ∀ u, ¬ (10 ≤ u ∧ u ≤ 13) → M 104 u = M 104 u := fun _ _ => rfl
  have hw1 := bdv_rel (x := c6 c) hv hf.2 hw0
  have hw2 := bdv_rel (x := r6 c) hv hsn.2 hw1
  have eL : up2 L 103 1 (L 103 1) = L := up2_id
  refine hs.go [59] 60 _ _ _ _ ⟨ioR hi, _, TTh i hi, ioH hi, (by decide), ⟨rfl, ⟨rfl, rfl⟩, rfl, hf.1⟩, rfl, rfl, ?_⟩
  intro r μ' hq
  have e1 : r = some (.int (b2 (bdv (M 104) (tmn M (13 + 6 * i) 1) (c6 c) (tmn M (13 + 6 * i) 1) = c6 c))) := hq.1
  have e2 : μ' = (131, upr M 104 (bdv (M 104) (tmn M (13 + 6 * i) 1) (c6 c)), L, TT) := hq.2
  rw [e1, e2]
  by_cases hb1 : bdv (M 104) (tmn M (13 + 6 * i) 1) (c6 c) (tmn M (13 + 6 * i) 1) = c6 c
  · rw [show b2 (bdv (M 104) (tmn M (13 + 6 * i) 1) (c6 c) (tmn M (13 + 6 * i) 1) = c6 c) = 1 from b2_t hb1]
    have eM : upr M 104 (bdv (M 104) (tmn M (13 + 6 * i) 1) (c6 c)) (13 + 6 * i) = M (13 + 6 * i) := up104 _ (by omega)
    refine ⟨fun z => absurd z (by decide), fun _ => ⟨ioR hi, _, TTh i hi, ioH hi, (by decide), ⟨rfl, ⟨rfl, rfl⟩, rfl, ?_⟩, rfl, rfl, ?_⟩⟩
    · show vp_in (upr M 104 (bdv (M 104) (tmn M (13 + 6 * i) 1) (c6 c)) (13 + 6 * i) 2) 14
      rw [eM]
      exact hsn.1
    intro r μ' hq
    have f1 : r = some (.int (b2 (b6 (M 104) (tmn M (13 + 6 * i) 1) (tmn M (13 + 6 * i) 2) c (tmn M (13 + 6 * i) 2) = r6 c))) := by
      refine hq.1.trans ?_
      show some (Value.int (b2 (bdv (upr M 104 (bdv (M 104) (tmn M (13 + 6 * i) 1) (c6 c)) 104) (upr M 104 (bdv (M 104) (tmn M (13 + 6 * i) 1) (c6 c)) (13 + 6 * i) 2).toNatClampNeg (r6 c) (upr M 104 (bdv (M 104) (tmn M (13 + 6 * i) 1) (c6 c)) (13 + 6 * i) 2).toNatClampNeg = r6 c))) = _
      rw [eM, upr_s]
      rfl
    have f2 : μ' = (131, upr M 104 (b6 (M 104) (tmn M (13 + 6 * i) 1) (tmn M (13 + 6 * i) 2) c), L, TT) := by
      refine hq.2.trans ?_
      show (131, upr (upr M 104 (bdv (M 104) (tmn M (13 + 6 * i) 1) (c6 c))) 104 (bdv (upr M 104 (bdv (M 104) (tmn M (13 + 6 * i) 1) (c6 c)) 104) (upr M 104 (bdv (M 104) (tmn M (13 + 6 * i) 1) (c6 c)) (13 + 6 * i) 2).toNatClampNeg (r6 c)), L, TT) = _
      rw [eM, upr_s, upr_upr]
      rfl
    rw [f1, f2]
    by_cases hb2 : b6 (M 104) (tmn M (13 + 6 * i) 1) (tmn M (13 + 6 * i) 2) c (tmn M (13 + 6 * i) 2) = r6 c
    · rw [show b2 (b6 (M 104) (tmn M (13 + 6 * i) 1) (tmn M (13 + 6 * i) 2) c (tmn M (13 + 6 * i) 2) = r6 c) = 1 from b2_t hb2]
      have hv2 : vok (b6 (M 104) (tmn M (13 + 6 * i) 1) (tmn M (13 + 6 * i) 2) c) := bdv_ok (bdv_ok hv.ok ⟨c / 6, by omega, c6_e hc⟩) ⟨c % 6, by omega, r6_e hc⟩
      have hvo : vok (upr M 104 (b6 (M 104) (tmn M (13 + 6 * i) 1) (tmn M (13 + 6 * i) 2) c) 104) := by rw [upr_s]; exact hv2
      have hln2 : rln (upr M 104 (b6 (M 104) (tmn M (13 + 6 * i) 1) (tmn M (13 + 6 * i) 2) c)) i = rln M i := by
        unfold rln
        rw [up104 _ (show 12 + 6 * i < 103 by omega)]
      have ecg : mmt (upr M 104 (b6 (M 104) (tmn M (13 + 6 * i) 1) (tmn M (13 + 6 * i) 2) c)) L i (rln M i) (rln M i) (b6 (M 104) (tmn M (13 + 6 * i) 1) (tmn M (13 + 6 * i) 2) c) (L 103 1) = mmt M L i (rln M i) (rln M i) (b6 (M 104) (tmn M (13 + 6 * i) 1) (tmn M (13 + 6 * i) 2) c) (L 103 1) := mmt_cg (fun k hk => up104 k (by omega)) rfl hi (wR_ln hw) _ (Nat.le_refl _) _ _
      refine ⟨fun z => absurd z (by decide), fun _ => ⟨fun z => absurd z (by decide), fun _ => ⟨⟨rfl, ⟨rfl, rfl⟩, rfl, rfl, rfl, hvo, i, hi, rfl, fr_wR3 up104 hi hw⟩, rfl, rfl, ?_⟩⟩⟩
      intro r μ' hq
      have g1 : r = some (.int (cin M L i c)) := by
        refine ((hq i hi rfl).1).trans ?_
        show some (Value.int (mmt (upr M 104 (b6 (M 104) (tmn M (13 + 6 * i) 1) (tmn M (13 + 6 * i) 2) c)) L i (rln (upr M 104 (b6 (M 104) (tmn M (13 + 6 * i) 1) (tmn M (13 + 6 * i) 2) c)) i) (rln (upr M 104 (b6 (M 104) (tmn M (13 + 6 * i) 1) (tmn M (13 + 6 * i) 2) c)) i) (upr M 104 (b6 (M 104) (tmn M (13 + 6 * i) 1) (tmn M (13 + 6 * i) 2) c) 104) (L 103 1)).1) = _
        rw [hln2, upr_s, ecg]
        exact congrArg (fun v => some (Value.int v)) (if_pos ⟨hb1, hb2⟩).symm
      obtain ⟨ρ, g2⟩ : ∃ ρ, μ' = (131, upr M 104 (b6 (M 104) (tmn M (13 + 6 * i) 1) (tmn M (13 + 6 * i) 2) c), up2 L 103 1 ρ, TT) := ⟨_, (hq i hi rfl).2⟩
      rw [g1, g2]
      exact fin _ _ _ _ hw2 rfl
    · rw [show b2 (b6 (M 104) (tmn M (13 + 6 * i) 1) (tmn M (13 + 6 * i) 2) c (tmn M (13 + 6 * i) 2) = r6 c) = 0 from b2_f hb2]
      have h9 := fin (b6 (M 104) (tmn M (13 + 6 * i) 1) (tmn M (13 + 6 * i) 2) c) 0 0 (L 103 1) hw2 (if_neg (fun z => hb2 z.2)).symm
      rw [eL] at h9
      exact ⟨fun _ => ⟨fun _ => h9, fun z => absurd rfl z⟩, fun z => absurd rfl z⟩
  · rw [show b2 (bdv (M 104) (tmn M (13 + 6 * i) 1) (c6 c) (tmn M (13 + 6 * i) 1) = c6 c) = 0 from b2_f hb1]
    have h9 := fin (bdv (M 104) (tmn M (13 + 6 * i) 1) (c6 c)) 0 0 (L 103 1) hw1 (if_neg (fun z => hb1 z.1)).symm
    rw [eL] at h9
    exact ⟨fun _ => ⟨fun _ => h9, fun z => absurd rfl z⟩, fun z => absurd rfl z⟩
