theorem fnw_cg {M : mM} {L L' : mL} {T : Nat → Int64} {n : Nat} (hn : n < 14) (hw : wR M n) : fnw M L' T n = fnw M L T n := by
  unfold fnw
  rw [mmt_cg (M := M) (M' := M) (L := upr L 8 T) (L' := upr L' 8 T) (fun _ _ => rfl) (by rw [upr_s, upr_s]) hn (wR_ln hw) _ (Nat.le_refl _)]
theorem faT_cg {M : mM} {L L' : mL} {aff str news : Int32} {T : Nat → Int64} (hw : ∀ i, i < 14 → wR M i) : ∀ n, n ≤ 14 → faT M L' aff str news T n = faT M L aff str news T n := by
  intro n
  induction n with
  | zero => intro _; rfl
  | succ n ih =>
    intro hn
    simp only [faT, ih (by omega), fnw_cg (L := L) (L' := L') (show n < 14 by omega) (hw n (by omega))]
theorem faG_cg {M : mM} {L L' : mL} {aff str news : Int32} {T : Nat → Int64} (hw : ∀ i, i < 14 → wR M i) : ∀ n, n ≤ 14 → faG M L' aff str news T n = faG M L aff str news T n := by
  intro n
  induction n with
  | zero => intro _; rfl
  | succ n ih =>
    intro hn
    simp only [faG, ih (by omega), faT_cg (L := L) (L' := L') hw n (by omega), fnw_cg (L := L) (L' := L') (show n < 14 by omega) (hw n (by omega))]
theorem stl_cg {M : mM} {L L' : mL} {aff str : Int32} (hw : ∀ i, i < 14 → wR M i) : ∀ n T news, stl M L' aff str n T news = stl M L aff str n T news := by
  intro n
  induction n with
  | zero => intro T news; rfl
  | succ n ih =>
    intro T news
    simp only [stl, ih, faT_cg (L := L) (L' := L') hw 14 (Nat.le_refl _), faG_cg (L := L) (L' := L') hw 14 (Nat.le_refl _)]
theorem memS {L : mL} {T T' : Nat → Int64} {ρ ρ' : Int64} : up2 (upr (up2 (upr L 8 T) 103 1 ρ) 8 T') 103 1 ρ' = up2 (upr L 8 T') 103 1 ρ' := by
  funext a b
  unfold up2 upr
  by_cases ha : a = 8
  · subst ha; simp
  · by_cases hb : a = 103 ∧ b = 1
    · simp [hb]
    · simp [ha, hb]
theorem memI {L : mL} : up2 (upr L 8 (L 8)) 103 1 (L 103 1) = L := by
  have : upr L 8 (L 8) = L := by
    funext a
    unfold upr
    by_cases ha : a = 8
    · rw [if_pos ha, ha]
    · rw [if_neg ha]
  rw [this]
  exact up2_id
def fol (M : mM) (L : mL) (aff : Int32) (T : Nat → Int64) : Nat → Nat → Int64
  | 0 => T
  | n + 1 => stl M L aff (nI n) 505 (fol M L aff T n) (-1)
theorem fol_cg {M : mM} {L L' : mL} {aff : Int32} {T : Nat → Int64} (hw : ∀ i, i < 14 → wR M i) : ∀ n, fol M L' aff T n = fol M L aff T n := by
  intro n
  induction n with
  | zero => rfl
  | succ n ih => simp only [fol, ih, stl_cg (L := L) (L' := L') hw]
theorem cch_cg {L L' : mL} (h8 : L' 8 = L 8) (h9 : L' 9 = L 9) : ∀ n, cch L' n = cch L n := by
  intro n
  induction n with
  | zero => rfl
  | succ n ih => simp only [cch, ih, h8, h9]
/-- the tuples that a change leaves -/
def fll (M : mM) (L : mL) (x : Int32) : Nat → Int64 := fol M L (afO M 14 x 0) (fun r => if r < 14 ∧ ¬ ibt (afO M 14 x 0) (nI r) = 0 then L 7 r else L 8 r) 6
def rfF (M : mM) (L : mL) (n : Nat) : mL := upr L 7 (fun r => if r < n then fo M (nI r) 12 else L 7 r)
def rfC (M : mM) (L : mL) : Nat → Int32
  | 0 => 0
  | n + 1 => if fo M (nI n) 12 = L 7 n then rfC M L n else rfC M L n ||| (1 <<< (nI n &&& 31))

theorem dn_DV_settle : y_DV_settle.cls ≠ "java/lang/invoke/MethodHandle" ∧ y_DV_settle.cls ≠ "java/lang/invoke/VarHandle" ∧ (parseMethodDescriptor y_DV_settle.desc).map (fun d => d.parameters.length) = some 4 := by decide +kernel
abbrev pr_DV_settle : List Value → Mm → Prop := preV 6 (fun k => a_RRII (fun x0 x1 x2 x3 μ => FM μ ∧ (k = 103 ∧ x0 = 5 ∧ x1 = 10 ∧ VR (μ.2.1 104) ∧ (∀ i, i < 14 → wR μ.2.1 i))))
abbrev po_DV_settle : List Value → Mm → Option Value → Mm → Prop := qV (fun k => b_RRII (fun x0 x1 x2 x3 μ r μ' => r = none ∧ ∃ ρ, μ' = (131, μ.2.1, up2 (upr μ.2.2.1 8 (stl μ.2.1 μ.2.2.1 x2 x3 505 (μ.2.2.1 8) (-1))) 103 1 ρ, TT)))
theorem ft_DV_settle : ∀ as μ, pr_DV_settle as μ → μ.1 + 0 ≤ 131 ∧ cz μ.1 + 0 ≤ cz 131 := hf_S (n := 131) (Nat.le_refl _) (fun as μ h => by
  obtain ⟨k, r, rfl, hk, h⟩ := preV_e h
  obtain ⟨x0, x1, x2, x3, rfl, h⟩ := a_RRII_e h
  exact h.1.1)
def C_DV_settle : Cf := fun id => match id with
  | 0 => trF (5 + 1) pr_DV_fireAll po_DV_fireAll
  | _ => fun _ _ _ => False
set_option maxRecDepth 100000 in
theorem cs_DV_settle (l : Launch) : ∀ x ∈ k_DV_settle, CS l R_DV b_DV_settle 7 (rmm 9 0 0) 131 131 C_DV_settle x := fc (CS.no rfl) (fc (CS.no rfl) (fc (CS.no rfl) (fc (CS.no rfl) (fc (CS.no rfl) (fc (CS.no rfl) (fc (CS.no rfl) (fc (CS.no rfl) (fc (CS.no rfl) (fc (CS.no rfl) (fc (CS.no rfl) (fc (CS.no rfl) (fc (CS.no rfl) (fc (CS.no rfl) (fc (CS.no rfl) (fc (CS.V c_DV_fireAll wk_DV_fireAll wl_DV_18 wm_DV_fireAll we_DV_fireAll rfl rfl wi_DV dn_DV_fireAll ⟨rfl, rfl⟩ ⟨by decide, by decide⟩ ft_DV_fireAll rfl (e_DV_settle_27).1) (fc (CS.no rfl) (fc (CS.no rfl) (fc (CS.no rfl) (fc (CS.no rfl) (fun _ h => absurd h List.not_mem_nil))))))))))))))))))))
set_option maxRecDepth 100000 in
set_option maxHeartbeats 4000000 in
theorem c_DV_settle : Cn y_DV_settle b_DV_settle 7 none (rmm 9 0 0) (4 + 1) 0 0 pr_DV_settle po_DV_settle := cv_RRII (ci := 6) (f := fun k => fun x0 x1 x2 x3 μ => FM μ ∧ (k = 103 ∧ x0 = 5 ∧ x1 = 10 ∧ VR (μ.2.1 104) ∧ (∀ i, i < 14 → wR μ.2.1 i))) (g := fun k => fun x0 x1 x2 x3 μ r μ' => r = none ∧ ∃ ρ, μ' = (131, μ.2.1, up2 (upr μ.2.2.1 8 (stl μ.2.1 μ.2.2.1 x2 x3 505 (μ.2.2.1 8) (-1))) 103 1 ρ, TT)) fun l k x0 x1 x2 x3 μ hk h => by
  obtain ⟨hm, h⟩ := h
  obtain ⟨M, L, rfl⟩ := hm.e
  refine ky_met (own := R_DV) (ini := 0) (rb := 3) (nE := 131) (cd := k_DV_settle) (C := C_DV_settle) (by decide) rfl (fun h => by cases h) (Nat.le_of_ble_eq_true rfl) ⟨rfl, rfl⟩ (Or.inr (Or.inr (Or.inr ⟨rfl, rfl⟩))) rfl rfl (by decide) ok_DV_settle (cs_DV_settle l) rt_DV_settle (fun K hs => ?_)
  obtain ⟨rfl, rfl, rfl, hv, hw⟩ := h
  have hv : VR (M 104) := hv
  have hw : ∀ i, i < 14 → wR M i := hw
  have loop : ∀ (d c : Nat) (T : Nat → Int64) (news : Int32) (ρ : Int64), c + d = 505 → stl M L x2 x3 d T news = stl M L x2 x3 505 (L 8) (-1) → K 6 [some (.ref 103), some (.ref 5), some (.ref 10), some (.int x2), some (.int x3), some (.int news), some (.int (nI c))] [] (131, M, up2 (upr L 8 T) 103 1 ρ, TT) := by
    intro d
    induction d with
    | zero =>
      intro c T news ρ hc hr
      rw [show c = 505 by omega]
      exact hs.go [6] 60 _ _ _ _ ⟨fun _ => ⟨rfl, rfl, ρ, by rw [← hr]; rfl⟩, fun z => absurd (by decide) z⟩
    | succ d ih =>
      intro c T news ρ hc hr
      refine hs.go [6] 60 _ _ _ _ ⟨fun z => absurd z (nI_ge (a := c) (b := 505) (by omega) (by decide)), fun _ => ⟨fun hz => ⟨rfl, rfl, ρ, by rw [← hr]; simp only [stl, if_pos hz]⟩, fun hz => ⟨⟨rfl, ⟨rfl, rfl⟩, rfl, rfl, rfl, hv, hw⟩, rfl, rfl, ?_⟩⟩⟩
      intro r μ' hq
      obtain ⟨q1, ρ', q2⟩ := hq
      have g1 : r = some (.int (faG M L x2 x3 news T 14)) := by
        refine q1.trans ?_
        show some (Value.int (faG M (up2 (upr L 8 T) 103 1 ρ) x2 x3 news (up2 (upr L 8 T) 103 1 ρ 8) 14)) = _
        rw [upL8, faG_cg (L := L) hw 14 (Nat.le_refl _)]
      have g2 : μ' = (131, M, up2 (upr L 8 (faT M L x2 x3 news T 14)) 103 1 ρ', TT) := by
        refine q2.trans ?_
        show (131, M, up2 (upr (up2 (upr L 8 T) 103 1 ρ) 8 (faT M (up2 (upr L 8 T) 103 1 ρ) x2 x3 news (up2 (upr L 8 T) 103 1 ρ 8) 14)) 103 1 ρ', TT) = _
        rw [upL8, faT_cg (L := L) hw 14 (Nat.le_refl _), memS]
      rw [g1, g2]
      have h9 := ih (c + 1) (faT M L x2 x3 news T 14) (faG M L x2 x3 news T 14) ρ' (by omega) (by rw [← hr]; simp only [stl, if_neg hz])
      rw [nI_succ] at h9
      exact h9
  have h0 := loop 505 0 (L 8) (-1) (L 103 1) rfl rfl
  rw [memI] at h0
  exact hs.go [6] 60 _ _ _ _ h0

theorem dn_PF_follow : y_PF_follow.cls ≠ "java/lang/invoke/MethodHandle" ∧ y_PF_follow.cls ≠ "java/lang/invoke/VarHandle" ∧ (parseMethodDescriptor y_PF_follow.desc).map (fun d => d.parameters.length) = some 1 := by decide +kernel
abbrev pr_PF_follow : List Value → Mm → Prop := preV 0 (fun k => a_I (fun x0 μ => FM μ ∧ (k = 0 ∧ VR (μ.2.1 104) ∧ (∀ i, i < 14 → wR μ.2.1 i))))
abbrev po_PF_follow : List Value → Mm → Option Value → Mm → Prop := qV (fun k => b_I (fun x0 μ r μ' => r = none ∧ ∃ ρ, μ' = (131, up2 μ.2.1 0 5 (cch (upr (upr μ.2.2.1 9 (μ.2.2.1 8)) 8 (fll μ.2.1 μ.2.2.1 x0)) 14), up2 (upr (upr μ.2.2.1 9 (μ.2.2.1 8)) 8 (fll μ.2.1 μ.2.2.1 x0)) 103 1 ρ, TT)))
theorem ft_PF_follow : ∀ as μ, pr_PF_follow as μ → μ.1 + 0 ≤ 131 ∧ cz μ.1 + 0 ≤ cz 131 := hf_S (n := 131) (Nat.le_refl _) (fun as μ h => by
  obtain ⟨k, r, rfl, hk, h⟩ := preV_e h
  obtain ⟨x0, rfl, h⟩ := a_I_e h
  exact h.1.1)
def C_PF_follow : Cf := fun id => match id with
  | 0 => trF (1 + 1) pr_RB_affectedBy po_RB_affectedBy
  | 1 => trF (0 + 1) pr_RS_remember po_RS_remember
  | 2 => trF (1 + 1) pr_RS_returnToFacts po_RS_returnToFacts
  | 3 => trF (4 + 1) pr_DV_settle po_DV_settle
  | 4 => trF (0 + 1) pr_RS_countChanges po_RS_countChanges
  | _ => fun _ _ _ => False
set_option maxRecDepth 100000 in
theorem cs_PF_follow (l : Launch) : ∀ x ∈ k_PF_follow, CS l R_PF b_PF_follow 4 (rmm 10 0 0) 131 131 C_PF_follow x := fc (CS.no rfl) (fc (CS.no rfl) (fc (CS.no rfl) (fc (CS.V c_RB_affectedBy wk_RB_affectedBy wl_PF_210 wm_RB_affectedBy we_RB_affectedBy rfl rfl wi_RB dn_RB_affectedBy ⟨rfl, rfl⟩ ⟨by decide, by decide⟩ ft_RB_affectedBy rfl (e_PF_follow_5).1) (fc (CS.no rfl) (fc (CS.no rfl) (fc (CS.no rfl) (fc (CS.V c_RS_remember wk_RS_remember wl_PF_213 wm_RS_remember we_RS_remember rfl rfl wi_RS dn_RS_remember ⟨rfl, rfl⟩ ⟨by decide, by decide⟩ ft_RS_remember rfl (e_PF_follow_13).1) (fc (CS.no rfl) (fc (CS.no rfl) (fc (CS.no rfl) (fc (CS.V c_RS_returnToFacts wk_RS_returnToFacts wl_PF_216 wm_RS_returnToFacts we_RS_returnToFacts rfl rfl wi_RS dn_RS_returnToFacts ⟨rfl, rfl⟩ ⟨by decide, by decide⟩ ft_RS_returnToFacts rfl (e_PF_follow_21).1) (fc (CS.no rfl) (fc (CS.no rfl) (fc (CS.no rfl) (fc (CS.no rfl) (fc (CS.no rfl) (fc (CS.no rfl) (fc (CS.no rfl) (fc (CS.no rfl) (fc (CS.no rfl) (fc (CS.no rfl) (fc (CS.no rfl) (fc (CS.no rfl) (fc (CS.no rfl) (fc (CS.V c_DV_settle wk_DV_settle wl_PF_219 wm_DV_settle we_DV_settle rfl rfl wi_DV dn_DV_settle ⟨rfl, rfl⟩ ⟨by decide, by decide⟩ ft_DV_settle rfl (e_PF_follow_46).1) (fc (CS.no rfl) (fc (CS.no rfl) (fc (CS.no rfl) (fc (CS.no rfl) (fc (CS.no rfl) (fc (CS.V c_RS_countChanges wk_RS_countChanges wl_PF_223 wm_RS_countChanges we_RS_countChanges rfl rfl wi_RS dn_RS_countChanges ⟨rfl, rfl⟩ ⟨by decide, by decide⟩ ft_RS_countChanges rfl (e_PF_follow_60).1) (fc (CS.no rfl) (fc (CS.no rfl) (fun _ h => absurd h List.not_mem_nil))))))))))))))))))))))))))))))))))
set_option maxRecDepth 100000 in
set_option maxHeartbeats 4000000 in
theorem c_PF_follow : Cn y_PF_follow b_PF_follow 4 none (rmm 10 0 0) (1 + 1) 0 0 pr_PF_follow po_PF_follow := cv_I (ci := 0) (f := fun k => fun x0 μ => FM μ ∧ (k = 0 ∧ VR (μ.2.1 104) ∧ (∀ i, i < 14 → wR μ.2.1 i))) (g := fun k => fun x0 μ r μ' => r = none ∧ ∃ ρ, μ' = (131, up2 μ.2.1 0 5 (cch (upr (upr μ.2.2.1 9 (μ.2.2.1 8)) 8 (fll μ.2.1 μ.2.2.1 x0)) 14), up2 (upr (upr μ.2.2.1 9 (μ.2.2.1 8)) 8 (fll μ.2.1 μ.2.2.1 x0)) 103 1 ρ, TT)) fun l k x0 μ hk h => by
  obtain ⟨hm, h⟩ := h
  obtain ⟨M, L, rfl⟩ := hm.e
  refine ky_met (own := R_PF) (ini := 0) (rb := 3) (nE := 131) (cd := k_PF_follow) (C := C_PF_follow) (by decide) rfl (fun h => by cases h) (Nat.le_of_ble_eq_true rfl) ⟨rfl, rfl⟩ (Or.inr (Or.inr (Or.inr ⟨rfl, rfl⟩))) rfl rfl (by decide) ok_PF_follow (cs_PF_follow l) rt_PF_follow (fun K hs => ?_)
  obtain ⟨rfl, hv, hw⟩ := h
  have hv : VR (M 104) := hv
  have hw : ∀ i, i < 14 → wR M i := hw
  have e9 : (upr L 9 (L 8)) 8 = L 8 := upr_k (by decide)
  have e7 : (upr L 9 (L 8)) 7 = L 7 := upr_k (by decide)
  have e0 : rtf (upr L 9 (L 8)) (afO M 14 x0 0) 14 = upr (upr L 9 (L 8)) 8 (fun r => if r < 14 ∧ ¬ ibt (afO M 14 x0 0) (nI r) = 0 then L 7 r else L 8 r) := by
    unfold rtf
    rw [e7, e9]
  have loop : ∀ (d c : Nat) (ρ : Int64), c + d = 6 → K 26 [some (.ref 0), some (.int x0), some (.int (afO M 14 x0 0)), some (.int (nI c))] [] (131, M, up2 (upr (upr L 9 (L 8)) 8 (fol M L (afO M 14 x0 0) (fun r => if r < 14 ∧ ¬ ibt (afO M 14 x0 0) (nI r) = 0 then L 7 r else L 8 r) c)) 103 1 ρ, TT) := by
    intro d
    induction d with
    | zero =>
      intro c ρ hc
      rw [show c = 6 by omega]
      refine hs.go [26] 60 _ _ _ _ ⟨fun _ => ⟨rfl, _, rfl, ⟨rfl, ⟨rfl, rfl⟩, rfl⟩, rfl, rfl, ?_⟩, fun z => absurd (Int32.le_refl _) z⟩
      rintro _ _ ⟨rfl, rfl⟩
      refine ⟨rfl, rfl, rfl, ρ, ?_⟩
      show (131, up2 M 0 5 (cch (up2 (upr (upr L 9 (L 8)) 8 (fll M L x0)) 103 1 ρ) 14), up2 (upr (upr L 9 (L 8)) 8 (fll M L x0)) 103 1 ρ, TT) = _
      rw [cch_cg (L := upr (upr L 9 (L 8)) 8 (fll M L x0)) (up2_k (by decide)) (up2_k (by decide))]
    | succ d ih =>
      intro c ρ hc
      refine hs.go [26] 60 _ _ _ _ ⟨fun z => absurd z (nI_ge (a := c) (b := 6) (by omega) (by decide)), fun _ => ⟨rfl, _, rfl, rfl, _, rfl, rfl, _, rfl, ⟨rfl, ⟨rfl, rfl⟩, rfl, rfl, rfl, hv, hw⟩, rfl, rfl, ?_⟩⟩
      intro r μ' hq
      obtain ⟨q1, ρ', q2⟩ := hq
      have g2 : μ' = (131, M, up2 (upr (upr L 9 (L 8)) 8 (fol M L (afO M 14 x0 0) (fun r => if r < 14 ∧ ¬ ibt (afO M 14 x0 0) (nI r) = 0 then L 7 r else L 8 r) (c + 1))) 103 1 ρ', TT) := by
        refine q2.trans ?_
        show (131, M, up2 (upr (up2 (upr (upr L 9 (L 8)) 8 (fol M L (afO M 14 x0 0) _ c)) 103 1 ρ) 8 (stl M (up2 (upr (upr L 9 (L 8)) 8 (fol M L (afO M 14 x0 0) _ c)) 103 1 ρ) (afO M 14 x0 0) (nI c) 505 (up2 (upr (upr L 9 (L 8)) 8 (fol M L (afO M 14 x0 0) _ c)) 103 1 ρ 8) (-1))) 103 1 ρ', TT) = _
        rw [upL8, memS, stl_cg (L := L) hw]
        rfl
      rw [q1, g2]
      have h9 := ih (c + 1) ρ' (by omega)
      rw [nI_succ] at h9
      exact h9
  refine hs.go [26] 60 _ _ _ _ ⟨rfl, _, rfl, ⟨rfl, ⟨rfl, rfl⟩, rfl⟩, rfl, rfl, ?_⟩
  rintro _ _ ⟨rfl, rfl⟩
  refine ⟨rfl, _, rfl, ⟨rfl, ⟨rfl, rfl⟩, rfl⟩, rfl, rfl, ?_⟩
  rintro _ _ ⟨rfl, rfl⟩
  refine ⟨rfl, _, rfl, ⟨rfl, ⟨rfl, rfl⟩, rfl⟩, rfl, rfl, ?_⟩
  rintro _ _ ⟨rfl, rfl⟩
  have h0 := loop 6 0 (L 103 1) rfl
  show K 26 _ _ (131, M, rtf (upr L 9 (L 8)) (afO M 14 x0 0) 14, TT)
  rw [e0]
  have e5 : up2 (upr (upr L 9 (L 8)) 8 (fol M L (afO M 14 x0 0) (fun r => if r < 14 ∧ ¬ ibt (afO M 14 x0 0) (nI r) = 0 then L 7 r else L 8 r) 0)) 103 1 (L 103 1) = upr (upr L 9 (L 8)) 8 (fun r => if r < 14 ∧ ¬ ibt (afO M 14 x0 0) (nI r) = 0 then L 7 r else L 8 r) := by
    have : (upr (upr L 9 (L 8)) 8 (fun r => if r < 14 ∧ ¬ ibt (afO M 14 x0 0) (nI r) = 0 then L 7 r else L 8 r)) 103 1 = L 103 1 := by rw [upr_k (by decide), upr_k (by decide)]
    rw [← this]
    exact up2_id
  rw [e5] at h0
  exact h0

theorem dn_PF_readFacts : y_PF_readFacts.cls ≠ "java/lang/invoke/MethodHandle" ∧ y_PF_readFacts.cls ≠ "java/lang/invoke/VarHandle" ∧ (parseMethodDescriptor y_PF_readFacts.desc).map (fun d => d.parameters.length) = some 0 := by decide +kernel
abbrev pr_PF_readFacts : List Value → Mm → Prop := preV 0 (fun k => a_0 (fun μ => FM μ ∧ (k = 0)))
abbrev po_PF_readFacts : List Value → Mm → Option Value → Mm → Prop := qV (fun k => b_0 (fun μ r μ' => r = some (.int (rfC μ.2.1 μ.2.2.1 6)) ∧ μ' = (131, μ.2.1, rfF μ.2.1 μ.2.2.1 6, TT)))
theorem ft_PF_readFacts : ∀ as μ, pr_PF_readFacts as μ → μ.1 + 0 ≤ 131 ∧ cz μ.1 + 0 ≤ cz 131 := hf_S (n := 131) (Nat.le_refl _) (fun as μ h => by
  obtain ⟨k, r, rfl, hk, h⟩ := preV_e h
  obtain ⟨rfl, h⟩ := a_0_e h
  exact h.1.1)
def C_PF_readFacts : Cf := fun id => match id with
  | 0 => trF (1 + 1) pr_PG_factsOf po_PG_factsOf
  | _ => fun _ _ _ => False
set_option maxRecDepth 100000 in
theorem cs_PF_readFacts (l : Launch) : ∀ x ∈ k_PF_readFacts, CS l R_PF b_PF_readFacts 5 (rmm 2 0 0) 131 131 C_PF_readFacts x := fc (CS.no rfl) (fc (CS.no rfl) (fc (CS.no rfl) (fc (CS.no rfl) (fc (CS.no rfl) (fc (CS.no rfl) (fc (CS.no rfl) (fc (CS.no rfl) (fc (CS.no rfl) (fc (CS.no rfl) (fc (CS.V c_PG_factsOf wk_PG_factsOf wl_PF_203 wm_PG_factsOf we_PG_factsOf rfl rfl wi_PG dn_PG_factsOf ⟨rfl, rfl⟩ ⟨by decide, by decide⟩ ft_PG_factsOf rfl (e_PF_readFacts_15).1) (fc (CS.no rfl) (fc (CS.no rfl) (fc (CS.no rfl) (fc (CS.no rfl) (fc (CS.no rfl) (fc (CS.no rfl) (fc (CS.no rfl) (fc (CS.no rfl) (fc (CS.no rfl) (fc (CS.no rfl) (fc (CS.no rfl) (fc (CS.no rfl) (fc (CS.no rfl) (fc (CS.no rfl) (fc (CS.no rfl) (fc (CS.no rfl) (fc (CS.no rfl) (fc (CS.no rfl) (fc (CS.no rfl) (fc (CS.no rfl) (fc (CS.no rfl) (fc (CS.no rfl) (fc (CS.no rfl) (fc (CS.no rfl) (fc (CS.no rfl) (fun _ h => absurd h List.not_mem_nil))))))))))))))))))))))))))))))))))))
set_option maxRecDepth 100000 in
set_option maxHeartbeats 4000000 in
theorem c_PF_readFacts : Cn y_PF_readFacts b_PF_readFacts 5 (some .int) (rmm 2 0 0) (0 + 1) 0 0 pr_PF_readFacts po_PF_readFacts := cv_0 (ci := 0) (f := fun k => fun μ => FM μ ∧ (k = 0)) (g := fun k => fun μ r μ' => r = some (.int (rfC μ.2.1 μ.2.2.1 6)) ∧ μ' = (131, μ.2.1, rfF μ.2.1 μ.2.2.1 6, TT)) fun l k  μ hk h => by
  obtain ⟨hm, h⟩ := h
  obtain ⟨M, L, rfl⟩ := hm.e
  refine ky_met (own := R_PF) (ini := 0) (rb := 0) (nE := 131) (cd := k_PF_readFacts) (C := C_PF_readFacts) (by decide) rfl (fun h => by cases h) (Nat.le_of_ble_eq_true rfl) ⟨rfl, rfl⟩ (Or.inl ⟨rfl, rfl⟩) rfl rfl (by decide) ok_PF_readFacts (cs_PF_readFacts l) rt_PF_readFacts (fun K hs => ?_)
  subst h
  have loop : ∀ (d c : Nat), c + d = 6 → ∀ (y3 : Option Value), K 4 [some (.ref 0), some (.int (rfC M L c)), some (.int (nI c)), y3, none] [] (131, M, rfF M L c, TT) := by
    intro d
    induction d with
    | zero =>
      intro c hc y3
      rw [show c = 6 by omega]
      exact hs.go [4] 60 _ _ _ _ ⟨fun _ => ⟨rfl, fun z => (by cases z), rfl, rfl⟩, fun z => absurd (Int32.le_refl _) z⟩
    | succ d ih =>
      intro c hc y3
      have hin : vp_in (nI c) 14 := vp_in_nI (by omega) (by decide)
      have hcl : (nI c).toNatClampNeg = c := nI_clamp (n := c) (by omega)
      have h9 := ih (c + 1) (by omega) (some (.long (fo M (nI c) 12)))
      rw [nI_succ] at h9
      have ef : rfF M L c 7 (nI c).toNatClampNeg = L 7 c := by
        rw [hcl]
        unfold rfF
        rw [upr_s]
        exact if_neg (by omega)
      have es : rfF M L (c + 1) = up2 (rfF M L c) 7 c (fo M (nI c) 12) := by
        funext a b
        unfold rfF up2 upr
        by_cases ha : a = 7
        · subst ha
          by_cases hb : b = c
          · subst hb; simp
          · have : (b < c + 1) ↔ b < c := by omega
            simp [hb, this]
        · simp [ha]
      refine hs.go [4] 60 _ _ _ _ ⟨fun z => absurd z (nI_ge (a := c) (b := 6) (by omega) (by decide)), fun _ => ⟨rfl, _, rfl, ⟨rfl, ⟨rfl, rfl⟩, rfl⟩, rfl, rfl, ?_⟩⟩
      rintro _ _ ⟨rfl, rfl⟩
      refine ⟨rfl, rfl, _, rfl, rfl, _, rfl, rfl, hin, fun hz => ?_, fun hz => ⟨rfl, _, rfl, rfl, _, rfl, rfl, hin, ?_⟩⟩
      · have hz : fo M (nI c) 12 = L 7 c := (cmpE.mp hz).trans ef
        have e2 : rfF M L (c + 1) = rfF M L c := by
          rw [es, hz, ← ef, hcl]
          exact up2_id
        simp only [rfC, if_pos hz] at h9
        rw [e2] at h9
        exact h9
      · have hz : ¬ fo M (nI c) 12 = L 7 c := fun z => hz (cmpE.mpr (z.trans ef.symm))
        simp only [rfC, if_neg hz] at h9
        rw [es] at h9
        show K 4 _ _ (131, M, up2 (rfF M L c) 7 (nI c).toNatClampNeg (fo M (nI c) 12), TT)
        rw [hcl]
        exact h9
  have h0 := loop 6 0 rfl none
  have e0 : rfF M L 0 = L := by
    funext a b
    unfold rfF upr
    by_cases ha : a = 7
    · subst ha; simp
    · simp [ha]
  rw [e0] at h0
  exact hs.go [4] 60 _ _ _ _ h0
