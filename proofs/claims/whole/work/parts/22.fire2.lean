theorem cmpE {a b : Int64} : lg_cmp a b = 0 ↔ a = b := by
  unfold lg_cmp
  constructor
  · intro h
    by_cases h1 : a > b
    · rw [if_pos h1] at h; exact absurd h (by decide)
    · rw [if_neg h1] at h
      by_cases h2 : a = b
      · exact h2
      · rw [if_neg h2] at h; exact absurd h (by decide)
  · intro h
    subst h
    rw [if_neg (Int64.lt_irrefl), if_pos rfl]
def fcd (M : mM) (aff str news : Int32) (n : Nat) : Prop := (¬ M (12 + 6 * n) 4 = 0 ∧ ¬ ibt aff (M (13 + 6 * n) 0) = 0 ∧ M 96 (rhd M n) = str) ∧ (M (12 + 6 * n) 2 = 0 ∨ ¬ M (12 + 6 * n) 3 &&& news = 0)
def fnw (M : mM) (L : mL) (T : Nat → Int64) (n : Nat) : Int64 := (mmt M (upr L 8 T) n (rln M n) (rln M n) (M 104) (T (rhd M n))).2
def fcB (M : mM) (aff str news : Int32) (n : Nat) : Bool := (decide (¬ M (12 + 6 * n) 4 = 0) && decide (¬ ibt aff (M (13 + 6 * n) 0) = 0) && decide (M 96 (rhd M n) = str)) && (decide (M (12 + 6 * n) 2 = 0) || decide (¬ M (12 + 6 * n) 3 &&& news = 0))
theorem fcB_e {M : mM} {aff str news : Int32} {n : Nat} : fcB M aff str news n = true ↔ fcd M aff str news n := by
  unfold fcB fcd
  simp [and_assoc]
def faT (M : mM) (L : mL) (aff str news : Int32) (T : Nat → Int64) : Nat → Nat → Int64
  | 0 => T
  | n + 1 => if fcB M aff str news n = true then vp_updL (faT M L aff str news T n) (rhd M n) (fnw M L (faT M L aff str news T n) n) else faT M L aff str news T n

def gbt (a b : Int64) (h : Int32) : Int32 := if a = b then 0 else 1 <<< (h &&& 31)
def faG (M : mM) (L : mL) (aff str news : Int32) (T : Nat → Int64) : Nat → Int32
  | 0 => 0
  | n + 1 => if fcB M aff str news n = true then faG M L aff str news T n ||| gbt (fnw M L (faT M L aff str news T n) n) (faT M L aff str news T n (rhd M n)) (M (13 + 6 * n) 0) else faG M L aff str news T n
def stl (M : mM) (L : mL) (aff str : Int32) : Nat → (Nat → Int64) → Int32 → Nat → Int64
  | 0, T, _ => T
  | n + 1, T, news => if news = 0 then T else stl M L aff str n (faT M L aff str news T 14) (faG M L aff str news T 14)
theorem upL8 {L : mL} {T : Nat → Int64} {ρ : Int64} : up2 (upr L 8 T) 103 1 ρ 8 = T := by
  rw [up2_k (by decide), upr_s]
theorem memF {L : mL} {T : Nat → Int64} {w : Int64} {h : Nat} : up2 (up2 (upr L 8 T) 103 1 w) 8 h w = up2 (upr L 8 (vp_updL T h w)) 103 1 w := by
  funext a b
  unfold up2 upr vp_updL
  by_cases ha : a = 8
  · subst ha
    by_cases hb : b = h
    · simp [hb]
    · simp [hb]
  · simp [ha]

theorem dn_DV_fireAll : y_DV_fireAll.cls ≠ "java/lang/invoke/MethodHandle" ∧ y_DV_fireAll.cls ≠ "java/lang/invoke/VarHandle" ∧ (parseMethodDescriptor y_DV_fireAll.desc).map (fun d => d.parameters.length) = some 5 := by decide +kernel
abbrev pr_DV_fireAll : List Value → Mm → Prop := preV 6 (fun k => a_RRIII (fun x0 x1 x2 x3 x4 μ => FM μ ∧ (k = 103 ∧ x0 = 5 ∧ x1 = 10 ∧ VR (μ.2.1 104) ∧ (∀ i, i < 14 → wR μ.2.1 i))))
abbrev po_DV_fireAll : List Value → Mm → Option Value → Mm → Prop := qV (fun k => b_RRIII (fun x0 x1 x2 x3 x4 μ r μ' => r = some (.int (faG μ.2.1 μ.2.2.1 x2 x3 x4 (μ.2.2.1 8) 14)) ∧ ∃ ρ, μ' = (131, μ.2.1, up2 (upr μ.2.2.1 8 (faT μ.2.1 μ.2.2.1 x2 x3 x4 (μ.2.2.1 8) 14)) 103 1 ρ, TT)))
theorem ft_DV_fireAll : ∀ as μ, pr_DV_fireAll as μ → μ.1 + 0 ≤ 131 ∧ cz μ.1 + 0 ≤ cz 131 := hf_S (n := 131) (Nat.le_refl _) (fun as μ h => by
  obtain ⟨k, r, rfl, hk, h⟩ := preV_e h
  obtain ⟨x0, x1, x2, x3, x4, rfl, h⟩ := a_RRIII_e h
  exact h.1.1)
def C_DV_fireAll : Cf := fun id => match id with
  | 0 => trF 2 pr_PF_isIn po_PF_isIn
  | 1 => trF (3 + 1) pr_DV_matchFrom po_DV_matchFrom
  | _ => fun _ _ _ => False
set_option maxRecDepth 100000 in
theorem cs_DV_fireAll (l : Launch) : ∀ x ∈ k_DV_fireAll, CS l R_DV b_DV_fireAll 14 (rmm 8 0 0) 131 131 C_DV_fireAll x := fc (CS.no rfl) (fc (CS.no rfl) (fc (CS.no rfl) (fc (CS.no rfl) (fc (CS.no rfl) (fc (CS.no rfl) (fc (CS.no rfl) (fc (CS.no rfl) (fc (CS.no rfl) (fc (CS.no rfl) (fc (CS.no rfl) (fc (CS.no rfl) (fc (CS.no rfl) (fc (CS.no rfl) (fc (CS.no rfl) (fc (CS.no rfl) (fc (CS.no rfl) (fc (CS.no rfl) (fc (CS.no rfl) (fc (CS.no rfl) (fc (CS.no rfl) (fc (CS.SN c_PF_isIn wk_PF_isIn (host := R_PF) (List.mem_of_getElem? (i := 5) rfl) wt_PF_isIn wi_PF dn_PF_isIn ⟨rfl, rfl⟩ ⟨by decide, by decide⟩ ft_PF_isIn rfl (e_DV_fireAll_43).1) (fc (CS.no rfl) (fc (CS.no rfl) (fc (CS.no rfl) (fc (CS.no rfl) (fc (CS.no rfl) (fc (CS.no rfl) (fc (CS.no rfl) (fc (CS.no rfl) (fc (CS.no rfl) (fc (CS.no rfl) (fc (CS.no rfl) (fc (CS.no rfl) (fc (CS.no rfl) (fc (CS.no rfl) (fc (CS.no rfl) (fc (CS.no rfl) (fc (CS.no rfl) (fc (CS.no rfl) (fc (CS.no rfl) (fc (CS.no rfl) (fc (CS.no rfl) (fc (CS.no rfl) (fc (CS.no rfl) (fc (CS.no rfl) (fc (CS.no rfl) (fc (CS.no rfl) (fc (CS.no rfl) (fc (CS.no rfl) (fc (CS.no rfl) (fc (CS.no rfl) (fc (CS.no rfl) (fc (CS.no rfl) (fc (CS.no rfl) (fc (CS.no rfl) (fc (CS.no rfl) (fc (CS.no rfl) (fc (CS.no rfl) (fc (CS.no rfl) (fc (CS.no rfl) (fc (CS.V c_DV_matchFrom wk_DV_matchFrom wl_DV_41 wm_DV_matchFrom we_DV_matchFrom rfl rfl wi_DV dn_DV_matchFrom ⟨rfl, rfl⟩ ⟨by decide, by decide⟩ ft_DV_matchFrom rfl (e_DV_fireAll_124).1) (fc (CS.no rfl) (fc (CS.no rfl) (fc (CS.no rfl) (fc (CS.no rfl) (fc (CS.no rfl) (fc (CS.no rfl) (fc (CS.no rfl) (fc (CS.no rfl) (fc (CS.no rfl) (fc (CS.no rfl) (fc (CS.no rfl) (fc (CS.no rfl) (fc (CS.no rfl) (fc (CS.no rfl) (fc (CS.no rfl) (fc (CS.no rfl) (fc (CS.no rfl) (fc (CS.no rfl) (fc (CS.no rfl) (fc (CS.no rfl) (fc (CS.no rfl) (fc (CS.no rfl) (fc (CS.no rfl) (fc (CS.no rfl) (fun _ h => absurd h List.not_mem_nil))))))))))))))))))))))))))))))))))))))))))))))))))))))))))))))))))))))))))))))))))))))
set_option maxRecDepth 100000 in
set_option maxHeartbeats 4000000 in
theorem c_DV_fireAll : Cn y_DV_fireAll b_DV_fireAll 14 (some .int) (rmm 8 0 0) (5 + 1) 0 0 pr_DV_fireAll po_DV_fireAll := cv_RRIII (ci := 6) (f := fun k => fun x0 x1 x2 x3 x4 μ => FM μ ∧ (k = 103 ∧ x0 = 5 ∧ x1 = 10 ∧ VR (μ.2.1 104) ∧ (∀ i, i < 14 → wR μ.2.1 i))) (g := fun k => fun x0 x1 x2 x3 x4 μ r μ' => r = some (.int (faG μ.2.1 μ.2.2.1 x2 x3 x4 (μ.2.2.1 8) 14)) ∧ ∃ ρ, μ' = (131, μ.2.1, up2 (upr μ.2.2.1 8 (faT μ.2.1 μ.2.2.1 x2 x3 x4 (μ.2.2.1 8) 14)) 103 1 ρ, TT)) fun l k x0 x1 x2 x3 x4 μ hk h => by
  obtain ⟨hm, h⟩ := h
  obtain ⟨M, L, rfl⟩ := hm.e
  refine ky_met (own := R_DV) (ini := 0) (rb := 0) (nE := 131) (cd := k_DV_fireAll) (C := C_DV_fireAll) (by decide) rfl (fun h => by cases h) (Nat.le_of_ble_eq_true rfl) ⟨rfl, rfl⟩ (Or.inl ⟨rfl, rfl⟩) rfl rfl (by decide) ok_DV_fireAll (cs_DV_fireAll l) rt_DV_fireAll (fun K hs => ?_)
  obtain ⟨rfl, rfl, rfl, hv, hw⟩ := h
  have hv : VR (M 104) := hv
  have hw : ∀ i, i < 14 → wR M i := hw
  have loop : ∀ (d n : Nat), n + d = 14 → ∀ (ρ : Int64) (y8 y9 y10 y11 y12 y13 : Option Value), K 6 [some (.ref 103), some (.ref 5), some (.ref 10), some (.int x2), some (.int x3), some (.int x4), some (.int (faG M L x2 x3 x4 (L 8) n)), some (.int (nI n)), y8, y9, y10, y11, y12, y13] [] (131, M, up2 (upr L 8 (faT M L x2 x3 x4 (L 8) n)) 103 1 ρ, TT) := by
    intro d
    induction d with
    | zero =>
      intro n hn ρ y8 y9 y10 y11 y12 y13
      rw [show n = 14 by omega]
      exact hs.go [6] 60 _ _ _ _ ⟨fun _ => ⟨rfl, fun z => (by cases z), rfl, ρ, rfl⟩, fun z => absurd (Int32.le_refl _) z⟩
    | succ d ih =>
      intro n hn ρ y8 y9 y10 y11 y12 y13
      have hn14 : n < 14 := by omega
      have hin : vp_in (nI n) 14 := vp_in_nI hn14 (by decide)
      have hcl : (nI n).toNatClampNeg = n := nI_clamp (n := n) (by omega)
      have hwn := hw n hn14
      have hrel := hwn.2.2.1.1
      have hioR : ∀ L' : mL, isO (131, M, L', TT) (12 + 6 * n) 4 = true := fun L' => ioR hn14
      have hioH : ∀ L' : mL, isO (131, M, L', TT) (13 + 6 * n) 5 = true := fun L' => ioH hn14
      have no : ¬ fcd M x2 x3 x4 n → ∀ (h e : Int32) (y12 y13 : Option Value), K 162 [some (.ref 103), some (.ref 5), some (.ref 10), some (.int x2), some (.int x3), some (.int x4), some (.int (faG M L x2 x3 x4 (L 8) n)), some (.int (nI n)), some (.ref (12 + 6 * n)), some (.int (M (13 + 6 * n) 0)), some (.int h), some (.int e), y12, y13] [] (131, M, up2 (upr L 8 (faT M L x2 x3 x4 (L 8) n)) 103 1 ρ, TT) := by
        intro hc h e y12 y13
        have hcb : ¬ fcB M x2 x3 x4 n = true := fun z => hc (fcB_e.mp z)
        have h9 := ih (n + 1) (by omega) ρ (some (.ref (12 + 6 * n))) (some (.int (M (13 + 6 * n) 0))) (some (.int h)) (some (.int e)) y12 y13
        rw [nI_succ] at h9
        simp only [faG, faT, if_neg hcb] at h9
        exact hs.go [6, 162] 60 _ _ _ _ h9
      have s92 : ∀ (h : Int32) (e : Int32), ((h = 1 ∧ (¬ M (12 + 6 * n) 4 = 0 ∧ ¬ ibt x2 (M (13 + 6 * n) 0) = 0 ∧ M 96 (rhd M n) = x3)) ∨ (h = 0 ∧ ¬ (¬ M (12 + 6 * n) 4 = 0 ∧ ¬ ibt x2 (M (13 + 6 * n) 0) = 0 ∧ M 96 (rhd M n) = x3))) → ((e = 1 ∧ (M (12 + 6 * n) 2 = 0 ∨ ¬ M (12 + 6 * n) 3 &&& x4 = 0)) ∨ (e = 0 ∧ ¬ (M (12 + 6 * n) 2 = 0 ∨ ¬ M (12 + 6 * n) 3 &&& x4 = 0))) → ∀ (y11 y12 y13 : Option Value), K 92 [some (.ref 103), some (.ref 5), some (.ref 10), some (.int x2), some (.int x3), some (.int x4), some (.int (faG M L x2 x3 x4 (L 8) n)), some (.int (nI n)), some (.ref (12 + 6 * n)), some (.int (M (13 + 6 * n) 0)), some (.int h), y11, y12, y13] [.int e] (131, M, up2 (upr L 8 (faT M L x2 x3 x4 (L 8) n)) 103 1 ρ, TT) := by
        intro h e hh he y11 y12 y13
        refine hs.go [6, 92, 162] 60 _ _ _ _ ⟨fun z => ?_, fun z => ⟨fun z2 => ?_, fun z2 => ?_⟩⟩
        · rcases hh with ⟨h1, -⟩ | ⟨h1, h2⟩
          · rw [h1] at z; exact absurd z (by decide)
          · exact no (fun c => h2 c.1) h e y12 y13
        · rcases he with ⟨h1, -⟩ | ⟨h1, h2⟩
          · rw [h1] at z2; exact absurd z2 (by decide)
          · exact no (fun c => h2 c.2) h e y12 y13
        · rcases hh with ⟨h1, hA⟩ | ⟨h1, -⟩
          · rcases he with ⟨e1, hB⟩ | ⟨e1, -⟩
            · have hcb : fcB M x2 x3 x4 n = true := fcB_e.mpr ⟨hA, hB⟩
              have hmem1 : up2 (up2 (upr L 8 (faT M L x2 x3 x4 (L 8) n)) 103 1 ρ) 103 1 (up2 (upr L 8 (faT M L x2 x3 x4 (L 8) n)) 103 1 ρ 8 (M (13 + 6 * n) 0).toNatClampNeg) = up2 (upr L 8 (faT M L x2 x3 x4 (L 8) n)) 103 1 ((faT M L x2 x3 x4 (L 8) n) (rhd M n)) := by
                rw [upL8, up2_up2]
                rfl
              refine ⟨rfl, _, rfl, rfl, hrel, rfl, rfl, ⟨rfl, ⟨rfl, rfl⟩, rfl, rfl, rfl, hv.ok, n, hn14, rfl, hwn⟩, rfl, rfl, ?_⟩
              intro r μ' hq
              have g2 : μ' = (131, M, up2 (upr L 8 (faT M L x2 x3 x4 (L 8) n)) 103 1 (fnw M L (faT M L x2 x3 x4 (L 8) n) n), TT) := by
                refine ((hq n hn14 rfl).2).trans ?_
                show (131, M, up2 (up2 (up2 (upr L 8 (faT M L x2 x3 x4 (L 8) n)) 103 1 ρ) 103 1 (up2 (upr L 8 (faT M L x2 x3 x4 (L 8) n)) 103 1 ρ 8 (M (13 + 6 * n) 0).toNatClampNeg)) 103 1 (mmt M (up2 (up2 (upr L 8 (faT M L x2 x3 x4 (L 8) n)) 103 1 ρ) 103 1 (up2 (upr L 8 (faT M L x2 x3 x4 (L 8) n)) 103 1 ρ 8 (M (13 + 6 * n) 0).toNatClampNeg)) n (rln M n) (rln M n) (M 104) (up2 (up2 (upr L 8 (faT M L x2 x3 x4 (L 8) n)) 103 1 ρ) 103 1 (up2 (upr L 8 (faT M L x2 x3 x4 (L 8) n)) 103 1 ρ 8 (M (13 + 6 * n) 0).toNatClampNeg) 103 1)).2, TT) = _
                rw [hmem1, up2_s, up2_up2]
                have ecg : mmt M (up2 (upr L 8 (faT M L x2 x3 x4 (L 8) n)) 103 1 ((faT M L x2 x3 x4 (L 8) n) (rhd M n))) n (rln M n) (rln M n) (M 104) ((faT M L x2 x3 x4 (L 8) n) (rhd M n)) = mmt M (upr L 8 (faT M L x2 x3 x4 (L 8) n)) n (rln M n) (rln M n) (M 104) ((faT M L x2 x3 x4 (L 8) n) (rhd M n)) := mmt_cg (fun _ _ => rfl) (by rw [upL8, upr_s]) hn14 (wR_ln hwn) _ (Nat.le_refl _) _ _
                rw [ecg]
                rfl
              obtain ⟨v0, g1⟩ : ∃ v : Int32, r = some (.int v) := ⟨_, (hq n hn14 rfl).1⟩
              rw [g1, g2]
              have hmem2 : up2 (up2 (upr L 8 (faT M L x2 x3 x4 (L 8) n)) 103 1 (fnw M L (faT M L x2 x3 x4 (L 8) n) n)) 8 (M (13 + 6 * n) 0).toNatClampNeg (up2 (upr L 8 (faT M L x2 x3 x4 (L 8) n)) 103 1 (fnw M L (faT M L x2 x3 x4 (L 8) n) n) 103 1) = up2 (upr L 8 (vp_updL (faT M L x2 x3 x4 (L 8) n) (rhd M n) (fnw M L (faT M L x2 x3 x4 (L 8) n) n))) 103 1 (fnw M L (faT M L x2 x3 x4 (L 8) n) n) := by
                rw [up2_s]
                exact memF
              have hrd : up2 (up2 (upr L 8 (faT M L x2 x3 x4 (L 8) n)) 103 1 (fnw M L (faT M L x2 x3 x4 (L 8) n) n)) 8 (M (13 + 6 * n) 0).toNatClampNeg (up2 (upr L 8 (faT M L x2 x3 x4 (L 8) n)) 103 1 (fnw M L (faT M L x2 x3 x4 (L 8) n) n) 103 1) 103 1 = fnw M L (faT M L x2 x3 x4 (L 8) n) n := by
                rw [hmem2, up2_s]
              have hold : up2 (upr L 8 (faT M L x2 x3 x4 (L 8) n)) 103 1 ρ 8 (M (13 + 6 * n) 0).toNatClampNeg = (faT M L x2 x3 x4 (L 8) n) (rhd M n) := by
                rw [upL8]
                rfl
              have nx : ∀ (G' : Int32) (y12 : Option Value), G' = (faG M L x2 x3 x4 (L 8) n) ||| gbt (fnw M L (faT M L x2 x3 x4 (L 8) n) n) ((faT M L x2 x3 x4 (L 8) n) (rhd M n)) (M (13 + 6 * n) 0) → K 162 [some (.ref 103), some (.ref 5), some (.ref 10), some (.int x2), some (.int x3), some (.int x4), some (.int G'), some (.int (nI n)), some (.ref (12 + 6 * n)), some (.int (M (13 + 6 * n) 0)), some (.int h), some (.int e), y12, none] [] (131, M, up2 (up2 (upr L 8 (faT M L x2 x3 x4 (L 8) n)) 103 1 (fnw M L (faT M L x2 x3 x4 (L 8) n) n)) 8 (M (13 + 6 * n) 0).toNatClampNeg (up2 (upr L 8 (faT M L x2 x3 x4 (L 8) n)) 103 1 (fnw M L (faT M L x2 x3 x4 (L 8) n) n) 103 1), TT) := by
                intro G' y12 hG
                have h9 := ih (n + 1) (by omega) (fnw M L (faT M L x2 x3 x4 (L 8) n) n) (some (.ref (12 + 6 * n))) (some (.int (M (13 + 6 * n) 0))) (some (.int h)) (some (.int e)) y12 none
                rw [nI_succ] at h9
                simp only [faG, faT, if_pos hcb] at h9
                rw [hmem2, hG]
                exact hs.go [6, 162] 60 _ _ _ _ h9
              refine ⟨rfl, _, rfl, rfl, rfl, hrel, rfl, fun hz => nx _ _ ?_, fun hz => nx _ _ ?_⟩
              · rw [show gbt (fnw M L (faT M L x2 x3 x4 (L 8) n) n) ((faT M L x2 x3 x4 (L 8) n) (rhd M n)) (M (13 + 6 * n) 0) = 1 <<< (M (13 + 6 * n) 0 &&& 31) from if_neg (fun c => hz (cmpE.mpr (Eq.trans hrd (Eq.trans c hold.symm))))]
              · rw [show gbt (fnw M L (faT M L x2 x3 x4 (L 8) n) n) ((faT M L x2 x3 x4 (L 8) n) (rhd M n)) (M (13 + 6 * n) 0) = 0 from if_pos (Eq.trans hrd.symm (Eq.trans (cmpE.mp hz) hold))]
            · rw [e1] at z2; exact absurd rfl z2
          · rw [h1] at z; exact absurd rfl z
      have s66 : ∀ (h : Int32), ((h = 1 ∧ (¬ M (12 + 6 * n) 4 = 0 ∧ ¬ ibt x2 (M (13 + 6 * n) 0) = 0 ∧ M 96 (rhd M n) = x3)) ∨ (h = 0 ∧ ¬ (¬ M (12 + 6 * n) 4 = 0 ∧ ¬ ibt x2 (M (13 + 6 * n) 0) = 0 ∧ M 96 (rhd M n) = x3))) → ∀ (y10 y11 y12 y13 : Option Value), K 66 [some (.ref 103), some (.ref 5), some (.ref 10), some (.int x2), some (.int x3), some (.int x4), some (.int (faG M L x2 x3 x4 (L 8) n)), some (.int (nI n)), some (.ref (12 + 6 * n)), some (.int (M (13 + 6 * n) 0)), y10, y11, y12, y13] [.int h] (131, M, up2 (upr L 8 (faT M L x2 x3 x4 (L 8) n)) 103 1 ρ, TT) := by
        intro h hh y10 y11 y12 y13
        refine hs.go [6, 66, 92] 60 _ _ _ _ ⟨hioR _, fun z => s92 h 1 hh (Or.inl ⟨rfl, Or.inl z⟩) _ _ _, fun z => ⟨hioR _, fun z2 => s92 h 0 hh (Or.inr ⟨rfl, fun c => c.elim z (fun c => c z2)⟩) _ _ _, fun z2 => s92 h 1 hh (Or.inl ⟨rfl, Or.inr z2⟩) _ _ _⟩⟩
      refine hs.go [6, 66] 60 _ _ _ _ ⟨fun z => absurd z (nI_ge (a := n) (b := 14) (by omega) (by decide)), fun _ => ⟨rfl, _, rfl, rfl, hin, 12 + 6 * n, by show TT 11 _ = _; rw [hcl]; rfl, hioR _, _, TTh n hn14, hioH _, hioR _, fun z => s66 0 (Or.inr ⟨rfl, fun c => c.1 z⟩) _ _ _ _, fun z => ⟨⟨⟨rfl, rfl⟩, trivial⟩, rfl, rfl, ?_⟩⟩⟩
      rintro _ _ ⟨rfl, rfl⟩
      by_cases hb : ibt x2 (M (13 + 6 * n) 0) = 0
      · rw [show b2 (¬ ibt x2 (M (13 + 6 * n) 0) = 0) = 0 from b2_f (fun c => c hb)]
        exact ⟨fun _ => s66 0 (Or.inr ⟨rfl, fun c => c.2.1 hb⟩) _ _ _ _, fun c => absurd rfl c⟩
      · rw [show b2 (¬ ibt x2 (M (13 + 6 * n) 0) = 0) = 1 from b2_t hb]
        exact ⟨fun c => absurd c (by decide), fun _ => ⟨rfl, _, rfl, rfl, hrel, fun z3 => s66 0 (Or.inr ⟨rfl, fun c => z3 c.2.2⟩) _ _ _ _, fun z3 => s66 1 (Or.inl ⟨rfl, z, hb, z3⟩) _ _ _ _⟩⟩
  have h0 := loop 14 0 rfl (L 103 1) none none none none none none
  have e0 : up2 (upr L 8 (faT M L x2 x3 x4 (L 8) 0)) 103 1 (L 103 1) = L := by
    have : upr L 8 (faT M L x2 x3 x4 (L 8) 0) = L := by
      funext a
      unfold upr
      by_cases ha : a = 8
      · rw [if_pos ha, ha]; rfl
      · rw [if_neg ha]
    rw [this]
    exact up2_id
  rw [e0] at h0
  exact hs.go [6] 60 _ _ _ _ h0
