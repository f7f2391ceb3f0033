def dpL (M : mM) (j : Nat) (L : mL) : mL := (rin M (4 * j) (M 117 j).toNatClampNeg (-1) ((M 117 j).toNatClampNeg - 1) (bnl M 4) (0, L)).2
def dp1 (M : mM) (s : Int32) (j : Nat) (t : Int32 × mL) : Int32 × mL := if M 116 j = 0 then t else if M 114 (M 118 (4 * j)).toNatClampNeg = s then (b2 (¬ t.1 = 0 ∨ ¬ t.2 112 (M 118 (4 * j)).toNatClampNeg = dpL M j t.2 112 (M 118 (4 * j)).toNatClampNeg), dpL M j t.2) else t
def dpf (M : mM) (s : Int32) : Nat → Nat → Int32 × mL → Int32 × mL
  | 0, _, t => t
  | n + 1, j, t => dpf M s n (j + 1) (dp1 M s j t)
def drw (M : mM) (s : Int32) : Nat → mL → mL
  | 0, L => L
  | n + 1, L => if (dpf M s 14 0 (0, L)).1 = 0 then (dpf M s 14 0 (0, L)).2 else drw M s n (dpf M s 14 0 (0, L)).2
def dsi (f t : Nat → Int64) (z : Nat → Int32) (s : Int32) (n : Nat) : Nat → Int64 := fun r => if r < n ∧ z r = s then f r else t r
def dsL (M : mM) (s : Nat) (L : mL) : mL := upr L 112 (dsi (L 111) (L 112) (M 114) (nI s) (M 109 0).toNatClampNeg)
def drS (M : mM) (s : Nat) (L : mL) : mL := drw M (nI s) (phi (dsL M s L) 14 + 1) (dsL M s L)
def drv (M : mM) : Nat → Nat → mL → mL
  | 0, _, L => L
  | n + 1, s, L => drv M n (s + 1) (drS M s L)
/-- the reference's longs once all has been derived anew -/
def derL (M : mM) (L : mL) : mL := drv M 6 0 (upr (upr L 113 (stg (L 113) (L 112) 14)) 112 (stg (L 112) (fun _ => 0) 14))
def dcc (x : Int64) : Nat → Nat → Int32 → Int32
  | 0, _, y => y
  | n + 1, c, y => dcc x n (c + 1) (y.toInt64 + sb x (nI c)).toInt32
def dct (L : mL) : Nat → Nat → Int32 → Int32
  | 0, _, y => y
  | n + 1, i, y => dct L n (i + 1) (dcc (L 113 i ^^^ L 112 i) 36 0 y)
theorem dp1_Q {M : mM} {s : Int32} {j : Nat} {L0 : mL} {t : Int32 × mL} (hh : (M 118 (4 * j)).toNatClampNeg < 14) (h : Gr L0 t.2 ∧ (¬ t.1 = 0 → phi t.2 14 < phi L0 14)) : Gr L0 (dp1 M s j t).2 ∧ (¬ (dp1 M s j t).1 = 0 → phi (dp1 M s j t).2 14 < phi L0 14) := by
  unfold dp1
  split
  · exact h
  · split
    · have hG : Gr t.2 (dpL M j t.2) := rin_G _ _ _
      refine ⟨h.1.tr hG, fun hb => ?_⟩
      by_cases h1 : t.1 = 0
      · by_cases h2 : t.2 112 (M 118 (4 * j)).toNatClampNeg = dpL M j t.2 112 (M 118 (4 * j)).toNatClampNeg
        · exact absurd (b2_f (fun z => z.elim (fun q => q h1) (fun q => q h2))) hb
        · exact Nat.lt_of_lt_of_le (phi_lt hG h2 14 hh) (phi_le h.1 14)
      · exact Nat.lt_of_le_of_lt (phi_le hG 14) (h.2 h1)
    · exact h
theorem dpf_Q {M : mM} {s : Int32} {L0 : mL} (hh : ∀ j, j < 14 → (M 118 (4 * j)).toNatClampNeg < 14) : ∀ n j t, j + n = 14 → (Gr L0 t.2 ∧ (¬ t.1 = 0 → phi t.2 14 < phi L0 14)) → Gr L0 (dpf M s n j t).2 ∧ (¬ (dpf M s n j t).1 = 0 → phi (dpf M s n j t).2 14 < phi L0 14)
  | 0, _, _, _, h => h
  | n + 1, j, t, hj, h => dpf_Q hh n (j + 1) _ (by omega) (dp1_Q (hh j (by omega)) h)
theorem dsi_y {L : mL} {z : Nat → Int32} {s : Int32} {n : Nat} (h : z n = s) : up2 (upr L 112 (dsi (L 111) (L 112) z s n)) 112 n (L 111 n) = upr L 112 (dsi (L 111) (L 112) z s (n + 1)) := by
  funext a b
  unfold dsi up2 upr
  by_cases ha : a = 112
  · subst ha
    by_cases hb : b = n
    · subst hb
      simp [h]
    · have : (b < n + 1) ↔ b < n := by omega
      simp [hb, this]
  · simp [ha]
theorem dsi_n {L : mL} {z : Nat → Int32} {s : Int32} {n : Nat} (h : ¬ z n = s) : dsi (L 111) (L 112) z s n = dsi (L 111) (L 112) z s (n + 1) := by
  funext b
  unfold dsi
  by_cases hb : b = n
  · subst hb
    simp [h]
  · have : (b < n + 1) ↔ b < n := by omega
    simp [this]
theorem dsi_0 {f t : Nat → Int64} {z : Nat → Int32} {s : Int32} : dsi f t z s 0 = t := by
  funext b
  unfold dsi
  exact if_neg (fun q => absurd q.1 (by omega))

theorem dn_PM_derive : y_PM_derive.cls ≠ "java/lang/invoke/MethodHandle" ∧ y_PM_derive.cls ≠ "java/lang/invoke/VarHandle" ∧ (parseMethodDescriptor y_PM_derive.desc).map (fun d => d.parameters.length) = some 0 := by decide +kernel
abbrev pr_PM_derive : List Value → Mm → Prop := preV 8 (fun k => a_0 (fun μ => FM μ ∧ (k = 109 ∧ PI μ.2.1)))
abbrev po_PM_derive : List Value → Mm → Option Value → Mm → Prop := qV (fun k => b_0 (fun μ r μ' => r = none ∧ ∃ M', Sm μ.2.1 M' ∧ μ' = (131, up2 M' 109 7 (dct (derL μ.2.1 μ.2.2.1) 14 0 0), derL μ.2.1 μ.2.2.1, TT)))
theorem ft_PM_derive : ∀ as μ, pr_PM_derive as μ → μ.1 + 0 ≤ 131 ∧ cz μ.1 + 0 ≤ cz 131 := hf_S (n := 131) (Nat.le_refl _) (fun as μ h => by
  obtain ⟨k, r, rfl, hk, h⟩ := preV_e h
  obtain ⟨rfl, h⟩ := a_0_e h
  exact h.1.1)
def C_PM_derive : Cf := fun id => match id with
  | 0 => trF (3 + 1) pr_PM_instances po_PM_instances
  | _ => fun _ _ _ => False
set_option maxRecDepth 100000 in
theorem cs_PM_derive (l : Launch) : ∀ x ∈ k_PM_derive, CS l R_PM b_PM_derive 6 (rmm 4 0 0) 131 131 C_PM_derive x := fc (CS.no rfl) (fc (CS.no rfl) (fc (CS.no rfl) (fc (CS.no rfl) (fc (CS.no rfl) (fc (CS.no rfl) (fc (CS.no rfl) (fc (CS.no rfl) (fc (CS.no rfl) (fc (CS.no rfl) (fc (CS.no rfl) (fc (CS.no rfl) (fc (CS.no rfl) (fc (CS.no rfl) (fc (CS.no rfl) (fc (CS.no rfl) (fc (CS.no rfl) (fc (CS.no rfl) (fc (CS.no rfl) (fc (CS.no rfl) (fc (CS.no rfl) (fc (CS.no rfl) (fc (CS.no rfl) (fc (CS.no rfl) (fc (CS.no rfl) (fc (CS.no rfl) (fc (CS.no rfl) (fc (CS.no rfl) (fc (CS.no rfl) (fc (CS.no rfl) (fc (CS.no rfl) (fc (CS.no rfl) (fc (CS.no rfl) (fc (CS.no rfl) (fc (CS.no rfl) (fc (CS.no rfl) (fc (CS.no rfl) (fc (CS.no rfl) (fc (CS.no rfl) (fc (CS.no rfl) (fc (CS.no rfl) (fc (CS.no rfl) (fc (CS.no rfl) (fc (CS.no rfl) (fc (CS.no rfl) (fc (CS.no rfl) (fc (CS.no rfl) (fc (CS.no rfl) (fc (CS.no rfl) (fc (CS.no rfl) (fc (CS.no rfl) (fc (CS.no rfl) (fc (CS.no rfl) (fc (CS.no rfl) (fc (CS.no rfl) (fc (CS.no rfl) (fc (CS.no rfl) (fc (CS.no rfl) (fc (CS.no rfl) (fc (CS.no rfl) (fc (CS.no rfl) (fc (CS.no rfl) (fc (CS.no rfl) (fc (CS.no rfl) (fc (CS.no rfl) (fc (CS.no rfl) (fc (CS.no rfl) (fc (CS.no rfl) (fc (CS.no rfl) (fc (CS.no rfl) (fc (CS.no rfl) (fc (CS.no rfl) (fc (CS.no rfl) (fc (CS.no rfl) (fc (CS.no rfl) (fc (CS.no rfl) (fc (CS.no rfl) (fc (CS.no rfl) (fc (CS.no rfl) (fc (CS.no rfl) (fc (CS.no rfl) (fc (CS.no rfl) (fc (CS.no rfl) (fc (CS.no rfl) (fc (CS.no rfl) (fc (CS.no rfl) (fc (CS.no rfl) (fc (CS.no rfl) (fc (CS.no rfl) (fc (CS.no rfl) (fc (CS.no rfl) (fc (CS.no rfl) (fc (CS.no rfl) (fc (CS.no rfl) (fc (CS.V c_PM_instances wk_PM_instances wl_PM_134 wm_PM_instances we_PM_instances rfl rfl wi_PM dn_PM_instances ⟨rfl, rfl⟩ ⟨by decide, by decide⟩ ft_PM_instances rfl (e_PM_derive_149).1) (fc (CS.no rfl) (fc (CS.no rfl) (fc (CS.no rfl) (fc (CS.no rfl) (fc (CS.no rfl) (fc (CS.no rfl) (fc (CS.no rfl) (fc (CS.no rfl) (fc (CS.no rfl) (fc (CS.no rfl) (fc (CS.no rfl) (fc (CS.no rfl) (fc (CS.no rfl) (fc (CS.no rfl) (fc (CS.no rfl) (fc (CS.no rfl) (fc (CS.no rfl) (fc (CS.no rfl) (fc (CS.no rfl) (fc (CS.no rfl) (fc (CS.no rfl) (fc (CS.no rfl) (fc (CS.no rfl) (fc (CS.no rfl) (fc (CS.no rfl) (fc (CS.no rfl) (fc (CS.no rfl) (fc (CS.no rfl) (fc (CS.no rfl) (fc (CS.no rfl) (fc (CS.no rfl) (fc (CS.no rfl) (fc (CS.no rfl) (fc (CS.no rfl) (fc (CS.no rfl) (fc (CS.no rfl) (fc (CS.no rfl) (fc (CS.no rfl) (fc (CS.no rfl) (fc (CS.no rfl) (fc (CS.no rfl) (fc (CS.no rfl) (fc (CS.no rfl) (fc (CS.no rfl) (fc (CS.no rfl) (fc (CS.no rfl) (fc (CS.no rfl) (fc (CS.no rfl) (fc (CS.no rfl) (fc (CS.no rfl) (fc (CS.no rfl) (fc (CS.no rfl) (fc (CS.no rfl) (fc (CS.no rfl) (fc (CS.no rfl) (fc (CS.no rfl) (fc (CS.no rfl) (fc (CS.no rfl) (fc (CS.no rfl) (fc (CS.no rfl) (fc (CS.no rfl) (fc (CS.no rfl) (fun _ h => absurd h List.not_mem_nil)))))))))))))))))))))))))))))))))))))))))))))))))))))))))))))))))))))))))))))))))))))))))))))))))))))))))))))))))))))))))))))))))))))))))))))))))))))))))))))
set_option maxRecDepth 100000 in
set_option maxHeartbeats 4000000 in
theorem c_PM_derive : Cn y_PM_derive b_PM_derive 6 none (rmm 4 0 0) (0 + 1) 0 0 pr_PM_derive po_PM_derive := cv_0 (ci := 8) (f := fun k => fun μ => FM μ ∧ (k = 109 ∧ PI μ.2.1)) (g := fun k => fun μ r μ' => r = none ∧ ∃ M', Sm μ.2.1 M' ∧ μ' = (131, up2 M' 109 7 (dct (derL μ.2.1 μ.2.2.1) 14 0 0), derL μ.2.1 μ.2.2.1, TT)) fun l k  μ hk h => by
  obtain ⟨hm, h⟩ := h
  obtain ⟨M, L, rfl⟩ := hm.e
  refine ky_met (own := R_PM) (ini := 0) (rb := 3) (nE := 131) (cd := k_PM_derive) (C := C_PM_derive) (by decide) rfl (fun h => by cases h) (Nat.le_of_ble_eq_true rfl) ⟨rfl, rfl⟩ (Or.inr (Or.inr (Or.inr ⟨rfl, rfl⟩))) rfl rfl (by decide) ok_PM_derive (cs_PM_derive l) rt_PM_derive (fun K hs => ?_)
  obtain ⟨rfl, hp⟩ := h
  have hp : PI M := hp
  obtain ⟨n0, hn9, hn14, en0⟩ := hp.1
  have en0c : (M 109 0).toNatClampNeg = n0 := by rw [en0]; exact nI_clamp (n := n0) (by omega)
  have hof : ∀ i, i < 60 → vp_in (M 118 i) 14 := fun i hi => (hp.2.2.2.2.2.1 i hi).1.1
  -- the count of the changes
  have cnt : ∀ (M' : mM), Sm M M' → ∀ (n i : Nat), i + n = 14 → ∀ (y : Int32) (l2 l3 l4 l5 : Option Value), dct (derL M L) n i y = dct (derL M L) 14 0 0 → K 204 [some (.ref 109), some (.int (nI i)), l2, l3, l4, l5] [] (131, up2 M' 109 7 y, derL M L, TT) := by
    intro M' hS n
    induction n with
    | zero =>
      intro i hi y l2 l3 l4 l5 he
      have hi : i = 14 := by omega
      subst hi
      have he : y = dct (derL M L) 14 0 0 := he
      exact hs.go [204] 40 _ _ _ _ ⟨fun _ => ⟨rfl, rfl, M', hS, by rw [he]⟩, fun z => absurd (Int32.le_refl _) z⟩
    | succ n ih =>
      intro i hi y l2 l3 l4 l5 he
      have ii : vp_in (nI i) 14 := vp_in_nI (by omega) (by decide)
      have ei : (nI i).toNatClampNeg = i := nI_clamp (n := i) (by omega)
      have inner : ∀ (m c : Nat), c + m = 36 → ∀ (y' : Int32), dcc (derL M L 113 i ^^^ derL M L 112 i) m c y' = dcc (derL M L 113 i ^^^ derL M L 112 i) 36 0 y → K 212 [some (.ref 109), some (.int (nI i)), some (.int (nI c)), l3, l4, l5] [] (131, up2 M' 109 7 y', derL M L, TT) := by
        intro m
        induction m with
        | zero =>
          intro c hc y' hy
          have hc : c = 36 := by omega
          subst hc
          have hy : y' = dcc (derL M L 113 i ^^^ derL M L 112 i) 36 0 y := hy
          have h9 := ih (i + 1) (by omega) y' (some (.int (nI 36))) l3 l4 l5 (by rw [hy]; exact he)
          rw [nI_succ i] at h9
          exact hs.go [212, 204] 40 _ _ _ _ ⟨fun _ => h9, fun z => absurd (Int32.le_refl _) z⟩
        | succ m ihm =>
          intro c hc y' hy
          have h9 := ihm (c + 1) (by omega) (y'.toInt64 + sb (derL M L 113 i ^^^ derL M L 112 i) (nI c)).toInt32 hy
          rw [nI_succ c] at h9
          refine hs.go [212, 204] 60 _ _ _ _ ⟨fun z => absurd z (nI_ge (a := c) (b := 36) (by omega) (by decide)), fun _ => ⟨rfl, rfl, _, rfl, rfl, ii, rfl, _, rfl, rfl, ii, rfl, ?_⟩⟩
          show K 212 _ _ (131, up2 (up2 M' 109 7 y') 109 7 ((up2 M' 109 7 y' 109 7).toInt64 + sb (derL M L 113 (nI i).toNatClampNeg ^^^ derL M L 112 (nI i).toNatClampNeg) (nI c)).toInt32, derL M L, TT)
          rw [up2_up2, up2_s, ei]
          exact h9
      exact hs.go [204, 212] 40 _ _ _ _ ⟨fun z => absurd z (nI_ge (a := i) (b := 14) (by omega) (by decide)), fun _ => inner 36 0 rfl y rfl⟩
  -- the strata
  have str : ∀ (n s : Nat), s + n = 6 → ∀ (M' : mM) (L' : mL) (l2 l3 l4 l5 : Option Value), Sm M M' → drv M n s L' = derL M L → K 35 [some (.ref 109), some (.int (nI s)), l2, l3, l4, l5] [] (131, M', L', TT) := by
    intro n
    induction n with
    | zero =>
      intro s hs6 M' L' l2 l3 l4 l5 hS he
      have hs6 : s = 6 := by omega
      subst hs6
      have he : L' = derL M L := he
      subst he
      exact hs.go [35, 204] 40 _ _ _ _ ⟨fun _ => ⟨rfl, cnt M' hS 14 0 rfl 0 l2 l3 l4 l5 rfl⟩, fun z => absurd (show nI 5 < nI 6 from nI_lt (by decide) (by decide)) z⟩
    | succ n ih =>
      intro s hs6 M' L' l2 l3 l4 l5 hS he
      have he : drv M n (s + 1) (drS M s L') = derL M L := he
      have whl : ∀ (f : Nat) (X : mL), phi X 14 < f → drw M (nI s) f X = drS M s L' → ∀ (M' : mM) (ch : Int32) (l3 l4 l5 : Option Value), Sm M M' → ¬ ch = 0 → K 80 [some (.ref 109), some (.int (nI s)), some (.int ch), l3, l4, l5] [] (131, M', X, TT) := by
        intro f
        induction f with
        | zero => intro X hf; omega
        | succ f ihf =>
          intro X hf hX M' ch l3 l4 l5 hS hch
          have fin : ∀ (t : Int32 × mL) (M'' : mM) (l3 l4 l5 : Option Value), Sm M M'' → t = dpf M (nI s) 14 0 (0, X) → K 80 [some (.ref 109), some (.int (nI s)), some (.int t.1), l3, l4, l5] [] (131, M'', t.2, TT) := by
            intro t M'' l3 l4 l5 hS2 ht
            have hQ := dpf_Q (M := M) (s := nI s) (L0 := X) (fun j hj => cl_lt (hof (4 * j) (by omega))) 14 0 (0, X) rfl ⟨Gr.rfl', fun z => absurd rfl z⟩
            by_cases hb : t.1 = 0
            · have e : t.2 = drS M s L' := by
                rw [← hX, ht]
                rw [ht] at hb
                exact (if_pos hb).symm
              have h9 := ih (s + 1) (by omega) M'' t.2 (some (.int t.1)) l3 l4 l5 hS2 (by rw [e]; exact he)
              rw [nI_succ] at h9
              exact hs.go [80, 35] 20 _ _ _ _ ⟨fun _ => h9, fun z => absurd hb z⟩
            · refine ihf t.2 ?_ ?_ M'' t.1 l3 l4 l5 hS2 hb
              · rw [ht] at hb ⊢
                have := hQ.2 hb
                omega
              · rw [← hX, ht]
                rw [ht] at hb
                exact (if_neg hb).symm
          have pass : ∀ (k j : Nat), j + k = 14 → ∀ (t : Int32 × mL) (M' : mM) (l4 l5 : Option Value), Sm M M' → dpf M (nI s) k j t = dpf M (nI s) 14 0 (0, X) → K 88 [some (.ref 109), some (.int (nI s)), some (.int t.1), some (.int (nI j)), l4, l5] [] (131, M', t.2, TT) := by
            intro k
            induction k with
            | zero =>
              intro j hj t M' l4 l5 hS ht
              have hj : j = 14 := by omega
              subst hj
              exact hs.go [88, 80] 20 _ _ _ _ ⟨fun _ => fin t M' _ _ _ hS ht, fun z => absurd (Int32.le_refl _) z⟩
            | succ k ihk =>
              intro j hj t M' l4 l5 hS ht
              obtain ⟨e0, e1, e2, e3, e4⟩ := hS.e
              have e114 : M' 114 = M 114 := hS.1 114 (by decide) (by decide) (by decide)
              have e116 : M' 116 = M 116 := hS.1 116 (by decide) (by decide) (by decide)
              have e117 : M' 117 = M 117 := hS.1 117 (by decide) (by decide) (by decide)
              have ij : vp_in (nI j) 14 := vp_in_nI (by omega) (by decide)
              have ej : (nI j).toNatClampNeg = j := nI_clamp (n := j) (by omega)
              have e4j : 4 * nI j = nI (4 * j) := pk_mul 4 j
              have e4c : (4 * nI j).toNatClampNeg = 4 * j := by rw [e4j]; exact nI_clamp (n := 4 * j) (by omega)
              have i60 : vp_in (4 * nI j) 60 := by rw [e4j]; exact vp_in_nI (by omega) (by decide)
              have i14 : vp_in (M' 118 (4 * nI j).toNatClampNeg) 14 := by rw [e1, e4c]; exact hof (4 * j) (by omega)
              obtain ⟨lt, hlt4, elt, hlt1⟩ := hp.2.2.2.2.1 j (by omega)
              have eltc : (M 117 j).toNatClampNeg = lt := by rw [elt]; exact nI_clamp (n := lt) (by omega)
              have s182 : ∀ (t' : Int32 × mL) (M' : mM) (l4 l5 : Option Value), Sm M M' → t' = dp1 M (nI s) j t → K 182 [some (.ref 109), some (.int (nI s)), some (.int t'.1), some (.int (nI j)), l4, l5] [] (131, M', t'.2, TT) := by
                intro t' M' l4 l5 hS ht'
                have h9 := ihk (j + 1) (by omega) t' M' l4 l5 hS (by rw [ht']; exact ht)
                rw [nI_succ] at h9
                exact hs.go [182, 88] 10 _ _ _ _ h9
              refine hs.go [88, 182] 80 _ _ _ _ ⟨fun z => absurd z (nI_ge (a := j) (b := 14) (by omega) (by decide)), fun _ => ⟨rfl, _, rfl, rfl, ij, ?_⟩⟩
              show (M' 116 (nI j).toNatClampNeg = 0 → _) ∧ (¬ M' 116 (nI j).toNatClampNeg = 0 → _)
              rw [e116, ej]
              refine ⟨fun h1 => s182 t M' _ _ hS (if_pos h1).symm, fun h1 => ⟨rfl, _, rfl, rfl, _, rfl, rfl, i60, rfl, i14, ?_⟩⟩
              show (M' 114 (M' 118 (4 * nI j).toNatClampNeg).toNatClampNeg = nI s → _) ∧ (¬ M' 114 (M' 118 (4 * nI j).toNatClampNeg).toNatClampNeg = nI s → _)
              rw [e114, e1, e4c]
              refine ⟨fun h2 => ⟨rfl, _, rfl, rfl, _, rfl, rfl, i60, rfl, i14, rfl, rfl, _, rfl, rfl, ij, ⟨rfl, ⟨rfl, rfl⟩, rfl, 4 * j, lt, e4j, ?_, by omega, hlt1 h1, hlt4, fun i h3 h4 => rok_c hS (hp.2.2.2.2.2.1 i (by omega)).1⟩, rfl, rfl, ?_⟩, fun h2 => s182 t M' _ _ hS ((if_neg h1).trans (if_neg h2)).symm⟩
              · show M' 117 (nI j).toNatClampNeg = nI lt
                rw [e117, ej]; exact elt
              · intro r μ' hq
                obtain ⟨g1, M2, hS2, g2⟩ := hq (4 * j) lt (by omega) e4j (show M' 117 (nI j).toNatClampNeg = nI lt by rw [e117, ej]; exact elt)
                have g2 : μ' = (131, M2, dpL M j t.2, TT) := by
                  rw [g2]
                  show (131, M2, (rin M' (4 * j) lt (-1) (lt - 1) (bnl M' 4) (0, t.2)).2, TT) = _
                  rw [bnl_c hS, rin_c hS]
                  unfold dpL
                  rw [eltc]
                have hS3 := hS.tr hS2
                obtain ⟨f0, f1, f2, f3, f4⟩ := hS3.e
                have j14 : vp_in (M2 118 (4 * nI j).toNatClampNeg) 14 := by rw [f1, e4c]; exact hof (4 * j) (by omega)
                rw [g1, g2]
                have e : dp1 M (nI s) j t = (b2 (¬ t.1 = 0 ∨ ¬ t.2 112 (M 118 (4 * j)).toNatClampNeg = dpL M j t.2 112 (M 118 (4 * j)).toNatClampNeg), dpL M j t.2) := (if_neg h1).trans (if_pos h2)
                have out : ∀ (b : Int32) (l4 l5 : Option Value), b = b2 (¬ t.1 = 0 ∨ ¬ t.2 112 (M 118 (4 * j)).toNatClampNeg = dpL M j t.2 112 (M 118 (4 * j)).toNatClampNeg) → K 182 [some (.ref 109), some (.int (nI s)), some (.int b), some (.int (nI j)), l4, l5] [] (131, M2, dpL M j t.2, TT) := by
                  intro b l4 l5 hb
                  refine s182 (b, dpL M j t.2) M2 l4 l5 hS3 ?_
                  rw [e, hb]
                refine ⟨fun h3 => out 1 _ _ (b2_t (Or.inl h3)).symm, fun h3 => ⟨rfl, _, rfl, rfl, _, rfl, rfl, i60, rfl, j14, ?_⟩⟩
                have e5 : t.2 112 (M' 118 (4 * nI j).toNatClampNeg).toNatClampNeg = t.2 112 (M 118 (4 * j)).toNatClampNeg := by rw [e1, e4c]
                have e6 : dpL M j t.2 112 (M2 118 (4 * nI j).toNatClampNeg).toNatClampNeg = dpL M j t.2 112 (M 118 (4 * j)).toNatClampNeg := by rw [f1, e4c]
                refine ⟨fun h4 => out 0 _ _ ?_, fun h4 => out 1 _ _ ?_⟩
                · have h4 : lg_cmp (t.2 112 (M' 118 (4 * nI j).toNatClampNeg).toNatClampNeg) (dpL M j t.2 112 (M2 118 (4 * nI j).toNatClampNeg).toNatClampNeg) = 0 := h4
                  rw [cmpE, e5, e6] at h4
                  exact (b2_f (fun z => z.elim (fun q => q h3) (fun q => q h4))).symm
                · have h4 : ¬ lg_cmp (t.2 112 (M' 118 (4 * nI j).toNatClampNeg).toNatClampNeg) (dpL M j t.2 112 (M2 118 (4 * nI j).toNatClampNeg).toNatClampNeg) = 0 := h4
                  rw [cmpE, e5, e6] at h4
                  exact (b2_t (Or.inr h4)).symm
          exact hs.go [80, 88] 20 _ _ _ _ ⟨fun z => absurd z hch, fun _ => pass 14 0 rfl (0, X) M' l4 l5 hS rfl⟩
      have e114 : M' 114 = M 114 := hS.1 114 (by decide) (by decide) (by decide)
      have e109 : M' 109 0 = nI n0 := by rw [hS.1 109 (by decide) (by decide) (by decide)]; exact en0
      have ini : ∀ (k r : Nat), r + k = n0 → K 42 [some (.ref 109), some (.int (nI s)), some (.int (nI r)), l3, l4, l5] [] (131, M', upr L' 112 (dsi (L' 111) (L' 112) (M 114) (nI s) r), TT) := by
        intro k
        induction k with
        | zero =>
          intro r hr
          have hr : r = n0 := by omega
          subst hr
          refine hs.go [42, 80] 40 _ _ _ _ ⟨rfl, fun _ => whl (phi (dsL M s L') 14 + 1) _ ?_ ?_ M' 1 l3 l4 l5 hS (by decide), fun z => absurd (show M' 109 0 ≤ nI r by rw [e109]; exact Int32.le_refl _) z⟩
          · unfold dsL
            rw [en0c]
            omega
          · unfold drS dsL
            rw [en0c]
        | succ k ihk =>
          intro r hr
          have ir : vp_in (nI r) 14 := vp_in_nI (by omega) (by decide)
          have er : (nI r).toNatClampNeg = r := nI_clamp (n := r) (by omega)
          have h9 := ihk (r + 1) (by omega)
          rw [nI_succ] at h9
          refine hs.go [42, 80] 40 _ _ _ _ ⟨rfl, fun z => absurd (show M' 109 0 ≤ nI r from z) (by rw [e109]; exact nI_ge (a := r) (b := n0) (by omega) (by omega)), fun _ => ⟨rfl, _, rfl, rfl, ir, ?_⟩⟩
          show (¬ M' 114 (nI r).toNatClampNeg = nI s → _) ∧ (M' 114 (nI r).toNatClampNeg = nI s → _)
          rw [e114, er]
          refine ⟨fun h1 => ?_, fun h1 => ⟨rfl, _, rfl, rfl, _, rfl, rfl, ir, rfl, ir, ?_⟩⟩
          · rw [dsi_n h1]
            exact h9
          · show K 42 _ _ (131, M', up2 (upr L' 112 (dsi (L' 111) (L' 112) (M 114) (nI s) r)) 112 (nI r).toNatClampNeg (L' 111 (nI r).toNatClampNeg), TT)
            rw [er, dsi_y h1]
            exact h9
      have h0 := ini n0 0 (by omega)
      rw [dsi_0, uprL_id] at h0
      exact hs.go [35, 42] 40 _ _ _ _ ⟨fun z => absurd (show nI 5 < nI s from z) (nI_nlt (a := 5) (b := s) (by omega) (by decide)), fun _ => h0⟩
  have first : ∀ (n c : Nat), c + n = 14 → K 2 [some (.ref 109), some (.int (nI c)), none, none, none, none] [] (131, M, upr (upr L 113 (stg (L 113) (L 112) c)) 112 (stg (L 112) (fun _ => 0) c), TT) := by
    intro n
    induction n with
    | zero =>
      intro c hc
      have hc : c = 14 := by omega
      subst hc
      exact hs.go [2, 35] 40 _ _ _ _ ⟨fun _ => str 6 0 rfl M _ _ _ _ _ ⟨fun _ _ _ _ => rfl, fun _ _ => rfl⟩ rfl, fun z => absurd (Int32.le_refl _) z⟩
    | succ n ih =>
      intro c hc
      have ic : vp_in (nI c) 14 := vp_in_nI (by omega) (by decide)
      have ec : (nI c).toNatClampNeg = c := nI_clamp (n := c) (by omega)
      have h9 := ih (c + 1) (by omega)
      have es : stg (L 112) (fun _ => 0) c c = L 112 c := if_neg (by omega)
      rw [nI_succ, stg_s, stg_s, ← uprL_up2 (by decide)] at h9
      refine hs.go [2, 35] 40 _ _ _ _ ⟨fun z => absurd z (nI_ge (a := c) (b := 14) (by omega) (by decide)), fun _ => ⟨rfl, _, rfl, rfl, _, rfl, rfl, ic, rfl, ic, rfl, _, rfl, rfl, ic, ?_⟩⟩
      show K 2 _ _ (131, M, up2 (up2 (upr (upr L 113 (stg (L 113) (L 112) c)) 112 (stg (L 112) (fun _ => 0) c)) 113 (nI c).toNatClampNeg (stg (L 112) (fun _ => 0) c (nI c).toNatClampNeg)) 112 (nI c).toNatClampNeg 0, TT)
      rw [ec, es]
      exact h9
  have h0 := first 14 0 rfl
  rw [stg_0, stg_0, uprL_id] at h0
  have e0 : upr L 112 (L 112) = L := uprL_id
  rw [e0] at h0
  exact hs.go [2] 40 _ _ _ _ h0
