def rkv (M : mM) (a n : Nat) (s : Int32 × (Nat → Int32)) : Int32 × (Nat → Int32) := if s.1 = 0 then (0, s.2) else (b2 (rdl (M 118) (M 121) a (n - 1) (a + 1) s.2 (M 118 a).toNatClampNeg ≤ 5), rdl (M 118) (M 121) a (n - 1) (a + 1) s.2)
def rk1 (M : mM) (q : Int32) (j : Nat) (s : Int32 × (Nat → Int32)) : Int32 × (Nat → Int32) := if M 116 j = 0 then s else if nI j = q then s else rkv M (4 * j) (M 117 j).toNatClampNeg s
def rkf (M : mM) (q : Int32) : Nat → Nat → Int32 × (Nat → Int32) → Int32 × (Nat → Int32)
  | 0, _, s => s
  | n + 1, j, s => rkf M q n (j + 1) (rk1 M q j s)
def rkg (M : mM) (q : Int32) (s : Int32 × (Nat → Int32)) : Int32 × (Nat → Int32) := if 14 ≤ q then s else rkv M 56 (M 109 8).toNatClampNeg s
def rkn (M : mM) (q : Int32) : Nat → Int32 × (Nat → Int32) → Int32 × (Nat → Int32)
  | 0, s => s
  | n + 1, s => if s.1 = 0 then s else rkn M q n (rkg M q (rkf M q 14 0 s))
def stc (f g : Nat → Int32) (n : Nat) : Nat → Int32 := fun j => if j < n then g j else f j
/-- the reference's ranking: whether there is one, and the strata -/
def rkR (M : mM) (q : Int32) : Int32 × (Nat → Int32) := rkn M q 40 (1, stc (M 115) (fun _ => 0) 14)
def rkM (M : mM) (q : Int32) : mM := upr (upr M 115 (rkR M q).2) 114 (if (rkR M q).1 = 0 then M 114 else stc (M 114) (rkR M q).2 14)
theorem rkv_01 {M : mM} {a n : Nat} {s : Int32 × (Nat → Int32)} : (rkv M a n s).1 = 0 ∨ (rkv M a n s).1 = 1 := by
  unfold rkv
  split
  · exact Or.inl rfl
  · exact b2_01 _
theorem rk1_01 {M : mM} {q : Int32} {j : Nat} {s : Int32 × (Nat → Int32)} (h : s.1 = 0 ∨ s.1 = 1) : (rk1 M q j s).1 = 0 ∨ (rk1 M q j s).1 = 1 := by
  unfold rk1
  split
  · exact h
  · split
    · exact h
    · exact rkv_01
theorem rkg_01 {M : mM} {q : Int32} {s : Int32 × (Nat → Int32)} (h : s.1 = 0 ∨ s.1 = 1) : (rkg M q s).1 = 0 ∨ (rkg M q s).1 = 1 := by
  unfold rkg
  split
  · exact h
  · exact rkv_01
theorem stc_s {M : mM} {k c : Nat} {f g : Nat → Int32} : upr M k (stc f g (c + 1)) = up2 (upr M k (stc f g c)) k c (g c) := by
  funext x y
  unfold up2 upr stc
  by_cases hx : x = k
  · subst hx
    by_cases hy : y = c
    · subst hy
      simp
    · have : (y < c + 1) ↔ (y < c) := by omega
      simp only [this, hy, and_false, if_false, if_true]
  · simp [hx]
theorem stc_0 {f g : Nat → Int32} : stc f g 0 = f := by
  funext j
  exact if_neg (by omega)

theorem dn_PM_rank : y_PM_rank.cls ≠ "java/lang/invoke/MethodHandle" ∧ y_PM_rank.cls ≠ "java/lang/invoke/VarHandle" ∧ (parseMethodDescriptor y_PM_rank.desc).map (fun d => d.parameters.length) = some 1 := by decide +kernel
abbrev pr_PM_rank : List Value → Mm → Prop := preV 8 (fun k => a_I (fun x0 μ => FM μ ∧ (k = 109 ∧ PI μ.2.1 ∧ (14 ≤ x0 ∨ ¬ μ.2.1 109 8 = 0))))
abbrev po_PM_rank : List Value → Mm → Option Value → Mm → Prop := qV (fun k => b_I (fun x0 μ r μ' => r = some (.int (rkR μ.2.1 x0).1) ∧ μ' = (131, rkM μ.2.1 x0, μ.2.2.1, TT)))
theorem ft_PM_rank : ∀ as μ, pr_PM_rank as μ → μ.1 + 0 ≤ 131 ∧ cz μ.1 + 0 ≤ cz 131 := hf_S (n := 131) (Nat.le_refl _) (fun as μ h => by
  obtain ⟨k, r, rfl, hk, h⟩ := preV_e h
  obtain ⟨x0, rfl, h⟩ := a_I_e h
  exact h.1.1)
def C_PM_rank : Cf := fun id => match id with
  | 0 => trF (2 + 1) pr_PM_raised po_PM_raised
  | _ => fun _ _ _ => False
set_option maxRecDepth 100000 in
theorem cs_PM_rank (l : Launch) : ∀ x ∈ k_PM_rank, CS l R_PM b_PM_rank 5 (rmm 1 0 0) 131 131 C_PM_rank x := fc (CS.no rfl) (fc (CS.no rfl) (fc (CS.no rfl) (fc (CS.no rfl) (fc (CS.no rfl) (fc (CS.no rfl) (fc (CS.no rfl) (fc (CS.no rfl) (fc (CS.no rfl) (fc (CS.no rfl) (fc (CS.no rfl) (fc (CS.no rfl) (fc (CS.no rfl) (fc (CS.no rfl) (fc (CS.no rfl) (fc (CS.no rfl) (fc (CS.no rfl) (fc (CS.no rfl) (fc (CS.no rfl) (fc (CS.no rfl) (fc (CS.no rfl) (fc (CS.no rfl) (fc (CS.no rfl) (fc (CS.no rfl) (fc (CS.no rfl) (fc (CS.no rfl) (fc (CS.no rfl) (fc (CS.no rfl) (fc (CS.no rfl) (fc (CS.no rfl) (fc (CS.no rfl) (fc (CS.no rfl) (fc (CS.no rfl) (fc (CS.no rfl) (fc (CS.no rfl) (fc (CS.no rfl) (fc (CS.no rfl) (fc (CS.no rfl) (fc (CS.no rfl) (fc (CS.no rfl) (fc (CS.no rfl) (fc (CS.no rfl) (fc (CS.no rfl) (fc (CS.no rfl) (fc (CS.V c_PM_raised wk_PM_raised wl_PM_94 wm_PM_raised we_PM_raised rfl rfl wi_PM dn_PM_raised ⟨rfl, rfl⟩ ⟨by decide, by decide⟩ ft_PM_raised rfl (e_PM_rank_77).1) (fc (CS.no rfl) (fc (CS.no rfl) (fc (CS.no rfl) (fc (CS.no rfl) (fc (CS.no rfl) (fc (CS.no rfl) (fc (CS.no rfl) (fc (CS.no rfl) (fc (CS.no rfl) (fc (CS.no rfl) (fc (CS.no rfl) (fc (CS.no rfl) (fc (CS.no rfl) (fc (CS.no rfl) (fc (CS.no rfl) (fc (CS.no rfl) (fc (CS.V c_PM_raised wk_PM_raised wl_PM_94 wm_PM_raised we_PM_raised rfl rfl wi_PM dn_PM_raised ⟨rfl, rfl⟩ ⟨by decide, by decide⟩ ft_PM_raised rfl (e_PM_rank_112).1) (fc (CS.no rfl) (fc (CS.no rfl) (fc (CS.no rfl) (fc (CS.no rfl) (fc (CS.no rfl) (fc (CS.no rfl) (fc (CS.no rfl) (fc (CS.no rfl) (fc (CS.no rfl) (fc (CS.no rfl) (fc (CS.no rfl) (fc (CS.no rfl) (fc (CS.no rfl) (fc (CS.no rfl) (fc (CS.no rfl) (fc (CS.no rfl) (fc (CS.no rfl) (fc (CS.no rfl) (fc (CS.no rfl) (fc (CS.no rfl) (fc (CS.no rfl) (fc (CS.no rfl) (fc (CS.no rfl) (fc (CS.no rfl) (fc (CS.no rfl) (fc (CS.no rfl) (fun _ h => absurd h List.not_mem_nil))))))))))))))))))))))))))))))))))))))))))))))))))))))))))))))))))))))))))))))))))))))))
set_option maxRecDepth 100000 in
set_option maxHeartbeats 4000000 in
theorem c_PM_rank : Cn y_PM_rank b_PM_rank 5 (some .boolean) (rmm 1 0 0) (1 + 1) 0 0 pr_PM_rank po_PM_rank := cv_I (ci := 8) (f := fun k => fun x0 μ => FM μ ∧ (k = 109 ∧ PI μ.2.1 ∧ (14 ≤ x0 ∨ ¬ μ.2.1 109 8 = 0))) (g := fun k => fun x0 μ r μ' => r = some (.int (rkR μ.2.1 x0).1) ∧ μ' = (131, rkM μ.2.1 x0, μ.2.2.1, TT)) fun l k x0 μ hk h => by
  obtain ⟨hm, h⟩ := h
  obtain ⟨M, L, rfl⟩ := hm.e
  refine ky_met (own := R_PM) (ini := 0) (rb := 1) (nE := 131) (cd := k_PM_rank) (C := C_PM_rank) (by decide) rfl (fun h => by cases h) (Nat.le_of_ble_eq_true rfl) ⟨rfl, rfl⟩ (Or.inr (Or.inl ⟨rfl, rfl⟩)) rfl rfl (by decide) ok_PM_rank (cs_PM_rank l) rt_PM_rank (fun K hs => ?_)
  obtain ⟨rfl, hp, hq⟩ := h
  have hp : PI M := hp
  have hq : 14 ≤ x0 ∨ ¬ M 109 8 = 0 := hq
  obtain ⟨g, hg4, eg⟩ := hp.2.1
  have egc : (M 109 8).toNatClampNeg = g := by rw [eg]; exact nI_clamp (n := g) (by omega)
  have hof : ∀ i, i < 60 → vp_in (M 118 i) 14 := fun i hi => (hp.2.2.2.2.2.1 i hi).1.1
  -- the last loop
  have last : ∀ (N : Nat → Int32) (b : Int32), (b = 0 ∨ b = 1) → (b, N) = rkR M x0 → ∀ (n c : Nat), c + n = 14 → ∀ (F : Nat → Int32), F = (if b = 0 then M 114 else stc (M 114) N c) → ∀ l4 : Option Value, K 132 [some (.ref 109), some (.int x0), some (.int b), some (.int (nI c)), l4] [] (131, upr (upr M 115 N) 114 F, L, TT) := by
    intro N b hb he
    have out : ∀ (F : Nat → Int32) (c : Nat) (l4 : Option Value), F = (if b = 0 then M 114 else stc (M 114) N 14) → K 160 [some (.ref 109), some (.int x0), some (.int b), some (.int (nI c)), l4] [] (131, upr (upr M 115 N) 114 F, L, TT) := by
      intro F c l4 hF
      refine hs.go [160] 10 _ _ _ _ ⟨rfl, fun _ => hb, ?_, ?_⟩
      · rw [show b = (rkR M x0).1 from congrArg Prod.fst he]
      · show (131, upr (upr M 115 N) 114 F, L, TT) = (131, rkM M x0, L, TT)
        unfold rkM
        rw [← he, hF]
    intro n
    induction n with
    | zero =>
      intro c hc F hF l4
      have hc : c = 14 := by omega
      subst hc
      exact hs.go [132, 160] 40 _ _ _ _ ⟨fun _ => out F 14 l4 hF, fun z => absurd (Int32.le_refl _) z⟩
    | succ n ih =>
      intro c hc F hF l4
      have ic : vp_in (nI c) 14 := vp_in_nI (by omega) (by decide)
      have ec : (nI c).toNatClampNeg = c := nI_clamp (n := c) (by omega)
      refine hs.go [132, 160] 60 _ _ _ _ ⟨fun z => absurd z (nI_ge (a := c) (b := 14) (by omega) (by decide)), fun _ => ⟨fun h1 => out F c l4 ?_, fun h1 => ⟨rfl, _, rfl, rfl, _, rfl, rfl, ic, rfl, ic, ?_⟩⟩⟩
      · rw [hF, if_pos h1, if_pos h1]
      · have h9 := ih (c + 1) (by omega) (stc (M 114) N (c + 1)) (if_neg h1).symm l4
        rw [nI_succ, stc_s] at h9
        show K 132 _ _ (131, up2 (upr (upr M 115 N) 114 F) 114 (nI c).toNatClampNeg (N (nI c).toNatClampNeg), L, TT)
        rw [ec, hF, if_neg h1]
        exact h9
  have end130 : ∀ (N : Nat → Int32) (b : Int32) (l3 l4 : Option Value), (b = 0 ∨ b = 1) → (b, N) = rkR M x0 → K 130 [some (.ref 109), some (.int x0), some (.int b), l3, l4] [] (131, upr M 115 N, L, TT) := by
    intro N b l3 l4 hb he
    have h9 := last N b hb he 14 0 rfl (M 114) (by rw [stc_0]; exact (ite_self _).symm) l4
    have e : upr (upr M 115 N) 114 (M 114) = upr M 115 N := by
      have : M 114 = upr M 115 N 114 := rfl
      rw [this, upr_id]
    rw [e] at h9
    exact hs.go [130, 132] 10 _ _ _ _ h9
  -- the rounds
  have rnd : ∀ (n r : Nat), r + n = 40 → ∀ (N : Nat → Int32) (b : Int32) (l4 : Option Value), (b = 0 ∨ b = 1) → rkn M x0 n (b, N) = rkR M x0 → K 25 [some (.ref 109), some (.int x0), some (.int b), some (.int (nI r)), l4] [] (131, upr M 115 N, L, TT) := by
    intro n
    induction n with
    | zero =>
      intro r hr N b l4 hb he
      have hr : r = 40 := by omega
      subst hr
      exact hs.go [25, 130] 40 _ _ _ _ ⟨fun _ => end130 N b _ _ hb he, fun z => absurd (Int32.le_refl _) z⟩
    | succ n ih =>
      intro r hr N b l4 hb he
      have s124 : ∀ (N' : Nat → Int32) (b' : Int32) (l4 : Option Value), (b' = 0 ∨ b' = 1) → rkn M x0 n (b', N') = rkR M x0 → K 124 [some (.ref 109), some (.int x0), some (.int b'), some (.int (nI r)), l4] [] (131, upr M 115 N', L, TT) := by
        intro N' b' l4 hb' he'
        have h9 := ih (r + 1) (by omega) N' b' l4 hb' he'
        rw [nI_succ] at h9
        exact hs.go [124, 25] 10 _ _ _ _ h9
      have inner : ∀ (k j : Nat), j + k = 14 → ∀ (N' : Nat → Int32) (b' : Int32), (b' = 0 ∨ b' = 1) → rkn M x0 n (rkg M x0 (rkf M x0 k j (b', N'))) = rkR M x0 → K 38 [some (.ref 109), some (.int x0), some (.int b'), some (.int (nI r)), some (.int (nI j))] [] (131, upr M 115 N', L, TT) := by
        intro k
        induction k with
        | zero =>
          intro j hj N' b' hb' he'
          have hj : j = 14 := by omega
          subst hj
          have he' : rkn M x0 n (rkg M x0 (b', N')) = rkR M x0 := he'
          refine hs.go [38, 124] 60 _ _ _ _ ⟨fun _ => ⟨fun h1 => s124 N' b' _ hb' ?_, fun h1 => ⟨fun h2 => s124 N' 0 _ (Or.inl rfl) ?_, fun h2 => ⟨rfl, ⟨rfl, ⟨rfl, rfl⟩, rfl, 56, g, rfl, eg, by omega, ?_, fun i h3 h4 => hof i (by omega)⟩, rfl, rfl, ?_⟩⟩⟩, fun z => absurd (Int32.le_refl _) z⟩
          · rw [← he']
            unfold rkg
            rw [if_pos h1]
          · rw [← he']
            unfold rkg rkv
            rw [if_neg h1, if_pos h2]
          · have := hq.resolve_left h1
            rw [eg] at this
            exact Nat.pos_of_ne_zero (fun z => this (by rw [z]; rfl))
          · intro r' μ' hq'
            have g1 : r' = some (Value.int (b2 (rdl (M 118) (M 121) 56 (g - 1) 57 N' (M 118 56).toNatClampNeg ≤ 5))) := (hq' 56 g (by omega) rfl eg).1
            have g2 : μ' = (131, upr (upr M 115 N') 115 (rdl (M 118) (M 121) 56 (g - 1) 57 N'), L, TT) := (hq' 56 g (by omega) rfl eg).2
            rw [upr_upr] at g2
            rw [g1, g2]
            have e : rkg M x0 (b', N') = (b2 (rdl (M 118) (M 121) 56 (g - 1) 57 N' (M 118 56).toNatClampNeg ≤ 5), rdl (M 118) (M 121) 56 (g - 1) 57 N') := by
              unfold rkg rkv
              rw [if_neg h1, if_neg h2, egc]
            rw [e] at he'
            by_cases h3 : rdl (M 118) (M 121) 56 (g - 1) 57 N' (M 118 56).toNatClampNeg ≤ 5
            · rw [b2_t h3] at he' ⊢
              exact ⟨fun z => absurd z (by decide), fun _ => s124 _ 1 _ (Or.inr rfl) he'⟩
            · rw [b2_f h3] at he' ⊢
              exact ⟨fun _ => s124 _ 0 _ (Or.inl rfl) he', fun z => absurd rfl z⟩
        | succ k ihk =>
          intro j hj N' b' hb' he'
          have ij : vp_in (nI j) 14 := vp_in_nI (by omega) (by decide)
          have ej : (nI j).toNatClampNeg = j := nI_clamp (n := j) (by omega)
          obtain ⟨lt, hlt4, elt, hlt1⟩ := hp.2.2.2.2.1 j (by omega)
          have eltc : (M 117 j).toNatClampNeg = lt := by rw [elt]; exact nI_clamp (n := lt) (by omega)
          have s89 : ∀ (N'' : Nat → Int32) (b'' : Int32), (b'' = 0 ∨ b'' = 1) → (b'', N'') = rk1 M x0 j (b', N') → K 89 [some (.ref 109), some (.int x0), some (.int b''), some (.int (nI r)), some (.int (nI j))] [] (131, upr M 115 N'', L, TT) := by
            intro N'' b'' hb'' he''
            have h9 := ihk (j + 1) (by omega) N'' b'' hb'' (by rw [he'']; exact he')
            rw [nI_succ] at h9
            exact hs.go [89, 38] 10 _ _ _ _ h9
          have e4 : 4 * nI j = nI (4 * j) := pk_mul 4 j
          refine hs.go [38, 89] 60 _ _ _ _ ⟨fun z => absurd z (nI_ge (a := j) (b := 14) (by omega) (by decide)), fun _ => ⟨rfl, _, rfl, rfl, ij, ?_⟩⟩
          show (M 116 (nI j).toNatClampNeg = 0 → _) ∧ (¬ M 116 (nI j).toNatClampNeg = 0 → _)
          rw [ej]
          refine ⟨fun h1 => s89 N' b' hb' (if_pos h1).symm, fun h1 => ⟨fun h2 => s89 N' b' hb' ((if_neg h1).trans (if_pos h2)).symm, fun h2 => ⟨fun h3 => s89 N' 0 (Or.inl rfl) ((if_neg h1).trans ((if_neg h2).trans (if_pos h3))).symm, fun h3 => ⟨rfl, _, rfl, rfl, ij, ⟨rfl, ⟨rfl, rfl⟩, rfl, 4 * j, lt, e4, ?_, by omega, hlt1 h1, fun i h4 h5 => hof i (by omega)⟩, rfl, rfl, ?_⟩⟩⟩⟩
          · show M 117 (nI j).toNatClampNeg = nI lt
            rw [ej]; exact elt
          · intro r' μ' hq'
            have hq2 := hq' (4 * j) lt (by omega) e4 (show M 117 (nI j).toNatClampNeg = nI lt by rw [ej]; exact elt)
            have g1 : r' = some (Value.int (b2 (rdl (M 118) (M 121) (4 * j) (lt - 1) (4 * j + 1) N' (M 118 (4 * j)).toNatClampNeg ≤ 5))) := hq2.1
            have g2 : μ' = (131, upr (upr M 115 N') 115 (rdl (M 118) (M 121) (4 * j) (lt - 1) (4 * j + 1) N'), L, TT) := hq2.2
            rw [upr_upr] at g2
            rw [g1, g2]
            have e : rk1 M x0 j (b', N') = (b2 (rdl (M 118) (M 121) (4 * j) (lt - 1) (4 * j + 1) N' (M 118 (4 * j)).toNatClampNeg ≤ 5), rdl (M 118) (M 121) (4 * j) (lt - 1) (4 * j + 1) N') := by
              unfold rk1 rkv
              rw [if_neg h1, if_neg h2, if_neg h3, eltc]
            by_cases h4 : rdl (M 118) (M 121) (4 * j) (lt - 1) (4 * j + 1) N' (M 118 (4 * j)).toNatClampNeg ≤ 5
            · rw [b2_t h4] at e ⊢
              exact ⟨fun z => absurd z (by decide), fun _ => s89 _ 1 (Or.inr rfl) e.symm⟩
            · rw [b2_f h4] at e ⊢
              exact ⟨fun _ => s89 _ 0 (Or.inl rfl) e.symm, fun z => absurd rfl z⟩
      refine hs.go [25, 130, 38] 60 _ _ _ _ ⟨fun z => absurd z (nI_ge (a := r) (b := 40) (by omega) (by decide)), fun _ => ⟨fun h1 => end130 N b _ _ hb ?_, fun h1 => inner 14 0 rfl N b hb ?_⟩⟩
      · rw [← he]
        exact (if_pos h1).symm
      · rw [← he]
        exact (if_neg h1).symm
  have first : ∀ (n c : Nat), c + n = 14 → K 2 [some (.ref 109), some (.int x0), some (.int (nI c)), none, none] [] (131, upr M 115 (stc (M 115) (fun _ => 0) c), L, TT) := by
    intro n
    induction n with
    | zero =>
      intro c hc
      have hc : c = 14 := by omega
      subst hc
      exact hs.go [2, 25] 40 _ _ _ _ ⟨fun _ => rnd 40 0 rfl _ 1 none (Or.inr rfl) rfl, fun z => absurd (Int32.le_refl _) z⟩
    | succ n ih =>
      intro c hc
      have ic : vp_in (nI c) 14 := vp_in_nI (by omega) (by decide)
      have ec : (nI c).toNatClampNeg = c := nI_clamp (n := c) (by omega)
      have h9 := ih (c + 1) (by omega)
      rw [nI_succ, stc_s] at h9
      refine hs.go [2, 25] 40 _ _ _ _ ⟨fun z => absurd z (nI_ge (a := c) (b := 14) (by omega) (by decide)), fun _ => ⟨rfl, _, rfl, rfl, ic, ?_⟩⟩
      show K 2 _ _ (131, up2 (upr M 115 (stc (M 115) (fun _ => 0) c)) 115 (nI c).toNatClampNeg 0, L, TT)
      rw [ec]
      exact h9
  have h0 := first 14 0 rfl
  rw [stc_0, upr_id] at h0
  exact hs.go [2] 40 _ _ _ _ h0
