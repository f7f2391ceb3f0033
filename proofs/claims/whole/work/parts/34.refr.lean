def ngv (b : Int32) : Int32 := if b = 0 then 0 else 1
def mxv (y z : Int32) : Int32 := if y ≤ z then z else y
def rd1 (f g : Nat → Int32) (a i : Nat) (N : Nat → Int32) : Nat → Int32 := upd N (f a).toNatClampNeg (mxv (N (f i).toNatClampNeg + ngv (g i)) (N (f a).toNatClampNeg))
def rdl (f g : Nat → Int32) (a : Nat) : Nat → Nat → (Nat → Int32) → Nat → Int32
  | 0, _, N => N
  | n + 1, i, N => rdl f g a n (i + 1) (rd1 f g a i N)
def cvl (M : mM) (t : Int32) : Nat → Nat → Int32 → Int32
  | 0, _, b => b
  | n + 1, i, b => cvl M t n (i + 1) (b2 (¬ b = 0 ∨ (M 121 i = 0 ∧ (M 119 i = t ∨ (M 110 (M 118 i).toNatClampNeg = 2 ∧ M 120 i = t)))))
def cvR (M : mM) (t : Int32) : Int32 := if 10 ≤ t then cvl M t ((M 109 8).toNatClampNeg - 1) 57 0 else 1
def sfl (M : mM) : Nat → Nat → Int32 → Int32
  | 0, _, b => b
  | n + 1, i, b => sfl M n (i + 1) (b2 (¬ b = 0 ∧ ((¬ nI i = 56 ∧ M 121 i = 0) ∨ (¬ cvR M (M 119 i) = 0 ∧ (una M i ∨ ¬ cvR M (M 120 i) = 0)))))
def frl (M : mM) : Nat → Nat → Int32
  | 0, i => nI i
  | n + 1, i => if M 116 i = 0 then nI i else frl M n (i + 1)
theorem cvl_01 {M : mM} {t : Int32} : ∀ n i b, (b = 0 ∨ b = 1) → (cvl M t n i b = 0 ∨ cvl M t n i b = 1)
  | 0, _, _, h => h
  | n + 1, i, b, _ => cvl_01 n (i + 1) _ (b2_01 _)

theorem dn_PM_raised : y_PM_raised.cls ≠ "java/lang/invoke/MethodHandle" ∧ y_PM_raised.cls ≠ "java/lang/invoke/VarHandle" ∧ (parseMethodDescriptor y_PM_raised.desc).map (fun d => d.parameters.length) = some 2 := by decide +kernel
abbrev pr_PM_raised : List Value → Mm → Prop := preV 8 (fun k => a_II (fun x0 x1 μ => FM μ ∧ (k = 109 ∧ ∃ a m, x0 = nI a ∧ x1 = nI m ∧ a + m ≤ 60 ∧ 1 ≤ m ∧ (∀ i, a ≤ i → i < a + m → vp_in (μ.2.1 118 i) 14))))
abbrev po_PM_raised : List Value → Mm → Option Value → Mm → Prop := qV (fun k => b_II (fun x0 x1 μ r μ' => ∀ a m, a + m ≤ 60 → x0 = nI a → x1 = nI m → r = some (.int (b2 (rdl (μ.2.1 118) (μ.2.1 121) a (m - 1) (a + 1) (μ.2.1 115) (μ.2.1 118 a).toNatClampNeg ≤ 5))) ∧ μ' = (131, upr μ.2.1 115 (rdl (μ.2.1 118) (μ.2.1 121) a (m - 1) (a + 1) (μ.2.1 115)), μ.2.2.1, TT)))
theorem ft_PM_raised : ∀ as μ, pr_PM_raised as μ → μ.1 + 0 ≤ 131 ∧ cz μ.1 + 0 ≤ cz 131 := hf_S (n := 131) (Nat.le_refl _) (fun as μ h => by
  obtain ⟨k, r, rfl, hk, h⟩ := preV_e h
  obtain ⟨x0, x1, rfl, h⟩ := a_II_e h
  exact h.1.1)
theorem nc_PM_raised : ∀ x ∈ k_PM_raised, isInv x.2.1 = false := by decide +kernel
set_option maxRecDepth 100000 in
set_option maxHeartbeats 4000000 in
theorem c_PM_raised : Cn y_PM_raised b_PM_raised 5 (some .boolean) (rmm 0 0 0) (2 + 1) 0 0 pr_PM_raised po_PM_raised := cv_II (ci := 8) (f := fun k => fun x0 x1 μ => FM μ ∧ (k = 109 ∧ ∃ a m, x0 = nI a ∧ x1 = nI m ∧ a + m ≤ 60 ∧ 1 ≤ m ∧ (∀ i, a ≤ i → i < a + m → vp_in (μ.2.1 118 i) 14))) (g := fun k => fun x0 x1 μ r μ' => ∀ a m, a + m ≤ 60 → x0 = nI a → x1 = nI m → r = some (.int (b2 (rdl (μ.2.1 118) (μ.2.1 121) a (m - 1) (a + 1) (μ.2.1 115) (μ.2.1 118 a).toNatClampNeg ≤ 5))) ∧ μ' = (131, upr μ.2.1 115 (rdl (μ.2.1 118) (μ.2.1 121) a (m - 1) (a + 1) (μ.2.1 115)), μ.2.2.1, TT)) fun l k x0 x1 μ hk h => by
  obtain ⟨hm, h⟩ := h
  obtain ⟨M, L, rfl⟩ := hm.e
  refine ky_met (own := R_PM) (ini := 0) (rb := 1) (nE := 131) (cd := k_PM_raised) (C := (fun _ _ _ _ => False)) (by decide) rfl (fun h => by cases h) (Nat.le_of_ble_eq_true rfl) ⟨rfl, rfl⟩ (Or.inr (Or.inl ⟨rfl, rfl⟩)) rfl rfl (by decide) ok_PM_raised (fun x hx => CS.no (nc_PM_raised x hx)) rt_PM_raised (fun K hs => ?_)
  obtain ⟨rfl, a, m, rfl, rfl, ham, hm1, hro⟩ := h
  have hro : ∀ i, a ≤ i → i < a + m → vp_in (M 118 i) 14 := hro
  have ea : (nI a).toNatClampNeg = a := nI_clamp (n := a) (by omega)
  have ia : vp_in (nI a) 60 := vp_in_nI (by omega) (by decide)
  have i14 : vp_in (M 118 (nI a).toNatClampNeg) 14 := by rw [ea]; exact hro a (by omega) (by omega)
  have post : ∀ (r : Option Value) (μ' : Mm), (r = some (.int (b2 (rdl (M 118) (M 121) a (m - 1) (a + 1) (M 115) (M 118 a).toNatClampNeg ≤ 5))) ∧ μ' = (131, upr M 115 (rdl (M 118) (M 121) a (m - 1) (a + 1) (M 115)), L, TT)) → ∀ a' m', a' + m' ≤ 60 → nI a = nI a' → nI m = nI m' → r = some (.int (b2 (rdl (M 118) (M 121) a' (m' - 1) (a' + 1) (M 115) (M 118 a').toNatClampNeg ≤ 5))) ∧ μ' = (131, upr M 115 (rdl (M 118) (M 121) a' (m' - 1) (a' + 1) (M 115)), L, TT) := by
    intro r μ' hr a' m' h1 h2 h3
    have e1 : a = a' := (nI_eq (by omega) (by omega)).mp h2
    have e2 : m = m' := (nI_eq (by omega) (by omega)).mp h3
    subst e1; subst e2
    exact hr
  have loop : ∀ (n i : Nat), i + n = a + m → a < i → ∀ (N : Nat → Int32) (l4 : Option Value), rdl (M 118) (M 121) a n i N = rdl (M 118) (M 121) a (m - 1) (a + 1) (M 115) → K 4 [some (.ref 109), some (.int (nI a)), some (.int (nI m)), some (.int (nI i)), l4] [] (131, upr M 115 N, L, TT) := by
    intro n
    induction n with
    | zero =>
      intro i hi ha N l4 hN
      have hi : i = a + m := by omega
      subst hi
      have hN : N = rdl (M 118) (M 121) a (m - 1) (a + 1) (M 115) := hN
      refine hs.go [4] 60 _ _ _ _ ⟨fun _ => ⟨rfl, _, rfl, rfl, _, rfl, rfl, ia, rfl, i14, fun h1 => ⟨rfl, fun _ => Or.inl rfl, post _ _ ⟨vb_f ?_, by rw [hN]⟩⟩, fun h1 => ⟨rfl, fun _ => Or.inr rfl, post _ _ ⟨vb_t ?_, by rw [hN]⟩⟩⟩, fun z => absurd (show nI a + nI m ≤ nI (a + m) by rw [nI_add]; exact Int32.le_refl _) z⟩
      · have h1 : 5 < N (M 118 (nI a).toNatClampNeg).toNatClampNeg := h1
        rw [ea, hN] at h1
        exact Int32.not_le.mpr h1
      · have h1 : ¬ 5 < N (M 118 (nI a).toNatClampNeg).toNatClampNeg := h1
        rw [ea, hN] at h1
        exact Int32.not_lt.mp h1
    | succ n ih =>
      intro i hi ha N l4 hN
      have ei : (nI i).toNatClampNeg = i := nI_clamp (n := i) (by omega)
      have ii : vp_in (nI i) 60 := vp_in_nI (by omega) (by decide)
      have j14 : vp_in (M 118 (nI i).toNatClampNeg) 14 := by rw [ei]; exact hro i (by omega) (by omega)
      have s39 : ∀ y : Int32, y = N (M 118 i).toNatClampNeg + ngv (M 121 i) → K 39 [some (.ref 109), some (.int (nI a)), some (.int (nI m)), some (.int (nI i)), some (.int y)] [] (131, upr M 115 N, L, TT) := by
        intro y hy
        have fin : ∀ x : Int32, x = mxv y (N (M 118 a).toNatClampNeg) → K 4 [some (.ref 109), some (.int (nI a)), some (.int (nI m)), some (.int (nI i + 1)), some (.int y)] [] (131, up2 (upr M 115 N) 115 (M 118 (nI a).toNatClampNeg).toNatClampNeg x, L, TT) := by
          intro x hx
          have h9 := ih (i + 1) (by omega) (by omega) (rd1 (M 118) (M 121) a i N) (some (.int y)) hN
          rw [nI_succ] at h9
          have e : upr M 115 (rd1 (M 118) (M 121) a i N) = up2 (upr M 115 N) 115 (M 118 (nI a).toNatClampNeg).toNatClampNeg x := by
            rw [up2_upr, upr_upr, upr_s, ea, hx, hy]
            rfl
          rw [e] at h9
          exact h9
        refine hs.go [39, 4] 60 _ _ _ _ ⟨rfl, _, rfl, rfl, _, rfl, rfl, ia, rfl, _, rfl, rfl, _, rfl, rfl, ia, rfl, i14, fun h1 => ⟨rfl, _, rfl, rfl, _, rfl, rfl, ia, rfl, i14, rfl, i14, fin _ ?_⟩, fun h1 => ⟨rfl, i14, fin _ ?_⟩⟩
        · have h1 : y ≤ N (M 118 (nI a).toNatClampNeg).toNatClampNeg := h1
          show N (M 118 (nI a).toNatClampNeg).toNatClampNeg = _
          rw [ea] at h1 ⊢
          exact (if_pos h1).symm
        · have h1 : ¬ y ≤ N (M 118 (nI a).toNatClampNeg).toNatClampNeg := h1
          rw [ea] at h1
          exact (if_neg h1).symm
      refine hs.go [4, 39] 60 _ _ _ _ ⟨fun z => absurd (show nI a + nI m ≤ nI i from z) (by rw [nI_add]; exact nI_ge (a := i) (b := a + m) (by omega) (by omega)), fun _ => ⟨rfl, _, rfl, rfl, _, rfl, rfl, ii, rfl, j14, rfl, _, rfl, rfl, ii, fun h1 => s39 _ ?_, fun h1 => s39 _ ?_⟩⟩
      · have h1 : M 121 (nI i).toNatClampNeg = 0 := h1
        show N (M 118 (nI i).toNatClampNeg).toNatClampNeg + 0 = _
        rw [ei] at h1 ⊢
        unfold ngv
        rw [if_pos h1]
      · have h1 : ¬ M 121 (nI i).toNatClampNeg = 0 := h1
        show N (M 118 (nI i).toNatClampNeg).toNatClampNeg + 1 = _
        rw [ei] at h1 ⊢
        unfold ngv
        rw [if_neg h1]
  have h0 := loop (m - 1) (a + 1) (by omega) (by omega) (M 115) none rfl
  rw [nI_succ, upr_id] at h0
  exact hs.go [4] 40 _ _ _ _ h0

theorem dn_PM_freeRule : y_PM_freeRule.cls ≠ "java/lang/invoke/MethodHandle" ∧ y_PM_freeRule.cls ≠ "java/lang/invoke/VarHandle" ∧ (parseMethodDescriptor y_PM_freeRule.desc).map (fun d => d.parameters.length) = some 0 := by decide +kernel
abbrev pr_PM_freeRule : List Value → Mm → Prop := preV 8 (fun k => a_0 (fun μ => FM μ ∧ (k = 109)))
abbrev po_PM_freeRule : List Value → Mm → Option Value → Mm → Prop := qV (fun k => b_0 (fun μ r μ' => r = some (.int (frl μ.2.1 8 6)) ∧ μ' = μ))
theorem ft_PM_freeRule : ∀ as μ, pr_PM_freeRule as μ → μ.1 + 0 ≤ 131 ∧ cz μ.1 + 0 ≤ cz 131 := hf_S (n := 131) (Nat.le_refl _) (fun as μ h => by
  obtain ⟨k, r, rfl, hk, h⟩ := preV_e h
  obtain ⟨rfl, h⟩ := a_0_e h
  exact h.1.1)
theorem nc_PM_freeRule : ∀ x ∈ k_PM_freeRule, isInv x.2.1 = false := by decide +kernel
set_option maxRecDepth 100000 in
set_option maxHeartbeats 4000000 in
theorem c_PM_freeRule : Cn y_PM_freeRule b_PM_freeRule 2 (some .int) (rmm 0 0 0) (0 + 1) 0 0 pr_PM_freeRule po_PM_freeRule := cv_0 (ci := 8) (f := fun k => fun μ => FM μ ∧ (k = 109)) (g := fun k => fun μ r μ' => r = some (.int (frl μ.2.1 8 6)) ∧ μ' = μ) fun l k  μ hk h => by
  obtain ⟨hm, h⟩ := h
  obtain ⟨M, L, rfl⟩ := hm.e
  refine ky_met (own := R_PM) (ini := 0) (rb := 0) (nE := 131) (cd := k_PM_freeRule) (C := (fun _ _ _ _ => False)) (by decide) rfl (fun h => by cases h) (Nat.le_of_ble_eq_true rfl) ⟨rfl, rfl⟩ (Or.inl ⟨rfl, rfl⟩) rfl rfl (by decide) ok_PM_freeRule (fun x hx => CS.no (nc_PM_freeRule x hx)) rt_PM_freeRule (fun K hs => ?_)
  subst h
  have loop : ∀ (n c : Nat), c + n = 14 → frl M n c = frl M 8 6 → K 3 [some (.ref 109), some (.int (nI c))] [] (131, M, L, TT) := by
    intro n
    induction n with
    | zero =>
      intro c hc hf
      rw [show c = 14 by omega] at hf ⊢
      exact hs.go [3] 40 _ _ _ _ ⟨fun _ => ⟨rfl, fun z => (by cases z), congrArg (fun v => some (Value.int v)) hf, rfl⟩, fun z => absurd (by decide) z⟩
    | succ n ih =>
      intro c hc hf
      have ec : (nI c).toNatClampNeg = c := nI_clamp (n := c) (by omega)
      refine hs.go [3] 40 _ _ _ _ ⟨fun z => absurd z (nI_ge (a := c) (b := 14) (by omega) (by decide)), fun _ => ⟨rfl, _, rfl, rfl, (vp_in_nI (n := c) (N := 14) (by omega) (by decide)), fun h1 => ⟨rfl, fun z => (by cases z), congrArg (fun v => some (Value.int v)) (Eq.trans ?_ hf), rfl⟩, fun h1 => ?_⟩⟩
      · have h1 : M 116 (nI c).toNatClampNeg = 0 := h1
        rw [ec] at h1
        exact (if_pos h1).symm
      · have h1 : ¬ M 116 (nI c).toNatClampNeg = 0 := h1
        rw [ec] at h1
        have h9 := ih (c + 1) (by omega) (by rw [← hf]; exact (if_neg h1).symm)
        rw [nI_succ] at h9
        exact h9
  exact hs.go [3] 40 _ _ _ _ (loop 8 6 rfl rfl)

theorem dn_PM_covered : y_PM_covered.cls ≠ "java/lang/invoke/MethodHandle" ∧ y_PM_covered.cls ≠ "java/lang/invoke/VarHandle" ∧ (parseMethodDescriptor y_PM_covered.desc).map (fun d => d.parameters.length) = some 1 := by decide +kernel
abbrev pr_PM_covered : List Value → Mm → Prop := preV 8 (fun k => a_I (fun x0 μ => FM μ ∧ (k = 109 ∧ PI μ.2.1)))
abbrev po_PM_covered : List Value → Mm → Option Value → Mm → Prop := qV (fun k => b_I (fun x0 μ r μ' => r = some (.int (cvR μ.2.1 x0)) ∧ μ' = μ))
theorem ft_PM_covered : ∀ as μ, pr_PM_covered as μ → μ.1 + 0 ≤ 131 ∧ cz μ.1 + 0 ≤ cz 131 := hf_S (n := 131) (Nat.le_refl _) (fun as μ h => by
  obtain ⟨k, r, rfl, hk, h⟩ := preV_e h
  obtain ⟨x0, rfl, h⟩ := a_I_e h
  exact h.1.1)
theorem nc_PM_covered : ∀ x ∈ k_PM_covered, isInv x.2.1 = false := by decide +kernel
set_option maxRecDepth 100000 in
set_option maxHeartbeats 4000000 in
theorem c_PM_covered : Cn y_PM_covered b_PM_covered 4 (some .boolean) (rmm 0 0 0) (1 + 1) 0 0 pr_PM_covered po_PM_covered := cv_I (ci := 8) (f := fun k => fun x0 μ => FM μ ∧ (k = 109 ∧ PI μ.2.1)) (g := fun k => fun x0 μ r μ' => r = some (.int (cvR μ.2.1 x0)) ∧ μ' = μ) fun l k x0 μ hk h => by
  obtain ⟨hm, h⟩ := h
  obtain ⟨M, L, rfl⟩ := hm.e
  refine ky_met (own := R_PM) (ini := 0) (rb := 1) (nE := 131) (cd := k_PM_covered) (C := (fun _ _ _ _ => False)) (by decide) rfl (fun h => by cases h) (Nat.le_of_ble_eq_true rfl) ⟨rfl, rfl⟩ (Or.inr (Or.inl ⟨rfl, rfl⟩)) rfl rfl (by decide) ok_PM_covered (fun x hx => CS.no (nc_PM_covered x hx)) rt_PM_covered (fun K hs => ?_)
  obtain ⟨rfl, hp⟩ := h
  have hp : PI M := hp
  obtain ⟨g, hg4, eg⟩ := hp.2.1
  have egc : (M 109 8).toNatClampNeg = g := by rw [eg]; exact nI_clamp (n := g) (by omega)
  have loop : 10 ≤ x0 → ∀ (n i : Nat), i + n = 57 + (g - 1) → 57 ≤ i → ∀ b : Int32, (b = 0 ∨ b = 1) → cvl M x0 n i b = cvl M x0 (g - 1) 57 0 → K 13 [some (.ref 109), some (.int x0), some (.int b), some (.int (nI i))] [] (131, M, L, TT) := by
    intro h10 n
    induction n with
    | zero =>
      intro i hi hi57 b hb hN
      refine hs.go [13] 40 _ _ _ _ ⟨rfl, fun _ => ⟨rfl, fun _ => hb, ?_, rfl⟩, fun z => absurd (show nI 56 + M 109 8 ≤ nI i by rw [eg, nI_add]; exact nI_le (a := 56 + g) (b := i) (by omega) (by omega)) z⟩
      show some (Value.int b) = some (Value.int (cvR M x0))
      unfold cvR
      rw [if_pos h10, egc, ← hN]
      rfl
    | succ n ih =>
      intro i hi hi57 b hb hN
      have ei : (nI i).toNatClampNeg = i := nI_clamp (n := i) (by omega)
      have ii : vp_in (nI i) 60 := vp_in_nI (by omega) (by decide)
      have j14 : vp_in (M 118 (nI i).toNatClampNeg) 14 := by rw [ei]; exact (hp.2.2.2.2.2.1 i (by omega)).1.1
      have s77 : ∀ b' : Int32, b' = b2 (¬ b = 0 ∨ (M 121 i = 0 ∧ (M 119 i = x0 ∨ (M 110 (M 118 i).toNatClampNeg = 2 ∧ M 120 i = x0)))) → K 77 [some (.ref 109), some (.int x0), some (.int b), some (.int (nI i))] [.int b'] (131, M, L, TT) := by
        intro b' hb'
        have h9 := ih (i + 1) (by omega) (by omega) b' (by rw [hb']; exact b2_01 _) (by rw [← hN, hb']; rfl)
        rw [nI_succ] at h9
        exact hs.go [77, 13] 10 _ _ _ _ h9
      refine hs.go [13, 77] 60 _ _ _ _ ⟨rfl, fun z => absurd (show nI 56 + M 109 8 ≤ nI i from z) (by rw [eg, nI_add]; exact nI_ge (a := i) (b := 56 + g) (by omega) (by omega)), fun _ => ⟨fun h1 => s77 1 (b2_t (Or.inl h1)).symm, fun h1 => ⟨rfl, _, rfl, rfl, ii, ?_⟩⟩⟩
      show (¬ M 121 (nI i).toNatClampNeg = 0 → _) ∧ (M 121 (nI i).toNatClampNeg = 0 → _)
      rw [ei]
      refine ⟨fun h2 => s77 0 (b2_f (fun z => z.elim (fun q => q h1) (fun q => h2 q.1))).symm, fun h2 => ⟨rfl, _, rfl, rfl, ii, ?_⟩⟩
      show (M 119 (nI i).toNatClampNeg = x0 → _) ∧ (¬ M 119 (nI i).toNatClampNeg = x0 → _)
      rw [ei]
      refine ⟨fun h3 => s77 1 (b2_t (Or.inr ⟨h2, Or.inl h3⟩)).symm, fun h3 => ⟨rfl, _, rfl, rfl, _, rfl, rfl, ii, rfl, j14, ?_⟩⟩
      show (¬ M 110 (M 118 (nI i).toNatClampNeg).toNatClampNeg = 2 → _) ∧ (M 110 (M 118 (nI i).toNatClampNeg).toNatClampNeg = 2 → _)
      rw [ei]
      refine ⟨fun h4 => s77 0 (b2_f (fun z => z.elim (fun q => q h1) (fun q => q.2.elim h3 (fun w => h4 w.1)))).symm, fun h4 => ⟨rfl, _, rfl, rfl, ii, ?_⟩⟩
      show (¬ M 120 (nI i).toNatClampNeg = x0 → _) ∧ (M 120 (nI i).toNatClampNeg = x0 → _)
      rw [ei]
      exact ⟨fun h5 => s77 0 (b2_f (fun z => z.elim (fun q => q h1) (fun q => q.2.elim h3 (fun w => h5 w.2)))).symm, fun h5 => s77 1 (b2_t (Or.inr ⟨h2, Or.inr ⟨h4, h5⟩⟩)).symm⟩
  exact hs.go [13] 40 _ _ _ _ ⟨fun h1 => loop h1 (g - 1) 57 rfl (Nat.le_refl _) 0 (Or.inl rfl) rfl, fun h1 => ⟨rfl, fun _ => Or.inr rfl, congrArg (fun v => some (Value.int v)) (if_neg h1).symm, rfl⟩⟩

theorem dn_PM_safe : y_PM_safe.cls ≠ "java/lang/invoke/MethodHandle" ∧ y_PM_safe.cls ≠ "java/lang/invoke/VarHandle" ∧ (parseMethodDescriptor y_PM_safe.desc).map (fun d => d.parameters.length) = some 0 := by decide +kernel
abbrev pr_PM_safe : List Value → Mm → Prop := preV 8 (fun k => a_0 (fun μ => FM μ ∧ (k = 109 ∧ PI μ.2.1)))
abbrev po_PM_safe : List Value → Mm → Option Value → Mm → Prop := qV (fun k => b_0 (fun μ r μ' => r = some (.int (sfl μ.2.1 (μ.2.1 109 8).toNatClampNeg 56 1)) ∧ μ' = μ))
theorem ft_PM_safe : ∀ as μ, pr_PM_safe as μ → μ.1 + 0 ≤ 131 ∧ cz μ.1 + 0 ≤ cz 131 := hf_S (n := 131) (Nat.le_refl _) (fun as μ h => by
  obtain ⟨k, r, rfl, hk, h⟩ := preV_e h
  obtain ⟨rfl, h⟩ := a_0_e h
  exact h.1.1)
def C_PM_safe : Cf := fun id => match id with
  | 0 => trF (1 + 1) pr_PM_covered po_PM_covered
  | _ => fun _ _ _ => False
set_option maxRecDepth 100000 in
theorem cs_PM_safe (l : Launch) : ∀ x ∈ k_PM_safe, CS l R_PM b_PM_safe 4 (rmm 1 0 0) 131 131 C_PM_safe x := fc (CS.no rfl) (fc (CS.no rfl) (fc (CS.no rfl) (fc (CS.no rfl) (fc (CS.no rfl) (fc (CS.no rfl) (fc (CS.no rfl) (fc (CS.no rfl) (fc (CS.no rfl) (fc (CS.no rfl) (fc (CS.no rfl) (fc (CS.no rfl) (fc (CS.no rfl) (fc (CS.no rfl) (fc (CS.no rfl) (fc (CS.no rfl) (fc (CS.no rfl) (fc (CS.no rfl) (fc (CS.no rfl) (fc (CS.no rfl) (fc (CS.no rfl) (fc (CS.no rfl) (fc (CS.no rfl) (fc (CS.no rfl) (fc (CS.no rfl) (fc (CS.no rfl) (fc (CS.no rfl) (fc (CS.no rfl) (fc (CS.no rfl) (fc (CS.no rfl) (fc (CS.no rfl) (fc (CS.V c_PM_covered wk_PM_covered wl_PM_153 wm_PM_covered we_PM_covered rfl rfl wi_PM dn_PM_covered ⟨rfl, rfl⟩ ⟨by decide, by decide⟩ ft_PM_covered rfl (e_PM_safe_52).1) (fc (CS.no rfl) (fc (CS.no rfl) (fc (CS.no rfl) (fc (CS.no rfl) (fc (CS.no rfl) (fc (CS.no rfl) (fc (CS.no rfl) (fc (CS.no rfl) (fc (CS.no rfl) (fc (CS.no rfl) (fc (CS.no rfl) (fc (CS.no rfl) (fc (CS.no rfl) (fc (CS.no rfl) (fc (CS.no rfl) (fc (CS.V c_PM_covered wk_PM_covered wl_PM_153 wm_PM_covered we_PM_covered rfl rfl wi_PM dn_PM_covered ⟨rfl, rfl⟩ ⟨by decide, by decide⟩ ft_PM_covered rfl (e_PM_safe_80).1) (fc (CS.no rfl) (fc (CS.no rfl) (fc (CS.no rfl) (fc (CS.no rfl) (fc (CS.no rfl) (fc (CS.no rfl) (fc (CS.no rfl) (fc (CS.no rfl) (fc (CS.no rfl) (fun _ h => absurd h List.not_mem_nil)))))))))))))))))))))))))))))))))))))))))))))))))))))))))
set_option maxRecDepth 100000 in
set_option maxHeartbeats 4000000 in
theorem c_PM_safe : Cn y_PM_safe b_PM_safe 4 (some .boolean) (rmm 1 0 0) (0 + 1) 0 0 pr_PM_safe po_PM_safe := cv_0 (ci := 8) (f := fun k => fun μ => FM μ ∧ (k = 109 ∧ PI μ.2.1)) (g := fun k => fun μ r μ' => r = some (.int (sfl μ.2.1 (μ.2.1 109 8).toNatClampNeg 56 1)) ∧ μ' = μ) fun l k  μ hk h => by
  obtain ⟨hm, h⟩ := h
  obtain ⟨M, L, rfl⟩ := hm.e
  refine ky_met (own := R_PM) (ini := 0) (rb := 1) (nE := 131) (cd := k_PM_safe) (C := C_PM_safe) (by decide) rfl (fun h => by cases h) (Nat.le_of_ble_eq_true rfl) ⟨rfl, rfl⟩ (Or.inr (Or.inl ⟨rfl, rfl⟩)) rfl rfl (by decide) ok_PM_safe (cs_PM_safe l) rt_PM_safe (fun K hs => ?_)
  obtain ⟨rfl, hp⟩ := h
  have hp : PI M := hp
  obtain ⟨g, hg4, eg⟩ := hp.2.1
  have egc : (M 109 8).toNatClampNeg = g := by rw [eg]; exact nI_clamp (n := g) (by omega)
  have loop : ∀ (n i : Nat), i + n = 56 + g → 56 ≤ i → ∀ (b : Int32) (l3 : Option Value), (b = 0 ∨ b = 1) → sfl M n i b = sfl M g 56 1 → K 5 [some (.ref 109), some (.int b), some (.int (nI i)), l3] [] (131, M, L, TT) := by
    intro n
    induction n with
    | zero =>
      intro i hi hi57 b l3 hb hN
      refine hs.go [5] 40 _ _ _ _ ⟨rfl, fun _ => ⟨rfl, fun _ => hb, ?_, rfl⟩, fun z => absurd (show nI 56 + M 109 8 ≤ nI i by rw [eg, nI_add]; exact nI_le (a := 56 + g) (b := i) (by omega) (by omega)) z⟩
      show some (Value.int b) = some (Value.int (sfl M (M 109 8).toNatClampNeg 56 1))
      rw [egc, ← hN]
      rfl
    | succ n ih =>
      intro i hi hi57 b l3 hb hN
      have ei : (nI i).toNatClampNeg = i := nI_clamp (n := i) (by omega)
      have ii : vp_in (nI i) 60 := vp_in_nI (by omega) (by decide)
      have j14 : vp_in (M 118 (nI i).toNatClampNeg) 14 := by rw [ei]; exact (hp.2.2.2.2.2.1 i (by omega)).1.1
      have s91 : ∀ b' m : Int32, b' = b2 (¬ b = 0 ∧ ((¬ nI i = 56 ∧ M 121 i = 0) ∨ (¬ cvR M (M 119 i) = 0 ∧ (una M i ∨ ¬ cvR M (M 120 i) = 0)))) → K 91 [some (.ref 109), some (.int b), some (.int (nI i)), some (.int m)] [.int b'] (131, M, L, TT) := by
        intro b' m hb'
        have h9 := ih (i + 1) (by omega) (by omega) b' (some (.int m)) (by rw [hb']; exact b2_01 _) (by rw [← hN, hb']; rfl)
        rw [nI_succ] at h9
        exact hs.go [91, 5] 10 _ _ _ _ h9
      have s36 : ∀ m : Int32, ((m = 0 ∧ (¬ nI i = 56 ∧ M 121 i = 0)) ∨ (m = 1 ∧ ¬ (¬ nI i = 56 ∧ M 121 i = 0))) → K 36 [some (.ref 109), some (.int b), some (.int (nI i)), l3] [.int m] (131, M, L, TT) := by
        intro m hm
        refine hs.go [36, 91] 60 _ _ _ _ ⟨fun h1 => s91 0 m (b2_f (fun z => z.1 h1)).symm, fun h1 => ⟨fun h2 => s91 1 m ?_, fun h2 => ⟨rfl, _, rfl, rfl, ii, ⟨rfl, ⟨rfl, rfl⟩, rfl, hp⟩, rfl, rfl, ?_⟩⟩⟩
        · rcases hm with ⟨-, hm⟩ | ⟨hm, -⟩
          · exact (b2_t ⟨h1, Or.inl hm⟩).symm
          · rw [hm] at h2; exact absurd h2 (by decide)
        · have hm' : ¬ (¬ nI i = 56 ∧ M 121 i = 0) := by
            rcases hm with ⟨hm, -⟩ | ⟨-, hm⟩
            · exact absurd hm h2
            · exact hm
          intro r μ' hq
          have g1 : r = some (Value.int (cvR M (M 119 (nI i).toNatClampNeg))) := hq.1
          have g2 : μ' = (131, M, L, TT) := hq.2
          rw [ei] at g1
          rw [g1, g2]
          refine ⟨fun h3 => s91 0 m (b2_f (fun z => z.2.elim hm' (fun q => q.1 h3))).symm, fun h3 => ⟨rfl, _, rfl, rfl, _, rfl, rfl, ii, rfl, j14, ?_⟩⟩
          show (M 110 (M 118 (nI i).toNatClampNeg).toNatClampNeg = 1 → _) ∧ (¬ M 110 (M 118 (nI i).toNatClampNeg).toNatClampNeg = 1 → _)
          rw [ei]
          refine ⟨fun h4 => s91 1 m (b2_t ⟨h1, Or.inr ⟨h3, Or.inl h4⟩⟩).symm, fun h4 => ⟨rfl, _, rfl, rfl, ii, ⟨rfl, ⟨rfl, rfl⟩, rfl, hp⟩, rfl, rfl, ?_⟩⟩
          intro r μ' hq
          have g1 : r = some (Value.int (cvR M (M 120 (nI i).toNatClampNeg))) := hq.1
          have g2 : μ' = (131, M, L, TT) := hq.2
          rw [ei] at g1
          rw [g1, g2]
          exact ⟨fun h5 => s91 0 m (b2_f (fun z => z.2.elim hm' (fun q => q.2.elim h4 (fun w => w h5)))).symm, fun h5 => s91 1 m (b2_t ⟨h1, Or.inr ⟨h3, Or.inr h5⟩⟩).symm⟩
      refine hs.go [5, 36] 60 _ _ _ _ ⟨rfl, fun z => absurd (show nI 56 + M 109 8 ≤ nI i from z) (by rw [eg, nI_add]; exact nI_ge (a := i) (b := 56 + g) (by omega) (by omega)), fun _ => ⟨fun h1 => s36 1 (Or.inr ⟨rfl, fun z => z.1 h1⟩), fun h1 => ⟨rfl, _, rfl, rfl, ii, ?_⟩⟩⟩
      show (M 121 (nI i).toNatClampNeg = 0 → _) ∧ (¬ M 121 (nI i).toNatClampNeg = 0 → _)
      rw [ei]
      exact ⟨fun h2 => s36 0 (Or.inl ⟨rfl, h1, h2⟩), fun h2 => s36 1 (Or.inr ⟨rfl, fun z => h2 z.2⟩)⟩
  exact hs.go [5] 40 _ _ _ _ (loop g 56 (by omega) (Nat.le_refl _) 1 none (Or.inr rfl) rfl)
