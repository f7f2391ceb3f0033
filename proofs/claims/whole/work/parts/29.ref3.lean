def fnd (M : mM) (t : Int64) (v : Nat → Int32) (i : Nat) : Nat → Nat → Option Nat
  | 0, _ => none
  | n + 1, c => if sb t (nI c) = 1 ∧ agk M v i (nI c) then some c else fnd M t v i n (c + 1)
theorem b01 {b : Int32} (h : b = 0 ∨ b = 1) (h1 : ¬ b = 0) : b = 1 := h.resolve_left h1

theorem dn_PM_negatedHold : y_PM_negatedHold.cls ≠ "java/lang/invoke/MethodHandle" ∧ y_PM_negatedHold.cls ≠ "java/lang/invoke/VarHandle" ∧ (parseMethodDescriptor y_PM_negatedHold.desc).map (fun d => d.parameters.length) = some 2 := by decide +kernel
abbrev pr_PM_negatedHold : List Value → Mm → Prop := preV 8 (fun k => a_II (fun x0 x1 μ => FM μ ∧ (k = 109 ∧ ∃ a m, x0 = nI a ∧ x1 = nI m ∧ a + m ≤ 60 ∧ 1 ≤ m ∧ (∀ i, a < i → i < a + m → rok μ.2.1 i))))
abbrev po_PM_negatedHold : List Value → Mm → Option Value → Mm → Prop := qV (fun k => b_II (fun x0 x1 μ r μ' => ∀ a m, a + m ≤ 60 → x0 = nI a → x1 = nI m → r = some (.int (b2 (ngl μ.2.1 μ.2.2.1 (μ.2.1 128) (m - 1) (a + 1) = true))) ∧ μ' = μ))
theorem ft_PM_negatedHold : ∀ as μ, pr_PM_negatedHold as μ → μ.1 + 0 ≤ 131 ∧ cz μ.1 + 0 ≤ cz 131 := hf_S (n := 131) (Nat.le_refl _) (fun as μ h => by
  obtain ⟨k, r, rfl, hk, h⟩ := preV_e h
  obtain ⟨x0, x1, rfl, h⟩ := a_II_e h
  exact h.1.1)
def C_PM_negatedHold : Cf := fun id => match id with
  | 0 => trF (1 + 1) pr_PM_tupleOf po_PM_tupleOf
  | _ => fun _ _ _ => False
set_option maxRecDepth 100000 in
theorem cs_PM_negatedHold (l : Launch) : ∀ x ∈ k_PM_negatedHold, CS l R_PM b_PM_negatedHold 5 (rmm 2 0 0) 131 131 C_PM_negatedHold x := fc (CS.no rfl) (fc (CS.no rfl) (fc (CS.no rfl) (fc (CS.no rfl) (fc (CS.no rfl) (fc (CS.no rfl) (fc (CS.no rfl) (fc (CS.no rfl) (fc (CS.no rfl) (fc (CS.no rfl) (fc (CS.no rfl) (fc (CS.no rfl) (fc (CS.no rfl) (fc (CS.no rfl) (fc (CS.no rfl) (fc (CS.no rfl) (fc (CS.no rfl) (fc (CS.no rfl) (fc (CS.no rfl) (fc (CS.no rfl) (fc (CS.no rfl) (fc (CS.no rfl) (fc (CS.no rfl) (fc (CS.no rfl) (fc (CS.no rfl) (fc (CS.no rfl) (fc (CS.no rfl) (fc (CS.V c_PM_tupleOf wk_PM_tupleOf wl_PM_112 wm_PM_tupleOf we_PM_tupleOf rfl rfl wi_PM dn_PM_tupleOf ⟨rfl, rfl⟩ ⟨by decide, by decide⟩ ft_PM_tupleOf rfl (e_PM_negatedHold_44).1) (fc (CS.no rfl) (fc (CS.no rfl) (fc (CS.no rfl) (fc (CS.no rfl) (fc (CS.no rfl) (fc (CS.no rfl) (fc (CS.no rfl) (fc (CS.no rfl) (fc (CS.no rfl) (fc (CS.no rfl) (fc (CS.no rfl) (fc (CS.no rfl) (fc (CS.no rfl) (fc (CS.no rfl) (fun _ h => absurd h List.not_mem_nil))))))))))))))))))))))))))))))))))))))))))
set_option maxRecDepth 100000 in
set_option maxHeartbeats 4000000 in
theorem c_PM_negatedHold : Cn y_PM_negatedHold b_PM_negatedHold 5 (some .boolean) (rmm 2 0 0) (2 + 1) 0 0 pr_PM_negatedHold po_PM_negatedHold := cv_II (ci := 8) (f := fun k => fun x0 x1 μ => FM μ ∧ (k = 109 ∧ ∃ a m, x0 = nI a ∧ x1 = nI m ∧ a + m ≤ 60 ∧ 1 ≤ m ∧ (∀ i, a < i → i < a + m → rok μ.2.1 i))) (g := fun k => fun x0 x1 μ r μ' => ∀ a m, a + m ≤ 60 → x0 = nI a → x1 = nI m → r = some (.int (b2 (ngl μ.2.1 μ.2.2.1 (μ.2.1 128) (m - 1) (a + 1) = true))) ∧ μ' = μ) fun l k x0 x1 μ hk h => by
  obtain ⟨hm, h⟩ := h
  obtain ⟨M, L, rfl⟩ := hm.e
  refine ky_met (own := R_PM) (ini := 0) (rb := 1) (nE := 131) (cd := k_PM_negatedHold) (C := C_PM_negatedHold) (by decide) rfl (fun h => by cases h) (Nat.le_of_ble_eq_true rfl) ⟨rfl, rfl⟩ (Or.inr (Or.inl ⟨rfl, rfl⟩)) rfl rfl (by decide) ok_PM_negatedHold (cs_PM_negatedHold l) rt_PM_negatedHold (fun K hs => ?_)
  obtain ⟨rfl, a, m, rfl, rfl, ham, hm1, hro⟩ := h
  have hro : ∀ i, a < i → i < a + m → rok M i := hro
  have post : ∀ (r : Option Value), r = some (.int (b2 (ngl M L (M 128) (m - 1) (a + 1) = true))) → ∀ a' m', a' + m' ≤ 60 → nI a = nI a' → nI m = nI m' → r = some (.int (b2 (ngl M L (M 128) (m' - 1) (a' + 1) = true))) ∧ ((131, M, L, TT) : Mm) = (131, M, L, TT) := by
    intro r hr a' m' h1 h2 h3
    have e1 : a = a' := (nI_eq (by omega) (by omega)).mp h2
    have e2 : m = m' := (nI_eq (by omega) (by omega)).mp h3
    subst e1; subst e2
    exact ⟨hr, rfl⟩
  have loop : ∀ (n i : Nat), i + n = a + m → a < i → ∀ ok : Int32, (ok = 0 ∨ ok = 1) → ((ok = 1 ∧ ngl M L (M 128) n i = true) ↔ ngl M L (M 128) (m - 1) (a + 1) = true) → K 7 [some (.ref 109), some (.int (nI a)), some (.int (nI m)), some (.int ok), some (.int (nI i))] [] (131, M, L, TT) := by
    intro n
    induction n with
    | zero =>
      intro i hi ha ok hok hP
      have hi : i = a + m := by omega
      subst hi
      refine hs.go [7] 40 _ _ _ _ ⟨fun _ => ⟨rfl, fun _ => hok, post _ ?_⟩, fun z => absurd (show nI a + nI m ≤ nI (a + m) by rw [nI_add]; exact Int32.le_refl _) z⟩
      rcases hok with h0 | h0
      · subst h0
        exact vb_f (fun z => absurd (hP.mpr z).1 (by decide))
      · subst h0
        exact vb_t (hP.mp ⟨rfl, rfl⟩)
    | succ n ih =>
      intro i hi ha ok hok hP
      have i1 : vp_in (nI i) 60 := vp_in_nI (by omega) (by decide)
      have ec : (nI i).toNatClampNeg = i := nI_clamp (n := i) (by omega)
      obtain ⟨r1, r2, r3, r4⟩ := id (hro i ha (by omega))
      have s60 : ∀ o' : Int32, (o' = 0 ∨ o' = 1) → ((o' = 1 ∧ ngl M L (M 128) n (i + 1) = true) ↔ ngl M L (M 128) (m - 1) (a + 1) = true) → K 60 [some (.ref 109), some (.int (nI a)), some (.int (nI m)), some (.int ok), some (.int (nI i))] [.int o'] (131, M, L, TT) := by
        intro o' h1 h2
        have h9 := ih (i + 1) (by omega) (by omega) o' h1 h2
        rw [nI_succ] at h9
        exact hs.go [60, 7] 10 _ _ _ _ h9
      refine hs.go [60, 7] 60 _ _ _ _ ⟨fun z => absurd (show nI a + nI m ≤ nI i from z) (by rw [nI_add]; exact nI_ge (a := i) (b := a + m) (by omega) (by omega)), fun _ => ⟨fun h1 => s60 0 (Or.inl rfl) ?_, fun h1 => ⟨rfl, _, rfl, rfl, i1, fun h2 => s60 1 (Or.inr rfl) ?_, fun h2 => ⟨rfl, _, rfl, rfl, _, rfl, rfl, i1, rfl, ?_, ⟨rfl, ⟨rfl, rfl⟩, rfl, i1, ?_⟩, rfl, rfl, ?_⟩⟩⟩⟩
      · have h1 : ok = 0 := h1
        constructor
        · intro z; exact absurd z.1 (by decide)
        · intro z; have := (hP.mpr z).1; rw [h1] at this; exact absurd this (by decide)
      · have h2 : M 121 (nI i).toNatClampNeg = 0 := h2
        rw [ec] at h2
        have hk1 := b01 hok h1
        rw [← hP]
        simp only [ngl, h2, hk1, decide_true, Bool.true_or, Bool.true_and]
      · show vp_in (M 118 (nI i).toNatClampNeg) 14
        rw [ec]; exact r1
      · show rok M (nI i).toNatClampNeg
        rw [ec]; exact hro i ha (by omega)
      · have h2 : ¬ M 121 (nI i).toNatClampNeg = 0 := h2
        rw [ec] at h2
        have hk1 := b01 hok h1
        intro r μ' hq
        have g1 : r = some (Value.int (tpo M (M 128) (nI i).toNatClampNeg)) := hq.1
        have g2 : μ' = (131, M, L, TT) := hq.2
        rw [g1, g2]
        refine ⟨fun h3 => s60 0 (Or.inl rfl) ?_, fun h3 => s60 1 (Or.inr rfl) ?_⟩
        · have h3 : ¬ lg_cmp (sb (L 112 (M 118 (nI i).toNatClampNeg).toNatClampNeg) (tpo M (M 128) (nI i).toNatClampNeg)) 0 = 0 := h3
          rw [cmpE, ec] at h3
          rw [← hP]
          simp only [ngl, h2, h3, hk1, decide_false, Bool.false_or, Bool.false_and]
          simp
        · have h3 : lg_cmp (sb (L 112 (M 118 (nI i).toNatClampNeg).toNatClampNeg) (tpo M (M 128) (nI i).toNatClampNeg)) 0 = 0 := h3
          rw [cmpE, ec] at h3
          rw [← hP]
          simp only [ngl, h3, hk1, decide_true, Bool.or_true, Bool.true_and]
  have h0 := loop (m - 1) (a + 1) (by omega) (by omega) 1 (Or.inr rfl) ⟨fun z => z.2, fun z => ⟨rfl, z⟩⟩
  rw [nI_succ] at h0
  exact hs.go [7] 40 _ _ _ _ h0
