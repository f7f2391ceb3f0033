/-! the invariant holds at the start -/
theorem MI_r : ∀ k, k ≠ 114 → k ≠ 115 → MI k = MY k := fun k a b => (upr_k a).trans (upr_k b)
theorem LIBR_q : ∀ i, i < 6 → ((rLi MY (4 * i)).1 = (LIBR i).1.1 ∧ (rLi MY (4 * i)).2.1 = (LIBR i).1.2.1 ∧ (rLi MY (4 * i)).2.2 = (LIBR i).1.2.2) ∧ rPs MY (4 * i) (rml MY i) (rml MY i - 1) = (LIBR i).2.1 ∧ rNs MY (4 * i) (rml MY i) = (LIBR i).2.2 ∧ lgc i - 1 + 1 = rml MY i := by decide +kernel
theorem LIBR_r (i : Nat) (hi : i < 6) : rRu MY (4 * i) (rml MY i) = LIBR i ∧ lgc i - 1 + 1 = rml MY i := by
  obtain ⟨⟨a, b, c⟩, d, e, f⟩ := LIBR_q i hi
  refine ⟨?_, f⟩
  unfold rRu
  rw [d, e]
  exact congrArg (fun x : Li => (x, (LIBR i).2.1, (LIBR i).2.2)) (Prod.ext a (Prod.ext b c))
theorem LIBR_s : ∀ i, i < 6 → (∀ x ∈ (LIBR i).1 :: (LIBR i).2.2, (x.2.1 < 6 ∨ ∃ p ∈ (LIBR i).2.1, p.2.1 = x.2.1 ∨ p.2.2 = x.2.1) ∧ (x.2.2 < 6 ∨ ∃ p ∈ (LIBR i).2.1, p.2.1 = x.2.2 ∨ p.2.2 = x.2.2)) ∧ (∀ p ∈ (LIBR i).2.1, p.1 < 9) ∧ (LIBR i).2.2 = [] ∧ (LIBR i).1.1 < 9 ∧ (LIBR i).2.1 ≠ [] := by decide +kernel
theorem MY_u : ∀ j, j < 14 → (MY 116 j = if j < 6 then 1 else 0) := by decide +kernel
theorem MY_l : ∀ x, x < 60 → MY 121 x = 0 ∧ (MY 118 x).toNatClampNeg < 9 := by decide +kernel
theorem MY_m : ∀ j, j < 14 → rml MY j ≤ 4 := by decide +kernel
theorem MY_rC {h b n : Nat} (hc : rC MY 14 h b n) : h < 9 ∧ b < 9 ∧ n = 0 := by
  have key : ∀ a m, a + m ≤ 60 → 1 ≤ m → rDi MY a m h b n → h < 9 ∧ b < 9 ∧ n = 0 := by
    rintro a m h60 hm ⟨rfl, x, h1, h2, rfl, rfl⟩
    refine ⟨(MY_l a (by omega)).2, (MY_l x (by omega)).2, ?_⟩
    unfold ng1
    rw [if_pos (MY_l x (by omega)).1]
  rcases hc with ⟨j, hj, hu, _, hd⟩ | ⟨z, _⟩
  · have := MY_m j hj
    by_cases h0 : rml MY j = 0
    · obtain ⟨_, x, h1, h2, _⟩ := hd
      rw [h0] at h2
      omega
    · exact key _ _ (by omega) (by omega) hd
  · exact absurd (Int32.le_refl _) z
theorem MY_rk : ¬ (rkR MY 14).1 = 0 ∧ ∀ r, r < 14 → (rkR MY 14).2 r = 0 := by
  have hC : Cok (rC MY 14) := fun h b n hc => by
    obtain ⟨a, b', c⟩ := MY_rC hc
    exact ⟨by omega, by omega, by omega, fun _ => ⟨b', c⟩⟩
  have hz : Rkg (rC MY 14) (fun _ => 0) := fun h b n hc => by
    rw [(MY_rC hc).2.2]
    exact Nat.le_refl _
  rcases rkR_ok (M := MY) (q := 14) (fun i hi => (MY_PI.2.2.2.2.2.1 i hi).1) (fun j hj _ => MY_m j hj) (by decide +kernel) hC with ⟨_, k⟩ | ⟨k1, g, k2, k3, k4⟩
  · exact absurd ⟨_, hz⟩ k
  · refine ⟨k1, fun r hr => ?_⟩
    have : g r = 0 := Nat.le_zero.mp (k4 _ hz r)
    rw [k3 r hr, this]
    rfl
theorem MI_114 : ∀ r, r < 14 → MI 114 r = 0 := by
  intro r hr
  unfold MI rkM
  rw [upr_s, if_neg MY_rk.1]
  unfold stc
  rw [if_pos hr]
  exact MY_rk.2 r hr
theorem LI0_z : ∀ r, r < 14 → LI0 7 r = 0 ∧ LI0 8 r = 0 ∧ LI0 111 r = 0 ∧ LI0 112 r = 0 := by decide +kernel
theorem MI_sm {k : Nat} (h0 : 1 ≤ k) (h1 : k ≠ 10) (h2 : k < 12 ∨ (96 ≤ k ∧ k < 99)) : MI k = B0 k := (MI_c k h0 (by omega)).trans (LI_liv.sm k h1 (by omega))
theorem RI_0 : RI MI LI0 := by
  have cro : ∀ i, i < 14 → cRo (lrn 6 0 B0) MI i := fun i hi k h1 h2 => MI_c k (by omega) (by omega)
  have e10 : MI 10 4 = 0 := by rw [MI_c 10 (by omega) (by omega)]; exact LI_liv.lb.1
  have hW : ∀ i, i < 14 → wR MI i := fun i hi => wR_c (cro i hi) (LI_liv.wq.1 i hi)
  have ro : ∀ a m, rRo MY MI a m := fun a m y _ _ => ⟨by rw [MI_r 121 (by omega) (by omega)], rLi_c (by rw [MI_r 118 (by omega) (by omega)]) (by rw [MI_r 119 (by omega) (by omega)]) (by rw [MI_r 120 (by omega) (by omega)]) (by rw [MI_r 110 (by omega) (by omega)])⟩
  have em : ∀ j, rml MI j = rml MY j := fun j => by unfold rml; rw [MI_r 117 (by omega) (by omega)]
  have u6 : ∀ j, j < 14 → ¬ MI 116 j = 0 → j < 6 := fun j hj hu => by
    rw [MI_r 116 (by omega) (by omega), MY_u j hj] at hu
    apply Classical.byContradiction
    intro z
    rw [if_neg z] at hu
    exact hu rfl
  have rru : ∀ j, j < 6 → rRu MI (4 * j) (rml MI j) = LIBR j := fun j hj => by
    obtain ⟨l1, l2⟩ := LIBR_r j hj
    rw [em, (ro (4 * j) (rml MY j)).ru (by have := lgc_4 j; omega)]
    exact l1
  have rq : ∀ j, j < 14 → ¬ MI 116 j = 0 → RQ MI j := by
    intro j hj hu
    have h6 := u6 j hj hu
    obtain ⟨y1, y2, y3, y4, y5⟩ := LI_liv.ru j h6
    obtain ⟨l1, l2⟩ := LIBR_r j h6
    obtain ⟨s1, s2, s3, s4, s5⟩ := LIBR_s j h6
    have c := cro j hj
    have hl := lgc_4 j
    have cru : cRu MI j = LIBR j := by rw [c.ru (by omega)]; exact y1
    have cl : rln MI j = lgc j - 1 := by rw [c.ln]; exact y2
    have e1 := rru j h6
    have p1 : rLi MI (4 * j) = (LIBR j).1 := congrArg (fun x : Ru => x.1) e1
    have p2 : rPs MI (4 * j) (rml MI j) (rml MI j - 1) = (LIBR j).2.1 := congrArg (fun x : Ru => x.2.1) e1
    have p3 : rNs MI (4 * j) (rml MI j) = (LIBR j).2.2 := congrArg (fun x : Ru => x.2.2) e1
    have c2 : cPos MI j = (LIBR j).2.1 := congrArg (fun x : Ru => x.2.1) cru
    have c3 : cNeg MI j = (LIBR j).2.2 := congrArg (fun x : Ru => x.2.2) cru
    refine RQ.mk (cru.trans e1.symm) (by rw [cl, em]; exact l2) ?_ ?_ ?_ ?_
    · obtain ⟨np, x1, x2, x3⟩ := y3
      refine ⟨np, by rw [c.ln]; exact x1, fun j' hj' => by rw [c _ (by omega) (by omega)]; exact x2 j' hj', fun j' h1 h2 => ?_⟩
      rw [c.ln] at h2
      rw [c _ (by omega) (by omega)]; exact x3 j' h1 h2
    · intro j' hj'
      rw [cl] at hj'
      rw [c (12 + 6 * j) (by omega) (by omega), c (15 + 6 * j + j') (by omega) (by omega)]
      exact y4 j' (by rw [y2]; exact hj')
    · unfold rSf
      rw [p1, p2, p3]
      intro x hx t ht
      obtain ⟨a, b⟩ := s1 x hx
      rcases ht with rfl | rfl
      · exact a
      · exact b
    · intro _ j' hj'
      have h0 : MI (15 + 6 * j + j') 3 = 0 := by
        apply Classical.byContradiction
        intro z
        have := cNeg_mem.mpr ⟨j', hj', z, rfl⟩
        rw [c3, s3] at this
        exact absurd this List.not_mem_nil
      refine ⟨s2 _ ?_, h0⟩
      rw [← c2]
      exact cPos_mem.mpr ⟨j', hj', h0, rfl⟩
  have z7 : ∀ (Y : Nat → Int64), (∀ r, r < 14 → Y r = 0) → ∀ r c, ¬ ipr MI Y r c := by
    rintro Y hY r c ⟨hr, t, _, hb, _⟩
    rw [hY r hr, lb_0] at hb
    cases hb
  have zE : ∀ (X Y : Nat → Int64), (∀ r, r < 14 → X r = 0) → (∀ r, r < 14 → Y r = 0) → EQs MI X Y := by
    intro X Y hX hY
    refine ⟨fun r c => ⟨fun z => ?_, fun z => absurd z (z7 Y hY r c)⟩, fun r hr t ht hb => ?_⟩
    · have := z.2
      rw [hX r z.1, lb_0] at this
      cases this
    · rw [hY r hr, lb_0] at hb
      cases hb
  have sr : ∀ ρ, rR MI ρ → ∃ j, j < 6 ∧ ρ = LIBR j := by
    rintro ρ ⟨j, hj, hu, rfl⟩
    have h6 := u6 j hj hu
    exact ⟨j, h6, rru j h6⟩
  refine RI.mk ?_ MY_PI.rk ?_ ?_ ?_ ?_ ?_ ?_ ?_ rq ?_ ?_ (zE _ _ (fun r hr => (LI0_z r hr).1) (fun r hr => (LI0_z r hr).2.2.1)) (zE _ _ (fun r hr => (LI0_z r hr).2.1) (fun r hr => (LI0_z r hr).2.2.2)) (fun r _ c => z7 _ (fun r hr => (LI0_z r hr).2.2.1) r c) (fun r _ c => z7 _ (fun r hr => (LI0_z r hr).2.2.2) r c) ?_ ?_ ?_ ?_ ?_ ?_ ?_
  · refine ⟨⟨hW, fun j hj => fr_wL (MI_c _ (by omega) (by omega)) (LI_liv.wq.2 j hj), 0, by decide, e10⟩, ⟨?_, ?_⟩, ⟨9, by decide, by decide, ?_⟩, ⟨0, by decide, ?_⟩, fun j hj => Or.inl ?_, fun l hl => Or.inl ?_⟩
    · exact (show ∀ t, t < 6 → MI 104 t = nI t by decide +kernel)
    · intro t h1 h2
      exact (show ∀ t, t < 14 → 10 ≤ t → MI 104 t = -1 by decide +kernel) t (by omega) h1
    · rw [MI_sm (by decide) (by decide) (by decide)]; decide +kernel
    · decide +kernel
    · exact (show ∀ j, j < 6 → MI 106 j = -1 by decide +kernel) j hj
    · rw [MI_sm (by decide) (by decide) (by decide)]
      exact (show ∀ l, l < 12 → B0 2 l = -1 by decide +kernel) l hl
  · rw [MI_sm (k := 5) (by decide) (by decide) (by decide)]; decide +kernel
  · intro r hr hlt
    rw [MI_sm (k := 5) (by decide) (by decide) (by decide), show B0 5 4 = nI 9 by decide +kernel] at hlt
    have h9 := (nI_lt_iff (by omega) (by decide)).mp hlt
    rw [MI_sm (k := 6) (by decide) (by decide) (by decide)]
    exact (show ∀ r, r < 9 → B0 6 r = MI 110 r ∧ (MI 110 r = 1 ∨ MI 110 r = 2) by decide +kernel) r h9
  · exact (show ∀ r, r < 9 → MI 110 r = 2 by decide +kernel)
  · rw [e10]; decide +kernel
  · intro j hj hlt
    rw [e10] at hlt
    exact absurd hlt (nI_nlt (a := j) (b := 0) (Nat.zero_le _) (by omega))
  · intro z; exact absurd e10 z
  · intro i hi
    rw [cro i hi _ (by omega) (by omega), MI_r 116 (by omega) (by omega), MY_u i hi]
    by_cases h6 : i < 6
    · rw [if_pos h6]; exact (LI_liv.ru i h6).2.2.2.2
    · rw [if_neg h6]; exact LI_liv.no i (by omega) hi
  · intro r hr
    rw [MI_sm (k := 96) (by decide) (by decide) (by decide), B0_z (by decide) (by decide), MI_114 r hr]
    exact ⟨rfl, 0, by decide, rfl⟩
  · intro ρ hρ
    obtain ⟨j, hj, rfl⟩ := sr ρ hρ
    obtain ⟨s1, s2, s3, s4, s5⟩ := LIBR_s j hj
    refine ⟨fun p hp => ?_, fun p hp => ?_⟩
    · show (MI 114 p.1).toNatClampNeg ≤ _
      rw [MI_114 p.1 (by have := s2 p hp; omega)]
      exact Nat.zero_le _
    · rw [s3] at hp
      exact absurd hp List.not_mem_nil
  · refine ⟨fun r c z => absurd z (z7 _ (fun r hr => (LI0_z r hr).2.2.1) r c), fun ρ hρ c hc => ?_, fun X _ _ r c z => absurd z (z7 _ (fun r hr => (LI0_z r hr).2.2.2) r c)⟩
    obtain ⟨j, hj, rfl⟩ := sr ρ hρ
    obtain ⟨s1, s2, s3, s4, s5⟩ := LIBR_s j hj
    obtain ⟨σ, _, h1, _⟩ := hc
    cases hp : (LIBR j).2.1 with
    | nil => exact absurd hp s5
    | cons p ps => exact absurd (h1 p (by rw [hp]; exact List.mem_cons_self)) (z7 _ (fun r hr => (LI0_z r hr).2.2.2) _ _)
  · intro l hl
    rw [MI_sm (k := 2) (by decide) (by decide) (by decide), MI_sm (k := 3) (by decide) (by decide) (by decide), MI_sm (k := 4) (by decide) (by decide) (by decide)]
    exact (show ∀ l, l < 12 → B0 2 l = MI 122 l ∧ B0 3 l = MI 123 l ∧ B0 4 l = MI 124 l by decide +kernel) l hl
  · decide +kernel
  · exact (show ∀ j, j < 6 → MI 106 j = MI 125 j by decide +kernel)
  · exact (show ∀ j, j < 20 → MI 107 j = MI 126 j by decide +kernel)
  · intro j hj
    obtain ⟨a, b⟩ := (show ∀ j, j < 40 → MI 108 j = MI 127 j ∧ MI 108 j = 0 by decide +kernel) j hj
    exact ⟨a, by rw [b]; exact Or.inr (show ¬ ((0 : Int32) < 0 ∨ 20 ≤ (0 : Int32).toNatClampNeg) by decide)⟩
  · decide +kernel
/-- the law's invariant -/
theorem law_H : LawH RI := ⟨RI_0, fun _ _ h => h.ci, k_relation, k_fact, k_literal, k_rule, k_forget, k_edit, k_holds, k_size, k_tuple, k_ways, k_stratum, k_line, k_changes, k_step, k_site, k_objects⟩
