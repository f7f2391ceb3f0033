/-! the reference counts the same valuations -/
theorem flat_6 {β : Type} {F : Nat → List β} (h : ∀ c, c % 6 ≠ 0 → F c = []) : ∀ n, (List.range (6 * n)).flatMap F = (List.range n).flatMap (fun t => F (6 * t))
  | 0 => rfl
  | n + 1 => by
    have e : List.range (6 * (n + 1)) = List.range (6 * n) ++ [6 * n, 6 * n + 1, 6 * n + 2, 6 * n + 3, 6 * n + 4, 6 * n + 5] := by
      rw [show 6 * (n + 1) = 6 * n + 1 + 1 + 1 + 1 + 1 + 1 by omega, List.range_succ, List.range_succ, List.range_succ, List.range_succ, List.range_succ, List.range_succ]
      simp
    rw [e, List.flatMap_append, flat_6 h n, List.range_succ, List.flatMap_append]
    congr 1
    simp only [List.flatMap_cons, List.flatMap_nil]
    rw [h (6 * n + 1) (by omega), h (6 * n + 2) (by omega), h (6 * n + 3) (by omega), h (6 * n + 4) (by omega), h (6 * n + 5) (by omega)]
    simp
theorem filter_flat {l : List Nat} {F : Nat → List Vl} {P : Vl → Bool} : (l.flatMap F).filter P = l.flatMap (fun c => (F c).filter P) := List.filter_flatMap
section CNT
variable {M : mM} {L : mL} {S : Nat → Nat → Bool} {a m t0 : Nat}
theorem ril_len {i : Nat} {w : Vl} {g : Vl → Int32 × mL → Int32 × mL} {E : Vl → List Vl} (hg : ∀ t n, t < 36 → lb (L 112 (M 118 i).toNatClampNeg) t = true → agk M w i (nI t) → g (agv M w i (nI t)) (n, L) = (n + nI (E (agv M w i (nI t))).length, L)) : ∀ (k c : Nat) (n : Int32), c + k ≤ 36 → ril g M i w k c (n, L) = (n + nI ((List.range' c k).flatMap (fun t => if lb (L 112 (M 118 i).toNatClampNeg) t = true ∧ agk M w i (nI t) then E (agv M w i (nI t)) else [])).length, L)
  | 0, c, n, _ => by
    show (n, L) = (n + nI 0, L)
    rw [show nI 0 = 0 from rfl, Int32.add_zero]
  | k + 1, c, n, hc => by
    unfold ril
    rw [List.range'_succ, List.flatMap_cons, List.length_append]
    have hb : sb (L 112 (M 118 i).toNatClampNeg) (nI c) = 1 ↔ lb (L 112 (M 118 i).toNatClampNeg) c = true := lb_sb1 (by omega)
    by_cases h : lb (L 112 (M 118 i).toNatClampNeg) c = true ∧ agk M w i (nI c)
    · rw [if_pos h]
      have h' : sb ((n, L).2 112 (M 118 i).toNatClampNeg) (nI c) = 1 ∧ agk M w i (nI c) := ⟨hb.mpr h.1, h.2⟩
      rw [if_pos h', hg c n (by omega) h.1 h.2, ril_len hg k (c + 1) _ (by omega), nI_add3]
    · rw [if_neg h]
      have h' : ¬ (sb ((n, L).2 112 (M 118 i).toNatClampNeg) (nI c) = 1 ∧ agk M w i (nI c)) := fun z => h ⟨hb.mp z.1, z.2⟩
      rw [if_neg h', ril_len hg k (c + 1) _ (by omega)]
      show _ = (n + nI (0 + _), L)
      rw [Nat.zero_add]
theorem rlf_len (ha : rok M a) (hr : ∀ k, a + 1 ≤ k → k < a + 1 + (m - 1) → rok M k) (hS : ∀ r, r < 14 → ∀ c, c < 36 → (S r c = true ↔ ipr M (L 112) r c)) (ht : t0 < 36) {w : Vl} (hw : WV w) (hb : rbd M a m 0 w) (n : Int32) : rlf M a m (nI t0) w (n, L) = (n + nI (([fw w] : List Vl).filter (Pnh S (rNs M a m) (rLi M a) (cel M (rLi M a).1 t0))).length, L) := by
  have bd : ∀ x ∈ rLi M a :: rNs M a m, fw w x.2.1 ≠ -1 ∧ fw w x.2.2 ≠ -1 := by
    intro x hx
    refine ⟨?_, ?_⟩
    · rcases hb x hx _ (Or.inl rfl) with h | ⟨p, hp, _⟩
      · exact h
      · exact absurd hp List.not_mem_nil
    · rcases hb x hx _ (Or.inr rfl) with h | ⟨p, hp, _⟩
      · exact h
      · exact absurd hp List.not_mem_nil
  obtain ⟨hb1, hb2⟩ := bd _ List.mem_cons_self
  obtain ⟨σ, hσ, he⟩ := gs_ext hw.K
  have hn := ngl_iff (L := L) hσ he (m - 1) (a + 1) hr (fun x hx => bd x (List.mem_cons_of_mem _ hx))
  obtain ⟨t1, t2, t3⟩ := tup_c ha hσ
  have hp := tpo_tup ha hσ he hb1 hb2
  have hrok : ∀ x ∈ rNs M a m, ∃ k, rok M k ∧ x = rLi M k := by
    intro x hx
    obtain ⟨k, hk, rfl⟩ := List.mem_map.mp hx
    have := List.mem_range'_1.mp (List.mem_filter.mp hk).1
    exact ⟨k, hr k (by omega) (by omega), rfl⟩
  have q1 : ngl M L w (m - 1) (a + 1) = true ↔ ((rNs M a m).all fun x => !S x.1 (gc (fw w) x.2.1 x.2.2)) = true := by
    rw [hn, List.all_eq_true]
    have key : ∀ x ∈ rNs M a m, (¬ ipr M (L 112) x.1 (cv σ x) ↔ (!S x.1 (gc (fw w) x.2.1 x.2.2)) = true) := by
      intro x hx
      obtain ⟨b1, b2⟩ := bd x (List.mem_cons_of_mem _ hx)
      obtain ⟨k, hk, rfl⟩ := hrok x hx
      obtain ⟨g1, g2, g3⟩ := rLi_tm hk
      rw [gc_cv (r := (rLi M k).1) hσ he g2 g3 b1 b2]
      have h36 := cv_36 hσ (x := rLi M k) g2 g3
      have := hS _ g1 _ h36
      rw [← this]
      show ¬ S (rLi M k).1 (cv σ (rLi M k)) = true ↔ (!S (rLi M k).1 (cv σ (rLi M k))) = true
      cases S (rLi M k).1 (cv σ (rLi M k)) <;> simp
    exact ⟨fun h x hx => (key x hx).mp (h x hx), fun h x hx => (key x hx).mpr (h x hx)⟩
  have q2 : tpo M w a = nI t0 ↔ gc (fw w) (rLi M a).2.1 (rLi M a).2.2 = cel M (rLi M a).1 t0 := by
    rw [hp, nI_eq (by omega) (by omega), gc_cv (r := (rLi M a).1) hσ he (rLi_tm ha).2.1 (rLi_tm ha).2.2 hb1 hb2]
    show _ ↔ cv σ (rLi M a) = _
    rw [t3]
    exact ⟨fun h => by rw [h], fun h => cel_inj h⟩
  have hq : ¬ nI t0 < 0 := nI_nlt (a := t0) (b := 0) (Nat.zero_le _) (by omega)
  have e2 : (if ngl M L w (m - 1) (a + 1) = true ∧ nI t0 < 0 then up2 L 112 (M 118 a).toNatClampNeg (L 112 (M 118 a).toNatClampNeg ||| (1 <<< ((tpo M w a).toInt64 &&& 63))) else L) = L := if_neg (fun z => hq z.2)
  unfold rlf
  show (n + b2 _, if ngl M L w (m - 1) (a + 1) = true ∧ nI t0 < 0 then up2 L 112 (M 118 a).toNatClampNeg (L 112 (M 118 a).toNatClampNeg ||| (1 <<< ((tpo M w a).toInt64 &&& 63))) else L) = _
  rw [e2]
  have e3 : b2 (ngl M L w (m - 1) (a + 1) = true ∧ tpo M w a = nI t0) = nI (([fw w] : List Vl).filter (Pnh S (rNs M a m) (rLi M a) (cel M (rLi M a).1 t0))).length := by
    unfold b2
    by_cases h : ngl M L w (m - 1) (a + 1) = true ∧ tpo M w a = nI t0
    · have : Pnh S (rNs M a m) (rLi M a) (cel M (rLi M a).1 t0) (fw w) = true := by
        unfold Pnh
        rw [Bool.and_eq_true]
        exact ⟨q1.mp h.1, decide_eq_true (q2.mp h.2)⟩
      rw [if_pos h, List.filter_cons_of_pos this]
      rfl
    · have : ¬ Pnh S (rNs M a m) (rLi M a) (cel M (rLi M a).1 t0) (fw w) = true := by
        unfold Pnh
        rw [Bool.and_eq_true]
        rintro ⟨z1, z2⟩
        exact h ⟨q1.mpr z1, q2.mpr (of_decide_eq_true z2)⟩
      rw [if_neg h, List.filter_cons_of_neg this]
      rfl
  rw [e3]
theorem rin_len (ha : rok M a) (hr : ∀ k, a + 1 ≤ k → k < a + 1 + (m - 1) → rok M k) (hB : RB M (L 112)) (hS : ∀ r, r < 14 → ∀ c, c < 36 → (S r c = true ↔ ipr M (L 112) r c)) (hS36 : ∀ r, r < 14 → ∀ c, 36 ≤ c → S r c = false) (ht : t0 < 36) : ∀ (D : Nat) (w : Vl) (n : Int32), D + 1 ≤ m → WV w → rbd M a m D w → rin M a m (nI t0) D w (n, L) = (n + nI ((en ((rPs M a m D).map (ltP S)) (fw w)).filter (Pnh S (rNs M a m) (rLi M a) (cel M (rLi M a).1 t0))).length, L)
  | 0, w, n, _, hw, hb => rlf_len ha hr hS ht hw hb n
  | D + 1, w, n, hD, hw, hb => by
    have hi := hr (a + (m - (D + 1))) (by omega) (by omega)
    have es := rPs_s (M := M) (a := a) (m := m) (D := D) (by omega)
    obtain ⟨q1, q2, q3⟩ := rLi_tm hi
    unfold rin
    by_cases h0 : M 121 (a + (m - (D + 1))) = 0
    · rw [if_pos h0]
      rw [if_pos h0] at es
      have hcel : ∀ t, t < 36 → lb (L 112 (M 118 (a + (m - (D + 1)))).toNatClampNeg) t = true → (una M (a + (m - (D + 1))) → t < 6) ∧ cel M (rLi M (a + (m - (D + 1)))).1 t < 36 := by
        intro t h1 h2
        obtain ⟨g1, g2⟩ := hB _ q1 t (by omega) h2
        refine ⟨g2, ?_⟩
        unfold cel
        by_cases hu : M 110 (rLi M (a + (m - (D + 1)))).1 = 1
        · rw [if_pos hu]; have := g2 hu; omega
        · rw [if_neg hu]; exact h1
      rw [ril_len (E := fun w' => (en ((rPs M a m D).map (ltP S)) (fw w')).filter (Pnh S (rNs M a m) (rLi M a) (cel M (rLi M a).1 t0))) (fun t n' h1 h2 h3 => by
        obtain ⟨g1, g2⟩ := hcel t h1 h2
        have hst : st2 (fw w) (rLi M (a + (m - (D + 1)))).2.1 (rLi M (a + (m - (D + 1)))).2.2 (cel M (rLi M (a + (m - (D + 1)))).1 t) = some (fw (agv M w (a + (m - (D + 1))) (nI t))) := by
          rw [ag_st2 hi h1 g1, if_pos h3]
        obtain ⟨j1, j2, j3, j4⟩ := st2_bd g2 hst
        refine rin_len ha hr hB hS hS36 ht D _ n' (by omega) (K.WV (st2_VK g2 hw.K q2 q3 hst)) (fun x hx u hu => ?_)
        rcases hb x hx u hu with h | ⟨p, hp, h⟩
        · exact Or.inl (by rw [j3 u h]; exact h)
        · rw [es] at hp
          rcases List.mem_cons.mp hp with rfl | hp
          · rcases h with rfl | rfl
            · exact Or.inl (by rw [j1]; exact nI_nm (by omega))
            · exact Or.inl (by rw [j2]; exact nI_nm (by omega))
          · exact Or.inr ⟨p, hp, h⟩) 36 0 n (by omega), ← List.range_eq_range', es, List.map_cons]
      congr 3
      show _ = List.length (((List.range 36).flatMap _).filter _)
      rw [filter_flat]
      -- cell by cell
      have cellwise : ∀ t, t < 36 → (una M (a + (m - (D + 1))) → t < 6) → (if lb (L 112 (M 118 (a + (m - (D + 1)))).toNatClampNeg) t = true ∧ agk M w (a + (m - (D + 1))) (nI t) then (en ((rPs M a m D).map (ltP S)) (fw (agv M w (a + (m - (D + 1))) (nI t)))).filter (Pnh S (rNs M a m) (rLi M a) (cel M (rLi M a).1 t0)) else []) = (if (ltP S (rLi M (a + (m - (D + 1))))).2.2 (cel M (rLi M (a + (m - (D + 1)))).1 t) = true then (st2 (fw w) (ltP S (rLi M (a + (m - (D + 1))))).1 (ltP S (rLi M (a + (m - (D + 1))))).2.1 (cel M (rLi M (a + (m - (D + 1)))).1 t)).elim [] (en ((rPs M a m D).map (ltP S))) else []).filter (Pnh S (rNs M a m) (rLi M a) (cel M (rLi M a).1 t0)) := by
        intro t h1 h6
        have h36 : cel M (rLi M (a + (m - (D + 1)))).1 t < 36 := by
          unfold cel
          by_cases hu : M 110 (rLi M (a + (m - (D + 1)))).1 = 1
          · rw [if_pos hu]; have := h6 hu; omega
          · rw [if_neg hu]; exact h1
        have hSt : S (rLi M (a + (m - (D + 1)))).1 (cel M (rLi M (a + (m - (D + 1)))).1 t) = true ↔ lb (L 112 (M 118 (a + (m - (D + 1)))).toNatClampNeg) t = true := by
          rw [hS _ q1 _ h36]
          constructor
          · rintro ⟨_, t', _, hb', e⟩
            rw [cel_inj e]; exact hb'
          · intro hb'; exact ⟨q1, t, h1, hb', rfl⟩
        show _ = (if S (rLi M (a + (m - (D + 1)))).1 (cel M (rLi M (a + (m - (D + 1)))).1 t) = true then (st2 (fw w) (rLi M (a + (m - (D + 1)))).2.1 (rLi M (a + (m - (D + 1)))).2.2 (cel M (rLi M (a + (m - (D + 1)))).1 t)).elim [] (en ((rPs M a m D).map (ltP S))) else []).filter _
        rw [ag_st2 hi h1 h6]
        by_cases hb' : lb (L 112 (M 118 (a + (m - (D + 1)))).toNatClampNeg) t = true
        · rw [if_pos (hSt.mpr hb')]
          by_cases hk : agk M w (a + (m - (D + 1))) (nI t)
          · rw [if_pos ⟨hb', hk⟩, if_pos hk]
            rfl
          · rw [if_neg (fun z => hk z.2), if_neg hk]
            rfl
        · rw [if_neg (fun z => hb' z.1), if_neg (fun z => hb' (hSt.mp z))]
          rfl
      by_cases hu : una M (a + (m - (D + 1)))
      · have e6 : ∀ t, cel M (rLi M (a + (m - (D + 1)))).1 t = 6 * t := fun t => if_pos hu
        have hz : ∀ c, c % 6 ≠ 0 → (if (ltP S (rLi M (a + (m - (D + 1))))).2.2 c = true then (st2 (fw w) (ltP S (rLi M (a + (m - (D + 1))))).1 (ltP S (rLi M (a + (m - (D + 1))))).2.1 c).elim [] (en ((rPs M a m D).map (ltP S))) else []).filter (Pnh S (rNs M a m) (rLi M a) (cel M (rLi M a).1 t0)) = [] := by
          intro c hc
          have : ¬ S (rLi M (a + (m - (D + 1)))).1 c = true := by
            intro z
            by_cases h36 : c < 36
            · obtain ⟨_, t', _, _, e⟩ := (hS _ q1 c h36).mp z
              rw [e6] at e
              omega
            · rw [hS36 _ q1 c (by omega)] at z
              cases z
          have this : ¬ (ltP S (rLi M (a + (m - (D + 1))))).2.2 c = true := this
          rw [if_neg this]
          rfl
        have l1 := flat_6 hz 6
        rw [show List.range 36 = List.range (6 * 6) from rfl, l1, show List.range (6 * 6) = List.range 6 ++ List.range' 6 30 by decide, List.flatMap_append, flat_nil (l := List.range' 6 30) (fun t ht' => if_neg (fun z => by
          have := List.mem_range'_1.mp ht'
          have := (hB _ q1 t (by omega) z.1).2 hu
          omega)), List.append_nil]
        congr 1
        apply flat_cong
        intro t ht'
        have ht' := List.mem_range.mp ht'
        have := cellwise t (by omega) (fun _ => ht')
        rw [e6] at this
        exact this
      · have e1 : ∀ t, cel M (rLi M (a + (m - (D + 1)))).1 t = t := fun t => if_neg hu
        congr 1
        apply flat_cong
        intro t ht'
        have ht' := List.mem_range.mp ht'
        have := cellwise t ht' (fun z => absurd z hu)
        rw [e1] at this
        exact this
    · rw [if_neg h0]
      rw [if_neg h0] at es
      rw [es]
      exact rin_len ha hr hB hS hS36 ht D w n (by omega) hw (fun x hx u hu => by
        rcases hb x hx u hu with h | h
        · exact Or.inl h
        · rw [es] at h; exact Or.inr h)
end CNT
