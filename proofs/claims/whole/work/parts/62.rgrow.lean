/-! the reference's instances: what a rule makes grow -/
def rPs (M : mM) (a m D : Nat) : List Li := ((List.range' (a + (m - D)) D).filter (fun i => decide (M 121 i = 0))).map (rLi M)
def rNf (M : mM) (i n : Nat) : List Li := ((List.range' i n).filter (fun i => decide (¬ M 121 i = 0))).map (rLi M)
def rNs (M : mM) (a m : Nat) : List Li := rNf M (a + 1) (m - 1)
def rRu (M : mM) (a m : Nat) : Ru := (rLi M a, rPs M a m (m - 1), rNs M a m)
def Gq (M : mM) (a m : Nat) (A : (Nat → Nat) → Ip → Prop) (S S' : Nat → Int64) : Prop :=
  RB M S' ∧ (∀ r, r ≠ (rLi M a).1 → S' r = S r) ∧ (∀ r c, ipr M S r c → ipr M S' r c) ∧
  (∀ X : Ip, (∀ r c, ipr M S r c → X r c) → (∀ σ : Nat → Nat, (∀ t, σ t < 6) → A σ X → (∀ n ∈ rNs M a m, ¬ ipr M S n.1 (cv σ n)) → X (rLi M a).1 (cv σ (rLi M a))) → ∀ r c, ipr M S' r c → X r c) ∧
  (∀ σ : Nat → Nat, (∀ t, σ t < 6) → A σ (ipr M S) → (∀ n ∈ rNs M a m, ¬ ipr M S n.1 (cv σ n)) → ipr M S' (rLi M a).1 (cv σ (rLi M a)))
theorem ipr_r {M : mM} {S S' : Nat → Int64} {r c : Nat} (h : S' r = S r) : ipr M S' r c ↔ ipr M S r c := by
  unfold ipr
  rw [h]
section GQ
variable {M : mM} {a m : Nat}
theorem Gq.refl {S : Nat → Int64} (h : RB M S) : Gq M a m (fun _ _ => False) S S := ⟨h, fun _ _ => rfl, fun _ _ z => z, fun _ z _ => z, fun _ _ z => z.elim⟩
theorem Gq.comp (hneg : ∀ n ∈ rNs M a m, n.1 ≠ (rLi M a).1) {A1 A2 : (Nat → Nat) → Ip → Prop} {S S1 S2 : Nat → Int64} (hA : ∀ σ X X', (∀ r c, X r c → X' r c) → A2 σ X → A2 σ X') (h1 : Gq M a m A1 S S1) (h2 : Gq M a m A2 S1 S2) : Gq M a m (fun σ X => A1 σ X ∨ A2 σ X) S S2 := by
  obtain ⟨a1, b1, c1, d1, e1⟩ := h1
  obtain ⟨a2, b2, c2, d2, e2⟩ := h2
  have ng : ∀ n ∈ rNs M a m, ∀ c, ipr M S1 n.1 c ↔ ipr M S n.1 c := fun n hn c => ipr_r (b1 n.1 (hneg n hn))
  refine ⟨a2, fun r hr => (b2 r hr).trans (b1 r hr), fun r c z => c2 r c (c1 r c z), fun X g1 g2 => ?_, fun σ hσ hA' hn => ?_⟩
  · refine d2 X (d1 X g1 (fun σ hσ h hn => g2 σ hσ (Or.inl h) hn)) (fun σ hσ h hn => g2 σ hσ (Or.inr h) (fun n hn' z => hn n hn' ((ng n hn' _).mpr z)))
  · rcases hA' with h | h
    · exact c2 _ _ (e1 σ hσ h hn)
    · exact e2 σ hσ (hA σ _ _ c1 h) (fun n hn' z => hn n hn' ((ng n hn' _).mp z))
theorem Gq.wk {A B : (Nat → Nat) → Ip → Prop} {S S' : Nat → Int64} (h : Gq M a m A S S') (h1 : ∀ σ X, (∀ t, σ t < 6) → (∀ r c, ipr M S r c → X r c) → A σ X → B σ X) (h2 : ∀ σ, (∀ t, σ t < 6) → B σ (ipr M S) → A σ (ipr M S)) : Gq M a m B S S' := by
  obtain ⟨a1, b1, c1, d1, e1⟩ := h
  exact ⟨a1, b1, c1, fun X g1 g2 => d1 X g1 (fun σ hσ hA hn => g2 σ hσ (h1 σ X hσ g1 hA) hn), fun σ hσ hB hn => e1 σ hσ (h2 σ hσ hB) hn⟩
end GQ
theorem ngl_iff {M : mM} {L : mL} {w : Vl} {σ : Nat → Nat} (hσ : ∀ t, σ t < 6) (he : Ext (fw w) (gs' σ)) : ∀ (n i : Nat), (∀ k, i ≤ k → k < i + n → rok M k) → (∀ x ∈ rNf M i n, fw w x.2.1 ≠ -1 ∧ fw w x.2.2 ≠ -1) → (ngl M L w n i = true ↔ ∀ x ∈ rNf M i n, ¬ ipr M (L 112) x.1 (cv σ x))
  | 0, i, _, _ => ⟨fun _ _ h => absurd h List.not_mem_nil, fun _ => rfl⟩
  | n + 1, i, hr, hb => by
    have ro := hr i (Nat.le_refl _) (by omega)
    have e0 : rNf M i (n + 1) = if ¬ M 121 i = 0 then rLi M i :: rNf M (i + 1) n else rNf M (i + 1) n := by
      unfold rNf
      rw [List.range'_succ]
      by_cases h : M 121 i = 0
      · rw [List.filter_cons_of_neg (by simpa using h), if_neg (fun z => z h)]
      · rw [List.filter_cons_of_pos (by simpa using h), if_pos h, List.map_cons]
    have ih := ngl_iff (L := L) hσ he n (i + 1) (fun k h1 h2 => hr k (by omega) (by omega)) (fun x hx => hb x (by
      rw [e0]
      split
      · exact List.mem_cons_of_mem _ hx
      · exact hx))
    unfold ngl
    rw [Bool.and_eq_true, ih, Bool.or_eq_true, decide_eq_true_iff, decide_eq_true_iff, e0]
    by_cases h : M 121 i = 0
    · rw [if_neg (fun z => z h)]
      exact ⟨fun z => z.2, fun z => ⟨Or.inl h, z⟩⟩
    · obtain ⟨b1, b2⟩ := hb (rLi M i) (by rw [e0, if_pos h]; exact List.mem_cons_self)
      obtain ⟨t1, t2, t3⟩ := tup_c ro hσ
      rw [if_pos h, List.forall_mem_cons, tpo_tup ro hσ he b1 b2, lb_sb0 (by omega), ipr_cv ro hσ]
      constructor
      · rintro ⟨z | z, y⟩
        · exact absurd z h
        · refine ⟨fun g => ?_, y⟩
          have g : lb (L 112 (M 118 i).toNatClampNeg) (tup M σ i) = true := g
          rw [z] at g
          cases g
      · rintro ⟨z, y⟩
        exact ⟨Or.inr (ts_nt z), y⟩
/-- the terms of head and negated literals have values, or get them -/
def rbd (M : mM) (a m D : Nat) (w : Vl) : Prop := ∀ x ∈ rLi M a :: rNs M a m, ∀ t, (t = x.2.1 ∨ t = x.2.2) → fw w t ≠ -1 ∨ ∃ p ∈ rPs M a m D, p.2.1 = t ∨ p.2.2 = t
theorem rPs_s {M : mM} {a m D : Nat} (h : D + 1 ≤ m) : rPs M a m (D + 1) = if M 121 (a + (m - (D + 1))) = 0 then rLi M (a + (m - (D + 1))) :: rPs M a m D else rPs M a m D := by
  unfold rPs
  rw [List.range'_succ, show a + (m - (D + 1)) + 1 = a + (m - D) by omega]
  by_cases h : M 121 (a + (m - (D + 1))) = 0
  · rw [List.filter_cons_of_pos (by simpa using h), if_pos h, List.map_cons]
  · rw [List.filter_cons_of_neg (by simpa using h), if_neg h]
theorem rlf_G {M : mM} {a m : Nat} (ha : rok M a) (hr : ∀ k, a + 1 ≤ k → k < a + 1 + (m - 1) → rok M k) {w : Vl} (hw : WV w) (hb : rbd M a m 0 w) {s : Int32 × mL} (hB : RB M (s.2 112)) : Gq M a m (fun σ X => Ext (fw w) (gs' σ) ∧ ∀ p ∈ rPs M a m 0, X p.1 (cv σ p)) (s.2 112) ((rlf M a m (-1) w s).2 112) := by
  have bd : ∀ x ∈ rLi M a :: rNs M a m, fw w x.2.1 ≠ -1 ∧ fw w x.2.2 ≠ -1 := by
    intro x hx
    refine ⟨?_, ?_⟩
    · rcases hb x hx _ (Or.inl rfl) with h | ⟨p, hp, _⟩
      · exact h
      · exact absurd hp List.not_mem_nil
    · rcases hb x hx _ (Or.inr rfl) with h | ⟨p, hp, _⟩
      · exact h
      · exact absurd hp List.not_mem_nil
  obtain ⟨hb1, hb2⟩ := bd _ List.mem_cons_self
  obtain ⟨σ0, hσ0, he0⟩ := gs_ext hw.K
  have hn0 := ngl_iff (L := s.2) hσ0 he0 (m - 1) (a + 1) hr (fun x hx => bd x (List.mem_cons_of_mem _ hx))
  obtain ⟨t1, t2, t3⟩ := tup_c ha hσ0
  have hp0 := tpo_tup ha hσ0 he0 hb1 hb2
  unfold rlf
  by_cases hn : ngl M s.2 w (m - 1) (a + 1) = true
  · rw [if_pos ⟨hn, by decide⟩, hp0]
    have eS : (up2 s.2 112 (M 118 a).toNatClampNeg (s.2 112 (M 118 a).toNatClampNeg ||| (1 <<< ((nI (tup M σ0 a)).toInt64 &&& 63)))) 112 = vp_updL (s.2 112) (rLi M a).1 (s.2 112 (rLi M a).1 ||| (1 <<< ((nI (tup M σ0 a)).toInt64 &&& 63))) := by
      funext r
      unfold up2 vp_updL
      by_cases e : r = (M 118 a).toNatClampNeg
      · rw [if_pos ⟨rfl, e⟩]; exact (if_pos e).symm
      · rw [if_neg (fun z => e z.2)]; exact (if_neg e).symm
    have bit : ∀ t, t < 64 → (lb (s.2 112 (rLi M a).1 ||| (1 <<< ((nI (tup M σ0 a)).toInt64 &&& 63))) t = true ↔ lb (s.2 112 (rLi M a).1) t = true ∨ t = tup M σ0 a) := by
      intro t ht
      rw [lb_or, lb_one _ (by omega) t ht, Bool.or_eq_true, decide_eq_true_iff]
    show Gq M a m _ (s.2 112) ((up2 s.2 112 (M 118 a).toNatClampNeg (s.2 112 (M 118 a).toNatClampNeg ||| (1 <<< ((nI (tup M σ0 a)).toInt64 &&& 63)))) 112)
    rw [eS]
    have grow : ∀ r c, ipr M (vp_updL (s.2 112) (rLi M a).1 (s.2 112 (rLi M a).1 ||| (1 <<< ((nI (tup M σ0 a)).toInt64 &&& 63)))) r c ↔ ipr M (s.2 112) r c ∨ (r = (rLi M a).1 ∧ c = cv σ0 (rLi M a)) := by
      intro r c
      by_cases e : r = (rLi M a).1
      · subst e
        unfold ipr
        rw [updL_s]
        constructor
        · rintro ⟨g, t, ht, hb, hc⟩
          rcases (bit t (by omega)).mp hb with h | h
          · exact Or.inl ⟨g, t, ht, h, hc⟩
          · exact Or.inr ⟨rfl, by rw [hc, h, t3]⟩
        · rintro (⟨g, t, ht, hb, hc⟩ | ⟨_, hc⟩)
          · exact ⟨g, t, ht, (bit t (by omega)).mpr (Or.inl hb), hc⟩
          · exact ⟨(rLi_tm ha).1, _, t1, (bit _ (by omega)).mpr (Or.inr rfl), by rw [hc, t3]⟩
      · rw [ipr_r (updL_o e)]
        exact ⟨fun z => Or.inl z, fun z => z.elim id (fun z => absurd z.1 e)⟩
    refine ⟨fun r hr t ht hb => ?_, fun r hr => updL_o hr, fun r c z => (grow r c).mpr (Or.inl z), fun X g1 g2 r c z => ?_, fun σ hσ hA hn' => ?_⟩
    · by_cases e : r = (rLi M a).1
      · subst e
        rw [updL_s] at hb
        rcases (bit t ht).mp hb with h | h
        · exact hB _ hr t ht h
        · rw [h]; exact ⟨t1, t2⟩
      · rw [updL_o e] at hb
        exact hB r hr t ht hb
    · rcases (grow r c).mp z with z | ⟨rfl, rfl⟩
      · exact g1 r c z
      · exact g2 σ0 hσ0 ⟨he0, fun _ h => absurd h List.not_mem_nil⟩ (hn0.mp hn)
    · refine (grow _ _).mpr (Or.inr ⟨rfl, ?_⟩)
      have e1 := gc_cv (r := (rLi M a).1) hσ hA.1 (rLi_tm ha).2.1 (rLi_tm ha).2.2 hb1 hb2
      have e2 := gc_cv (r := (rLi M a).1) hσ0 he0 (rLi_tm ha).2.1 (rLi_tm ha).2.2 hb1 hb2
      exact e1.symm.trans e2
  · rw [if_neg (fun z => hn z.1)]
    refine ⟨hB, fun _ _ => rfl, fun _ _ z => z, fun _ g1 _ => g1, fun σ hσ hA hn' => ?_⟩
    exact absurd ((ngl_iff (L := s.2) hσ hA.1 (m - 1) (a + 1) hr (fun x hx => bd x (List.mem_cons_of_mem _ hx))).mpr hn') hn
theorem ril_G2 {M : mM} {a m i : Nat} {w : Vl} {ps : List Li} {g : Vl → Int32 × mL → Int32 × mL} (hi : rok M i) (hneg : ∀ n ∈ rNs M a m, n.1 ≠ (rLi M a).1) (hw : WV w)
    (hg : ∀ w' s, WV w' → (∃ c, c < 36 ∧ st2 (fw w) (rLi M i).2.1 (rLi M i).2.2 c = some (fw w')) → RB M (s.2 112) → Gq M a m (fun σ X => Ext (fw w') (gs' σ) ∧ ∀ p ∈ ps, X p.1 (cv σ p)) (s.2 112) ((g w' s).2 112)) :
    ∀ (n c : Nat) (s : Int32 × mL), c + n ≤ 36 → RB M (s.2 112) → Gq M a m (fun σ X => Ext (fw w) (gs' σ) ∧ c ≤ tup M σ i ∧ tup M σ i < c + n ∧ X (rLi M i).1 (cv σ (rLi M i)) ∧ ∀ p ∈ ps, X p.1 (cv σ p)) (s.2 112) ((ril g M i w n c s).2 112)
  | 0, c, s, _, hB => (Gq.refl hB).wk (fun _ _ _ _ z => z.elim) (fun σ _ h => by obtain ⟨_, h1, h2, _⟩ := h; omega)
  | n + 1, c, s, hc, hB => by
    obtain ⟨q1, q2, q3⟩ := rLi_tm hi
    -- an assignment that gives the literal the tuple c agrees with the step
    have agr : ∀ σ : Nat → Nat, (∀ t, σ t < 6) → ∀ (hc6 : una M i → c < 6), (∃ v', st2 (fw w) (rLi M i).2.1 (rLi M i).2.2 (cel M (rLi M i).1 c) = some v' ∧ Ext v' (gs' σ)) ↔ Ext (fw w) (gs' σ) ∧ tup M σ i = c := by
      intro σ hσ hc6
      obtain ⟨t1, t2, t3⟩ := tup_c hi hσ
      have hcel : cel M (rLi M i).1 c < 36 := by
        unfold cel
        by_cases hu : M 110 (rLi M i).1 = 1
        · rw [if_pos hu]; have := hc6 hu; omega
        · rw [if_neg hu]; omega
      rw [st2_ext hcel q2 q3, gs_vl, gs_vl]
      have v1 := vl_6 hσ q2
      have v2 := vl_6 hσ q3
      rw [nI_eq (by omega) (by omega), nI_eq (by omega) (by omega)]
      have : (vl σ (rLi M i).2.1 = cel M (rLi M i).1 c / 6 ∧ vl σ (rLi M i).2.2 = cel M (rLi M i).1 c % 6) ↔ cv σ (rLi M i) = cel M (rLi M i).1 c := by
        unfold cv
        omega
      rw [this, t3]
      exact ⟨fun h => ⟨h.1, cel_inj h.2⟩, fun h => ⟨h.1, by rw [h.2]⟩⟩
    unfold ril
    by_cases hb : sb (s.2 112 (M 118 i).toNatClampNeg) (nI c) = 1 ∧ agk M w i (nI c)
    · rw [if_pos hb]
      have bit : lb (s.2 112 (rLi M i).1) c = true := (lb_sb1 (by omega)).mp hb.1
      have h6 : una M i → c < 6 := fun hu => (hB _ q1 c (by omega) bit).2 hu
      have hst : st2 (fw w) (rLi M i).2.1 (rLi M i).2.2 (cel M (rLi M i).1 c) = some (fw (agv M w i (nI c))) := by
        rw [ag_st2 hi (by omega) h6, if_pos hb.2]
      have hcel : cel M (rLi M i).1 c < 36 := by
        unfold cel
        by_cases hu : M 110 (rLi M i).1 = 1
        · rw [if_pos hu]; have := h6 hu; omega
        · rw [if_neg hu]; omega
      have hw' : WV (agv M w i (nI c)) := K.WV (st2_VK hcel hw.K q2 q3 hst)
      have g1 := hg (agv M w i (nI c)) s hw' ⟨_, hcel, hst⟩ hB
      have g2 := ril_G2 hi hneg hw hg n (c + 1) (g (agv M w i (nI c)) s) (by omega) g1.1
      have g1' : Gq M a m (fun σ X => Ext (fw w) (gs' σ) ∧ tup M σ i = c ∧ X (rLi M i).1 (cv σ (rLi M i)) ∧ ∀ p ∈ ps, X p.1 (cv σ p)) (s.2 112) ((g (agv M w i (nI c)) s).2 112) := by
        refine g1.wk (fun σ X hσ hX h => ?_) (fun σ hσ h => ?_)
        · obtain ⟨e1, e2⟩ := (agr σ hσ h6).mp ⟨_, hst, h.1⟩
          refine ⟨e1, e2, hX _ _ ((ipr_cv hi hσ).mpr ?_), h.2⟩
          rw [e2]; exact bit
        · obtain ⟨v', e1, e2⟩ := (agr σ hσ h6).mpr ⟨h.1, h.2.1⟩
          rw [hst] at e1
          cases e1
          exact ⟨e2, h.2.2.2⟩
      refine (Gq.comp hneg (fun σ X X' hX h => ⟨h.1, h.2.1, h.2.2.1, hX _ _ h.2.2.2.1, fun p hp => hX _ _ (h.2.2.2.2 p hp)⟩) g1' g2).wk (fun σ X hσ hX h => ?_) (fun σ hσ h => ?_)
      · rcases h with ⟨h1, h2, h3, h4⟩ | ⟨h1, h2, h3, h4, h5⟩
        · exact ⟨h1, by omega, by omega, h3, h4⟩
        · exact ⟨h1, by omega, by omega, h4, h5⟩
      · obtain ⟨h1, h2, h3, h4, h5⟩ := h
        by_cases e : tup M σ i = c
        · exact Or.inl ⟨h1, e, h4, h5⟩
        · exact Or.inr ⟨h1, by omega, by omega, h4, h5⟩
    · rw [if_neg hb]
      refine (ril_G2 hi hneg hw hg n (c + 1) s (by omega) hB).wk (fun σ X hσ hX h => ⟨h.1, by omega, by omega, h.2.2.2⟩) (fun σ hσ h => ?_)
      obtain ⟨h1, h2, h3, h4, h5⟩ := h
      have hne : tup M σ i ≠ c := by
        intro e
        obtain ⟨t1, t2, t3⟩ := tup_c hi hσ
        have h6 : una M i → c < 6 := fun hu => by have := t2 hu; omega
        have bit := (ipr_cv hi hσ).mp h4
        rw [e] at bit
        obtain ⟨v', e1, _⟩ := (agr σ hσ h6).mpr ⟨h1, e⟩
        rw [ag_st2 hi (by omega) h6] at e1
        by_cases hk : agk M w i (nI c)
        · exact hb ⟨(lb_sb1 (by omega)).mpr bit, hk⟩
        · rw [if_neg hk] at e1
          cases e1
      exact ⟨h1, by omega, by omega, h4, h5⟩
theorem rin_G2 {M : mM} {a m : Nat} (ha : rok M a) (hr : ∀ k, a + 1 ≤ k → k < a + 1 + (m - 1) → rok M k) (hneg : ∀ n ∈ rNs M a m, n.1 ≠ (rLi M a).1) : ∀ (D : Nat) (w : Vl) (s : Int32 × mL), D + 1 ≤ m → WV w → rbd M a m D w → RB M (s.2 112) → Gq M a m (fun σ X => Ext (fw w) (gs' σ) ∧ ∀ p ∈ rPs M a m D, X p.1 (cv σ p)) (s.2 112) ((rin M a m (-1) D w s).2 112)
  | 0, w, s, _, hw, hb, hB => rlf_G ha hr hw hb hB
  | D + 1, w, s, hD, hw, hb, hB => by
    have hi := hr (a + (m - (D + 1))) (by omega) (by omega)
    have es := rPs_s (M := M) (a := a) (m := m) (D := D) (by omega)
    unfold rin
    by_cases h0 : M 121 (a + (m - (D + 1))) = 0
    · rw [if_pos h0]
      rw [if_pos h0] at es
      have key := ril_G2 (a := a) (m := m) (ps := rPs M a m D) (g := rin M a m (-1) D) hi hneg hw (fun w' s' hw' hx hB' => by
        obtain ⟨c, hc, hst⟩ := hx
        obtain ⟨j1, j2, j3, j4⟩ := st2_bd hc hst
        refine rin_G2 ha hr hneg D w' s' (by omega) hw' (fun x hx t ht => ?_) hB'
        rcases hb x hx t ht with h | ⟨p, hp, h⟩
        · exact Or.inl (by rw [j3 t h]; exact h)
        · rw [es] at hp
          rcases List.mem_cons.mp hp with rfl | hp
          · rcases h with rfl | rfl
            · exact Or.inl (by rw [j1]; exact nI_nm (by omega))
            · exact Or.inl (by rw [j2]; exact nI_nm (by omega))
          · exact Or.inr ⟨p, hp, h⟩) 36 0 s (by omega) hB
      refine key.wk (fun σ X hσ hX h => ?_) (fun σ hσ h => ?_)
      · rw [es]
        exact ⟨h.1, List.forall_mem_cons.mpr ⟨h.2.2.2.1, h.2.2.2.2⟩⟩
      · rw [es] at h
        obtain ⟨g1, g2⟩ := List.forall_mem_cons.mp h.2
        exact ⟨h.1, Nat.zero_le _, by have := (tup_c hi hσ).1; omega, g1, g2⟩
    · rw [if_neg h0]
      rw [if_neg h0] at es
      have key := rin_G2 ha hr hneg D w s (by omega) hw (fun x hx t ht => by
        rcases hb x hx t ht with h | h
        · exact Or.inl h
        · rw [es] at h; exact Or.inr h) hB
      rw [es]
      exact key
