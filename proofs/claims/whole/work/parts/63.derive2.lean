/-! derive gives the stable model -/
abbrev rml (M : mM) (j : Nat) : Nat := (M 117 j).toNatClampNeg
def rR (M : mM) : Ru → Prop := fun ρ => ∃ j, j < 14 ∧ ¬ M 116 j = 0 ∧ ρ = rRu M (4 * j) (rml M j)
def rSf (M : mM) (a m : Nat) : Prop := ∀ x ∈ rLi M a :: rNs M a m, ∀ t, (t = x.2.1 ∨ t = x.2.2) → t < 6 ∨ ∃ p ∈ rPs M a m (m - 1), p.2.1 = t ∨ p.2.2 = t
def rOK (M : mM) : Prop := (∀ i, i < 60 → rok M i) ∧ ∀ j, j < 14 → ¬ M 116 j = 0 → (1 ≤ rml M j ∧ rml M j ≤ 4) ∧ rSf M (4 * j) (rml M j)
theorem bnl_WV {M : mM} : WV (bnl M 4) := fun j hj => Or.inl (if_pos hj)
theorem bnl_ext {M : mM} (σ : Nat → Nat) : Ext (fw (bnl M 4)) (gs' σ) := by
  intro t ht hn
  rcases ht with h | ⟨h1, h2⟩
  · rw [fw_lo (by omega)]
    unfold gs'
    rw [if_pos (by omega)]
  · rw [fw_hi h1 h2] at hn
    exact absurd (if_pos (by omega)) hn
theorem dpL_G {M : mM} (hM : rOK M) {j : Nat} (hj : j < 14) (hu : ¬ M 116 j = 0) (hneg : ∀ n ∈ rNs M (4 * j) (rml M j), n.1 ≠ (rLi M (4 * j)).1) {L : mL} (hB : RB M (L 112)) : Fr (rRu M (4 * j) (rml M j)) (ipr M (L 112)) (ipr M (dpL M j L 112)) ∧ RB M (dpL M j L 112) ∧ (∀ r, r ≠ (rLi M (4 * j)).1 → dpL M j L 112 r = L 112 r) ∧ ∀ c, In2 (ipr M (L 112)) (ipr M (L 112)) (rRu M (4 * j) (rml M j)) c → ipr M (dpL M j L 112) (rLi M (4 * j)).1 c := by
  obtain ⟨⟨h1, h4⟩, hs⟩ := hM.2 j hj hu
  have key := rin_G2 (M := M) (a := 4 * j) (m := rml M j) (hM.1 _ (by omega)) (fun k h1 h2 => hM.1 k (by omega)) hneg (rml M j - 1) (bnl M 4) (0, L) (by omega) bnl_WV (fun x hx t ht => by
    rcases hs x hx t ht with h | h
    · exact Or.inl (by rw [fw_lo (by omega)]; exact nI_nm (by omega))
    · exact Or.inr h) hB
  obtain ⟨a1, b1, c1, d1, e1⟩ := key
  refine ⟨⟨c1, fun r hr c z => (ipr_r (b1 r hr)).mp z, fun X g1 g2 => d1 X g1 (fun σ hσ hA hn => g2 _ ⟨σ, hσ, hA.2, hn, rfl⟩)⟩, a1, b1, ?_⟩
  rintro c ⟨σ, hσ, g1, g2, rfl⟩
  exact e1 σ hσ ⟨bnl_ext σ, g1⟩ g2
/-- the strata say that a negated relation comes before its head -/
def rNg (M : mM) : Prop := ∀ j, j < 14 → ¬ M 116 j = 0 → ∀ n ∈ rNs M (4 * j) (rml M j), n.1 ≠ (rLi M (4 * j)).1
def rSt (M : mM) (s : Int32) (r : Nat) : Prop := M 114 r = s
def rCl (M : mM) (S : Nat → Int64) (j : Nat) : Prop := ∀ c, In2 (ipr M S) (ipr M S) (rRu M (4 * j) (rml M j)) c → ipr M S (rLi M (4 * j)).1 c
section DER
variable {M : mM} {s : Int32}
theorem dp1_F (hM : rOK M) (hN : rNg M) {j : Nat} (hj : j < 14) {t : Int32 × mL} (hB : RB M (t.2 112)) : Fs (rR M) (rSt M s) (ipr M (t.2 112)) (ipr M ((dp1 M s j t).2 112)) ∧ RB M ((dp1 M s j t).2 112) ∧ ((dp1 M s j t).1 = 0 → t.1 = 0 ∧ (dp1 M s j t).2 112 = t.2 112 ∧ (¬ M 116 j = 0 → M 114 (rLi M (4 * j)).1 = s → rCl M (t.2 112) j)) := by
  unfold dp1
  by_cases hu : M 116 j = 0
  · rw [if_pos hu]
    exact ⟨Fs.refl _ _ _, hB, fun h => ⟨h, rfl, fun z => absurd hu z⟩⟩
  · rw [if_neg hu]
    by_cases hs : M 114 (M 118 (4 * j)).toNatClampNeg = s
    · rw [if_pos hs]
      obtain ⟨f1, f2, f3, f4⟩ := dpL_G hM hj hu (hN j hj hu) hB
      refine ⟨Fr.Fs (ρ := rRu M (4 * j) (rml M j)) ⟨j, hj, hu, rfl⟩ hs f1, f2, fun h => ?_⟩
      have h : b2 (¬ t.1 = 0 ∨ ¬ t.2 112 (M 118 (4 * j)).toNatClampNeg = dpL M j t.2 112 (M 118 (4 * j)).toNatClampNeg) = 0 := h
      have hno : ¬ (¬ t.1 = 0 ∨ ¬ t.2 112 (M 118 (4 * j)).toNatClampNeg = dpL M j t.2 112 (M 118 (4 * j)).toNatClampNeg) := by
        intro z
        unfold b2 at h
        rw [if_pos z] at h
        exact absurd h (by decide)
      have h1 : t.1 = 0 := Classical.byContradiction fun z => hno (Or.inl z)
      have h2 : t.2 112 (rLi M (4 * j)).1 = dpL M j t.2 112 (rLi M (4 * j)).1 := Classical.byContradiction fun z => hno (Or.inr z)
      have h3 : dpL M j t.2 112 = t.2 112 := by
        funext r
        by_cases e : r = (rLi M (4 * j)).1
        · rw [e]; exact h2.symm
        · exact f3 r e
      refine ⟨h1, h3, fun _ _ c hc => ?_⟩
      have := f4 c hc
      rwa [h3] at this
    · rw [if_neg hs]
      exact ⟨Fs.refl _ _ _, hB, fun h => ⟨h, rfl, fun _ z => absurd z hs⟩⟩
theorem dpf_F (hM : rOK M) (hN : rNg M) : ∀ (n j : Nat) (t : Int32 × mL), j + n = 14 → RB M (t.2 112) → Fs (rR M) (rSt M s) (ipr M (t.2 112)) (ipr M ((dpf M s n j t).2 112)) ∧ RB M ((dpf M s n j t).2 112) ∧ ((dpf M s n j t).1 = 0 → t.1 = 0 ∧ (dpf M s n j t).2 112 = t.2 112 ∧ ∀ k, j ≤ k → k < 14 → ¬ M 116 k = 0 → M 114 (rLi M (4 * k)).1 = s → rCl M (t.2 112) k)
  | 0, j, t, hj, hB => ⟨Fs.refl _ _ _, hB, fun h => ⟨h, rfl, fun k h1 h2 => by omega⟩⟩
  | n + 1, j, t, hj, hB => by
    obtain ⟨a1, a2, a3⟩ := dp1_F (s := s) hM hN (j := j) (by omega) hB
    obtain ⟨b1, b2, b3⟩ := dpf_F hM hN n (j + 1) (dp1 M s j t) (by omega) a2
    refine ⟨a1.trans b1, b2, fun h => ?_⟩
    obtain ⟨c1, c2, c3⟩ := b3 h
    obtain ⟨d1, d2, d3⟩ := a3 c1
    refine ⟨d1, c2.trans d2, fun k h1 h2 h3 h4 => ?_⟩
    by_cases e : k = j
    · subst e; exact d3 h3 h4
    · have := c3 k (by omega) h2 h3 h4
      rwa [d2] at this
theorem drw_F (hM : rOK M) (hN : rNg M) : ∀ (n : Nat) (L : mL), phi L 14 < n → RB M (L 112) → Fs (rR M) (rSt M s) (ipr M (L 112)) (ipr M (drw M s n L 112)) ∧ RB M (drw M s n L 112) ∧ (∀ k, k < 14 → ¬ M 116 k = 0 → M 114 (rLi M (4 * k)).1 = s → rCl M (drw M s n L 112) k) ∧ ∀ k, k ≠ 112 → drw M s n L k = L k
  | 0, L, h, _ => absurd h (Nat.not_lt_zero _)
  | n + 1, L, h, hB => by
    obtain ⟨a1, a2, a3⟩ := dpf_F (s := s) hM hN 14 0 (0, L) rfl hB
    obtain ⟨q1, q2⟩ := dpf_Q (M := M) (s := s) (L0 := L) (fun j hj => (rLi_tm (hM.1 (4 * j) (by omega))).1) 14 0 (0, L) rfl ⟨Gr.rfl', fun z => absurd rfl z⟩
    unfold drw
    by_cases h0 : (dpf M s 14 0 (0, L)).1 = 0
    · rw [if_pos h0]
      obtain ⟨c1, c2, c3⟩ := a3 h0
      refine ⟨a1, a2, fun k hk hu hs => ?_, q1.1⟩
      have e : (dpf M s 14 0 (0, L)).2 112 = L 112 := c2
      rw [e]
      exact c3 k (Nat.zero_le _) hk hu hs
    · rw [if_neg h0]
      have := q2 h0
      obtain ⟨b1, b2, b3, b4⟩ := drw_F hM hN n (dpf M s 14 0 (0, L)).2 (by omega) a2
      exact ⟨a1.trans b1, b2, b3, fun k hk => (b4 k hk).trans (q1.1 k hk)⟩
end DER
/-- the reference's sets before a stratum: those that come before it are settled, the others wait -/
def rY (M : mM) (F : Nat → Int64) (S : Nat → Int64) (k : Nat) : Ip := fun r c => if (M 114 r).toNatClampNeg < k then ipr M S r c else ipr M F r c
theorem drS_Sg {M : mM} {L : mL} {k cnt : Nat} (hM : rOK M) (hk : k < 6) (h114 : ∀ r, r < 14 → ∃ a, a < 6 ∧ M 114 r = nI a) (hs : Sf (rR M) (fun r => (M 114 r).toNatClampNeg)) (hc : (M 109 0).toNatClampNeg = cnt) (hF : ∀ r, cnt ≤ r → ∀ c, ¬ ipr M (L 111) r c) (hBF : RB M (L 111)) (hB : RB M (L 112)) (h0 : ∀ r, k ≤ (M 114 r).toNatClampNeg → ∀ c, ¬ ipr M (L 112) r c) :
    Sg (rR M) (fun r => r < 14 ∧ (M 114 r).toNatClampNeg = k) (rY M (L 111) (L 112) k) (rY M (L 111) (drS M k L 112) (k + 1)) ∧ RB M (drS M k L 112) ∧ (∀ r, k + 1 ≤ (M 114 r).toNatClampNeg → ∀ c, ¬ ipr M (drS M k L 112) r c) ∧ ∀ i, i ≠ 112 → drS M k L i = L i := by
  have hN : rNg M := by
    intro j hj hu n hn e
    have := (hs _ ⟨j, hj, hu, rfl⟩).2 n hn
    rw [e] at this
    exact absurd this (Nat.lt_irrefl _)
  have e114 : ∀ r, r < 14 → ((M 114 r).toNatClampNeg = k ↔ M 114 r = nI k) := by
    intro r hr
    obtain ⟨a, ha, e⟩ := h114 r hr
    rw [e, nI_clamp (n := a) (by omega)]
    exact (nI_eq (a := a) (b := k) (by omega) (by omega)).symm
  have dsr : ∀ r, dsL M k L 112 r = if r < cnt ∧ M 114 r = nI k then L 111 r else L 112 r := by
    intro r
    unfold dsL
    rw [upr_s, hc]
    rfl
  -- what the stratum begins with
  have y0 : ∀ r, (M 114 r).toNatClampNeg ≤ k → ∀ c, ipr M (dsL M k L 112) r c ↔ rY M (L 111) (L 112) k r c := by
    intro r hr c
    unfold rY
    by_cases h14 : r < 14
    · by_cases e : (M 114 r).toNatClampNeg = k
      · rw [if_neg (by omega)]
        by_cases hcn : r < cnt
        · exact ipr_r (by rw [dsr, if_pos ⟨hcn, (e114 r h14).mp e⟩])
        · rw [ipr_r (S := L 112) (by rw [dsr, if_neg (fun z => hcn z.1)])]
          exact ⟨fun z => absurd z (h0 r (by omega) c), fun z => absurd z (hF r (by omega) c)⟩
      · rw [if_pos (by omega)]
        exact ipr_r (by rw [dsr, if_neg (fun z => e ((e114 r h14).mpr z.2))])
    · constructor
      · intro z; exact absurd z.1 h14
      · intro z
        split at z <;> exact absurd z.1 h14
  have hB1 : RB M (dsL M k L 112) := by
    intro r hr t ht hb
    rw [dsr] at hb
    split at hb
    · exact hBF r hr t ht hb
    · exact hB r hr t ht hb
  obtain ⟨f1, f2, f3, f4⟩ := drw_F (s := nI k) hM hN (phi (dsL M k L) 14 + 1) (dsL M k L) (Nat.lt_succ_self _) hB1
  have f1 : Fs (rR M) (rSt M (nI k)) (ipr M (dsL M k L 112)) (ipr M (drS M k L 112)) := f1
  have f2 : RB M (drS M k L 112) := f2
  have f3 : ∀ j, j < 14 → ¬ M 116 j = 0 → M 114 (rLi M (4 * j)).1 = nI k → rCl M (drS M k L 112) j := f3
  have fr : ∀ r, ¬ (M 114 r).toNatClampNeg = k → ∀ c, ipr M (drS M k L 112) r c ↔ ipr M (dsL M k L 112) r c := by
    intro r hr c
    refine ⟨fun z => f1.2.1 r (fun g => hr ((e114 r z.1).mpr g)) c z, fun z => f1.1 r c z⟩
  have y1 : ∀ r, (M 114 r).toNatClampNeg ≤ k → ∀ c, rY M (L 111) (drS M k L 112) (k + 1) r c ↔ ipr M (drS M k L 112) r c := by
    intro r hr c
    unfold rY
    rw [if_pos (by omega)]
  have yh : ∀ r, ¬ (M 114 r).toNatClampNeg ≤ k → ∀ c, rY M (L 111) (drS M k L 112) (k + 1) r c ↔ rY M (L 111) (L 112) k r c := by
    intro r hr c
    unfold rY
    rw [if_neg (by omega), if_neg (by omega)]
  have h14 : ∀ ρ, rR M ρ → ρ.1.1 < 14 := by
    rintro ρ ⟨j, hj, hu, rfl⟩
    exact (rLi_tm (hM.1 (4 * j) (by omega))).1
  refine ⟨⟨fun r c z => ?_, fun r hr c z => ?_, fun ρ hρ hS c hc' => ?_, fun X g1 g2 r c z => ?_⟩, f2, fun r hr c z => ?_, fun i hi => ?_⟩
  · by_cases h : (M 114 r).toNatClampNeg ≤ k
    · exact (y1 r h c).mpr (f1.1 r c ((y0 r h c).mpr z))
    · exact (yh r h c).mpr z
  · by_cases h : (M 114 r).toNatClampNeg ≤ k
    · have z1 := (y1 r h c).mp z
      have hne : ¬ (M 114 r).toNatClampNeg = k := fun e => hr ⟨z1.1, e⟩
      exact (y0 r h c).mp ((fr r hne c).mp z1)
    · exact (yh r h c).mp z
  · have s1 : ∀ p ∈ ρ.2.1, (M 114 p.1).toNatClampNeg ≤ (M 114 ρ.1.1).toNatClampNeg := (hs ρ hρ).1
    have s2 : ∀ p ∈ ρ.2.2, (M 114 p.1).toNatClampNeg < (M 114 ρ.1.1).toNatClampNeg := (hs ρ hρ).2
    have hh := hS.2
    refine (y1 _ (by omega) c).mpr ?_
    obtain ⟨j, hj, hu, rfl⟩ := hρ
    refine f3 j hj hu ((e114 _ hS.1).mp hS.2) c (hc'.mono (fun p hp c z => (y1 p.1 (by have := s1 p hp; omega) c).mp z) (fun n hn c z => (y1 n.1 (by have := s2 n hn; omega) c).mpr z))
  · by_cases h : (M 114 r).toNatClampNeg ≤ k
    · refine f1.2.2 (fun r c => (M 114 r).toNatClampNeg ≤ k → X r c) (fun r c z hr => g1 r c ((y0 r hr c).mp z)) (fun ρ hρ hS c hc' hr => ?_) r c ((y1 r h c).mp z) h
      have s1 : ∀ p ∈ ρ.2.1, (M 114 p.1).toNatClampNeg ≤ (M 114 ρ.1.1).toNatClampNeg := (hs ρ hρ).1
      have s2 : ∀ p ∈ ρ.2.2, (M 114 p.1).toNatClampNeg < (M 114 ρ.1.1).toNatClampNeg := (hs ρ hρ).2
      refine g2 ρ hρ ⟨h14 ρ hρ, (e114 _ (h14 ρ hρ)).mpr hS⟩ c ?_
      have hk' : (M 114 ρ.1.1).toNatClampNeg = k := (e114 _ (h14 ρ hρ)).mpr hS
      obtain ⟨σ, a1, a2, a3, a4⟩ := hc'
      exact ⟨σ, a1, fun p hp => a2 p hp (by have := s1 p hp; omega), fun n hn z => a3 n hn ((y0 n.1 (by have := s2 n hn; omega) _).mpr z), a4⟩
    · exact g1 r c ((yh r h c).mp z)
  · have hne : ¬ (M 114 r).toNatClampNeg = k := by omega
    have z1 := (fr r hne c).mp z
    rw [ipr_r (S := L 112) (by rw [dsr, if_neg (fun y => hne ((e114 r z.1).mpr y.2))])] at z1
    exact h0 r (by omega) c z1
  · have h1 := f4 i hi
    have h2 : dsL M k L i = L i := by
      unfold dsL
      exact upr_k hi
    exact h1.trans h2
theorem drv_Y {M : mM} {cnt : Nat} {F : Nat → Int64} (hM : rOK M) (h114 : ∀ r, r < 14 → ∃ a, a < 6 ∧ M 114 r = nI a) (hs : Sf (rR M) (fun r => (M 114 r).toNatClampNeg)) (hc : (M 109 0).toNatClampNeg = cnt) (hF : ∀ r, cnt ≤ r → ∀ c, ¬ ipr M F r c) (hBF : RB M F) : ∀ (n k : Nat) (L : mL), k + n = 6 → L 111 = F → RB M (L 112) → (∀ r, k ≤ (M 114 r).toNatClampNeg → ∀ c, ¬ ipr M (L 112) r c) →
    ∃ Y : Nat → Ip, Y k = rY M F (L 112) k ∧ (∀ i, k ≤ i → i < 6 → Sg (rR M) (fun r => r < 14 ∧ (M 114 r).toNatClampNeg = i) (Y i) (Y (i + 1))) ∧ Y 6 = rY M F (drv M n k L 112) 6 ∧ RB M (drv M n k L 112) ∧ ∀ i, i ≠ 112 → drv M n k L i = L i
  | 0, k, L, hk, hL, hB, h0 => by
    have hk : k = 6 := by omega
    subst hk
    exact ⟨fun _ => rY M F (L 112) 6, rfl, fun i h1 h2 => by omega, rfl, hB, fun _ _ => rfl⟩
  | n + 1, k, L, hk, hL, hB, h0 => by
    subst hL
    obtain ⟨g1, g2, g3, g4⟩ := drS_Sg (k := k) hM (by omega) h114 hs hc hF hBF hB h0
    obtain ⟨Y, a1, a2, a3, a4, a5⟩ := drv_Y hM h114 hs hc hF hBF n (k + 1) (drS M k L) (by omega) (g4 111 (by decide)) g2 g3
    refine ⟨fun i => if i = k then rY M (L 111) (L 112) k else Y i, if_pos rfl, fun i h1 h2 => ?_, ?_, a4, fun i hi => (a5 i hi).trans (g4 i hi)⟩
    · by_cases e : i = k
      · subst e
        show Sg _ _ (if i = i then _ else _) (if i + 1 = i then _ else _)
        rw [if_pos rfl, if_neg (by omega), a1]
        exact g1
      · show Sg _ _ (if i = k then _ else _) (if i + 1 = k then _ else _)
        rw [if_neg e, if_neg (by omega)]
        exact a2 i (by omega) h2
    · show (if 6 = k then _ else _) = _
      rw [if_neg (by omega)]
      exact a3
/-- derive sets all right -/
theorem der_Sb {M : mM} {L : mL} (hM : rOK M) (h114 : ∀ r, r < 14 → ∃ a, a < 6 ∧ M 114 r = nI a) (hs : Sf (rR M) (fun r => (M 114 r).toNatClampNeg)) (hF : ∀ r, (M 109 0).toNatClampNeg ≤ r → ∀ c, ¬ ipr M (L 111) r c) (hBF : RB M (L 111)) : Sb (rR M) (ipr M (L 111)) (ipr M (derL M L 112)) ∧ RB M (derL M L 112) ∧ (∀ i, i ≠ 112 → i ≠ 113 → derL M L i = L i) ∧ ∀ r, r < 14 → derL M L 113 r = L 112 r := by
  have e112 : ∀ r, r < 14 → (upr (upr L 113 (stg (L 113) (L 112) 14)) 112 (stg (L 112) (fun _ => 0) 14)) 112 r = 0 := by
    intro r hr
    rw [upr_s]
    exact if_pos hr
  have z0 : ∀ r c, ¬ ipr M ((upr (upr L 113 (stg (L 113) (L 112) 14)) 112 (stg (L 112) (fun _ => 0) 14)) 112) r c := by
    rintro r c ⟨hr, t, _, hb, _⟩
    rw [e112 r hr, lb_0] at hb
    cases hb
  have hB0 : RB M ((upr (upr L 113 (stg (L 113) (L 112) 14)) 112 (stg (L 112) (fun _ => 0) 14)) 112) := by
    intro r hr t ht hb
    rw [e112 r hr, lb_0] at hb
    cases hb
  obtain ⟨Y, a1, a2, a3, a4, a5⟩ := drv_Y (F := L 111) hM h114 hs rfl hF hBF 6 0 (upr (upr L 113 (stg (L 113) (L 112) 14)) 112 (stg (L 112) (fun _ => 0) 14)) rfl (by rw [upr_k (by decide), upr_k (by decide)]) hB0 (fun r _ c => z0 r c)
  have h14 : ∀ ρ, rR M ρ → ρ.1.1 < 14 := by
    rintro ρ ⟨j, hj, hu, rfl⟩
    exact (rLi_tm (hM.1 (4 * j) (by omega))).1
  have key := Sg.all (R := rR M) (R0 := fun _ => False) (F := ipr M (L 111)) (F0 := fun _ _ => False) (I := fun _ _ => False) (A := fun r => r < 14) (s := fun r => (M 114 r).toNatClampNeg) (Y := Y) (n := 6) hs
    (fun r hr => by
      obtain ⟨a, ha, e⟩ := h114 r hr
      show (M 114 r).toNatClampNeg < 6
      rw [e, nI_clamp (n := a) (by omega)]
      exact ha)
    (fun k hk => a2 k (Nat.zero_le _) hk)
    (fun r hr c => by
      rw [a1]
      unfold rY
      rw [if_neg (Nat.not_lt_zero _)])
    (fun r hr c => by
      rw [a1]
      unfold rY
      rw [if_neg (Nat.not_lt_zero _)]
      exact ⟨fun z => hr z.1, fun z => z.elim⟩)
    (fun _ => ⟨fun _ _ z => z, fun _ z => z.elim, fun _ _ _ _ _ z => z.elim⟩)
    (fun r hr c => ⟨fun z => hr z.1, fun z => z.elim⟩)
    (fun ρ hr => ⟨fun z => hr (h14 ρ z), fun z => z.elim⟩)
    (fun ρ hρ hr => absurd (h14 ρ hρ) hr)
  have eY : Y 6 = ipr M (derL M L 112) := by
    rw [a3]
    funext r c
    unfold rY
    by_cases hr : r < 14
    · obtain ⟨a, ha, e⟩ := h114 r hr
      rw [if_pos (by rw [e, nI_clamp (n := a) (by omega)]; exact ha)]
      rfl
    · apply propext
      constructor
      · intro z
        split at z <;> exact absurd z.1 hr
      · intro z
        exact absurd z.1 hr
  rw [eY] at key
  refine ⟨key, a4, fun i h1 h2 => (a5 i h1).trans (by rw [upr_k h1, upr_k h2]), fun r hr => ?_⟩
  have : derL M L 113 = stg (L 113) (L 112) 14 := (a5 113 (by decide)).trans (by rw [upr_k (by decide), upr_s])
  rw [this]
  exact if_pos hr
