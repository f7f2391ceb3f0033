/-! the reference's matching, over the same mathematics -/
def fw (w : Vl) : Vl := fun t => if 10 ≤ t ∧ t ≤ 13 then w (t - 10) else nI t
def WV (w : Vl) : Prop := ∀ j, j < 4 → w j = -1 ∨ ∃ a, a < 6 ∧ w j = nI a
theorem fw_lo {w : Vl} {t : Nat} (h : t < 10) : fw w t = nI t := if_neg (by omega)
theorem fw_hi {w : Vl} {t : Nat} (h1 : 10 ≤ t) (h2 : t ≤ 13) : fw w t = w (t - 10) := if_pos ⟨h1, h2⟩
theorem WV.K {w : Vl} (h : WV w) : VK (fw w) := ⟨fun t ht => fw_lo (by omega), fun t h1 h2 => by rw [fw_hi h1 h2]; exact h (t - 10) (by omega)⟩
theorem K.WV {w : Vl} (h : VK (fw w)) : WV w := by
  intro j hj
  have := h.2 (10 + j) (by omega) (by omega)
  rwa [fw_hi (by omega) (by omega), Nat.add_sub_cancel_left] at this
theorem fw_upd {w : Vl} {n : Nat} {x : Int32} (h1 : 10 ≤ n) (h2 : n ≤ 13) : fw (upd w (n - 10) x) = upd (fw w) n x := by
  funext t
  by_cases e : t = n
  · subst e
    rw [upd_s, fw_hi h1 h2, upd_s]
  · rw [upd_o e]
    unfold fw
    by_cases h : 10 ≤ t ∧ t ≤ 13
    · rw [if_pos h, if_pos h, upd_o (by omega)]
    · rw [if_neg h, if_neg h]
theorem t10 : ∀ n, n ≤ 13 → 10 ≤ n → (nI n - 10).toNatClampNeg = n - 10 ∧ (10 : Int32) ≤ nI n := by decide +kernel
theorem t6 : ∀ n, n < 6 → ¬ (10 : Int32) ≤ nI n := by decide +kernel
theorem fk_bnd {w : Vl} {t x : Int32} (ht : tmok t) : bnd (fw w) t.toNatClampNeg x = if fkl w t x then some (fw (fvl' w t x)) else none := by
  obtain ⟨n, rfl, h⟩ := ht
  rw [nI_clamp (n := n) (by omega)]
  rcases h with h | ⟨h1, h2⟩
  · have g := t6 n h
    unfold bnd fvl'
    rw [fw_lo (by omega), if_neg (nI_nm (by omega)), if_neg g]
    by_cases e : nI n = x
    · rw [if_pos e, if_pos (Or.inr ⟨g, e⟩)]
    · rw [if_neg e, if_neg]
      rintro (z | z)
      · exact g z.1
      · exact e z.2
  · obtain ⟨g1, g2⟩ := t10 n h2 h1
    have ef : fw (fvl' w (nI n) x) = upd (fw w) n x := by
      unfold fvl'
      rw [if_pos g2, g1, fw_upd h1 h2]
    unfold bnd
    rw [fw_hi h1 h2, ef]
    by_cases e : w (n - 10) = -1
    · rw [if_pos e, if_pos (Or.inl ⟨g2, Or.inl (by rw [g1]; exact e)⟩)]
    · rw [if_neg e]
      by_cases e2 : w (n - 10) = x
      · rw [if_pos e2, if_pos (Or.inl ⟨g2, Or.inr (by rw [g1]; exact e2)⟩)]
        have : upd (fw w) n x = fw w := by
          funext j
          by_cases ej : j = n
          · subst ej; rw [upd_s, fw_hi h1 h2, e2]
          · rw [upd_o ej]
        rw [this]
      · rw [if_neg e2, if_neg]
        rintro (⟨_, z⟩ | z)
        · rw [g1] at z
          rcases z with z | z
          · exact e z
          · exact e2 z
        · exact z.1 g2
def cel (M : mM) (r t : Nat) : Nat := if M 110 r = 1 then 6 * t else t
def rLi (M : mM) (i : Nat) : Li := ((M 118 i).toNatClampNeg, (M 119 i).toNatClampNeg, if una M i then 0 else (M 120 i).toNatClampNeg)
def ipr (M : mM) (S : Nat → Int64) : Ip := fun r c => r < 14 ∧ ∃ t, t < 36 ∧ lb (S r) t = true ∧ c = cel M r t
/-- the sets have no bits beyond their tuples -/
def RB (M : mM) (S : Nat → Int64) : Prop := ∀ r, r < 14 → ∀ t, t < 64 → lb (S r) t = true → t < 36 ∧ (M 110 r = 1 → t < 6)
theorem rLi_tm {M : mM} {i : Nat} (h : rok M i) : (rLi M i).1 < 14 ∧ tmO (rLi M i).2.1 ∧ tmO (rLi M i).2.2 := by
  obtain ⟨h1, h2, h3, h4⟩ := h
  refine ⟨cl_lt h1, tmok_O h2, ?_⟩
  unfold rLi
  by_cases hu : una M i
  · rw [if_pos hu]; exact Or.inl (show 0 < 6 by decide)
  · rw [if_neg hu]
    rcases h3 with h3 | h3
    · exact absurd h3 hu
    · exact tmok_O h3
theorem t36 : ∀ t, t < 36 → nI t / 6 = nI (t / 6) ∧ nI t - nI t / 6 * 6 = nI (t % 6) := by decide +kernel
theorem ag_st2 {M : mM} {w : Vl} {i t : Nat} (h : rok M i) (ht : t < 36) (hu : una M i → t < 6) : st2 (fw w) (rLi M i).2.1 (rLi M i).2.2 (cel M (rLi M i).1 t) = if agk M w i (nI t) then some (fw (agv M w i (nI t))) else none := by
  obtain ⟨h1, h2, h3, h4⟩ := h
  by_cases hun : una M i
  · have e1 : (rLi M i).2.2 = 0 := if_pos hun
    have e2 : cel M (rLi M i).1 t = 6 * t := if_pos hun
    have h6 := hu hun
    rw [e1, e2]
    unfold st2
    rw [show 6 * t / 6 = t by omega, show 6 * t % 6 = 0 by omega]
    show (bnd (fw w) (M 119 i).toNatClampNeg (nI t)).bind _ = _
    rw [fk_bnd h2]
    have ek : agk M w i (nI t) ↔ fkl w (M 119 i) (nI t) := ⟨fun z => by
      rcases z with z | z
      · exact z.2
      · exact absurd hun z.1, fun z => Or.inl ⟨hun, z⟩⟩
    have ev : agv M w i (nI t) = fvl' w (M 119 i) (nI t) := if_pos hun
    by_cases hk : fkl w (M 119 i) (nI t)
    · rw [if_pos hk, if_pos (ek.mpr hk), ev]
      show bnd _ 0 (nI 0) = _
      unfold bnd
      rw [fw_lo (by decide), if_neg (nI_nm (by decide)), if_pos rfl]
    · rw [if_neg hk, if_neg (fun z => hk (ek.mp z))]
      rfl
  · have e1 : (rLi M i).2.2 = (M 120 i).toNatClampNeg := if_neg hun
    have e2 : cel M (rLi M i).1 t = t := if_neg hun
    have h3 : tmok (M 120 i) := by
      rcases h3 with h3 | h3
      · exact absurd h3 hun
      · exact h3
    obtain ⟨d1, d2⟩ := t36 t ht
    rw [e1, e2]
    unfold st2
    show (bnd (fw w) (M 119 i).toNatClampNeg (nI (t / 6))).bind _ = _
    rw [fk_bnd h2]
    have ek : agk M w i (nI t) ↔ fkl w (M 119 i) (nI (t / 6)) ∧ fkl (fvl' w (M 119 i) (nI (t / 6))) (M 120 i) (nI (t % 6)) := by
      show (_ ∨ _) ↔ _
      rw [d2, d1]
      exact ⟨fun z => by
        rcases z with z | z
        · exact absurd z.1 hun
        · exact z.2, fun z => Or.inr ⟨hun, z⟩⟩
    have ev : fkl w (M 119 i) (nI (t / 6)) → agv M w i (nI t) = fvl' (fvl' w (M 119 i) (nI (t / 6))) (M 120 i) (nI (t % 6)) := by
      intro hk
      unfold agv
      rw [if_neg hun, d2, d1, if_pos hk]
    by_cases hk : fkl w (M 119 i) (nI (t / 6))
    · rw [if_pos hk]
      show bnd _ _ _ = _
      rw [fk_bnd h3]
      by_cases hk2 : fkl (fvl' w (M 119 i) (nI (t / 6))) (M 120 i) (nI (t % 6))
      · rw [if_pos hk2, if_pos (ek.mpr ⟨hk, hk2⟩), ev hk]
      · rw [if_neg hk2, if_neg (fun z => hk2 (ek.mp z).2)]
    · rw [if_neg hk, if_neg (fun z => hk (ek.mp z).1)]
      rfl
/-- a tuple that a literal gets under an assignment -/
def tup (M : mM) (σ : Nat → Nat) (i : Nat) : Nat := if una M i then vl σ (rLi M i).2.1 else cv σ (rLi M i)
theorem tup_c {M : mM} {σ : Nat → Nat} {i : Nat} (h : rok M i) (hσ : ∀ t, σ t < 6) : tup M σ i < 36 ∧ (una M i → tup M σ i < 6) ∧ cv σ (rLi M i) = cel M (rLi M i).1 (tup M σ i) := by
  obtain ⟨h1, h2, h3⟩ := rLi_tm h
  have c := cv_36 hσ h2 h3
  have v := vl_6 hσ h2
  unfold tup cel
  by_cases hu : una M i
  · have e1 : (rLi M i).2.2 = 0 := if_pos hu
    have hu' : M 110 (rLi M i).1 = 1 := hu
    rw [if_pos hu, if_pos hu']
    refine ⟨by omega, fun _ => v, ?_⟩
    unfold cv
    rw [e1]
    show _ + vl σ 0 = _
    unfold vl
    rfl
  · have hu' : ¬ M 110 (rLi M i).1 = 1 := hu
    rw [if_neg hu, if_neg hu']
    exact ⟨c, fun z => absurd z hu, rfl⟩
theorem cel_inj {M : mM} {r t t' : Nat} (h : cel M r t = cel M r t') : t = t' := by
  unfold cel at h
  split at h <;> omega
theorem ipr_cv {M : mM} {S : Nat → Int64} {σ : Nat → Nat} {i : Nat} (h : rok M i) (hσ : ∀ t, σ t < 6) : ipr M S (rLi M i).1 (cv σ (rLi M i)) ↔ lb (S (rLi M i).1) (tup M σ i) = true := by
  obtain ⟨h1, h2, h3⟩ := tup_c h hσ
  rw [h3]
  constructor
  · rintro ⟨_, t, ht, hb, e⟩
    rw [cel_inj e]
    exact hb
  · intro hb
    exact ⟨(rLi_tm h).1, _, h1, hb, rfl⟩
theorem tv_fw {w : Vl} {t : Int32} (h : tmok t) : tvl w t = fw w t.toNatClampNeg := by
  obtain ⟨n, rfl, h⟩ := h
  rw [nI_clamp (n := n) (by omega)]
  unfold tvl
  rcases h with h | ⟨h1, h2⟩
  · rw [if_neg (t6 n h), fw_lo (by omega)]
  · obtain ⟨g1, g2⟩ := t10 n h2 h1
    rw [if_pos g2, g1, fw_hi h1 h2]
/-- where the terms are bound: the tuple of the machine is that of every assignment that extends -/
theorem tpo_tup {M : mM} {w : Vl} {σ : Nat → Nat} {i : Nat} (h : rok M i) (hσ : ∀ t, σ t < 6) (he : Ext (fw w) (gs' σ)) (b1 : fw w (rLi M i).2.1 ≠ -1) (b2 : fw w (rLi M i).2.2 ≠ -1) : tpo M w i = nI (tup M σ i) := by
  obtain ⟨q1, q2, q3⟩ := rLi_tm h
  obtain ⟨h1, h2, h3, h4⟩ := h
  have v1 : tvl w (M 119 i) = nI (vl σ (rLi M i).2.1) := by
    rw [tv_fw h2, ← gs_vl]
    exact (he _ q2 b1).symm
  unfold tpo tup
  by_cases hu : una M i
  · rw [if_pos hu, if_pos hu]; exact v1
  · rw [if_neg hu, if_neg hu]
    have e1 : (rLi M i).2.2 = (M 120 i).toNatClampNeg := if_neg hu
    have h3 : tmok (M 120 i) := by
      rcases h3 with h3 | h3
      · exact absurd h3 hu
      · exact h3
    have v2 : tvl w (M 120 i) = nI (vl σ (rLi M i).2.2) := by
      rw [tv_fw h3, ← gs_vl, ← e1]
      exact (he _ q3 b2).symm
    rw [v1, v2]
    unfold cv
    rw [show (6 : Int32) = nI 6 from rfl, show nI 6 * nI (vl σ (rLi M i).2.1) = nI (6 * vl σ (rLi M i).2.1) from (Int32.ofNat_mul _ _).symm, nI_ad]
