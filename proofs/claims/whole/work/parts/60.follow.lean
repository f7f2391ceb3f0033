/-! the affected relations; follow gives the stable model -/
def B14 (a : Int32) : Prop := ∀ r, 14 ≤ r → r < 32 → ib a r = false
section AFF
variable {M : mM}
theorem afI_s (a : Int32) (n : Nat) : afI M a (n + 1) = if M (12 + 6 * n) 4 = 0 then afI M a n else if M (12 + 6 * n) 3 &&& afI M a n = 0 then afI M a n else afI M a n ||| (1 <<< (M (13 + 6 * n) 0 &&& 31)) := rfl
theorem afI_mono (a : Int32) : ∀ n m, m ≤ n → ∀ r, ib (afI M a m) r = true → ib (afI M a n) r = true
  | 0, m, hm, r, h => by rw [Nat.le_zero.mp hm] at h; exact h
  | n + 1, m, hm, r, h => by
    rcases Nat.lt_or_ge m (n + 1) with g | g
    · have ih := afI_mono a n m (by omega) r h
      rw [afI_s]
      split
      · exact ih
      · split
        · exact ih
        · rw [ib_or, ih]; rfl
    · rw [show m = n + 1 by omega] at h; exact h
theorem afI_B (hM : ∀ i, i < 14 → wR M i) {a : Int32} (ha : B14 a) : ∀ n, n ≤ 14 → B14 (afI M a n)
  | 0, _ => ha
  | n + 1, hn => by
    have ih := afI_B hM ha n (by omega)
    rw [afI_s]
    split
    · exact ih
    · split
      · exact ih
      · intro r h1 h2
        obtain ⟨g1, g2⟩ := rhd_14 (hM n (by omega))
        rw [ib_or, ih r h1 h2, g2, ib_one _ (by omega) r h2]
        simp
        omega
theorem B14_ext {a b : Int32} (ha : B14 a) (hb : B14 b) (h : ∀ r, r < 14 → ib a r = ib b r) : a = b := by
  apply ib_ext
  intro c hc
  rcases Nat.lt_or_ge c 14 with g | g
  · exact h c g
  · rw [ha c g hc, hb c g hc]
theorem afO_s (n : Nat) (a b : Int32) : afO M (n + 1) a b = if a = b then a else afO M n (afI M a 14) a := rfl
theorem afO_ok (hM : ∀ i, i < 14 → wR M i) : ∀ (n : Nat) (a b : Int32), B14 a → (a = b → afI M a 14 = a) → (¬ a = b → 15 ≤ pcn (ib a) 14 + n) → afI M (afO M n a b) 14 = afO M n a b ∧ B14 (afO M n a b) ∧ ∀ r, ib a r = true → ib (afO M n a b) r = true
  | 0, a, b, hB, h1, h2 => by
    have hle := pcn_le (ib a) 14
    have e : a = b := Classical.byContradiction fun z => by have := h2 z; omega
    exact ⟨h1 e, hB, fun _ h => h⟩
  | n + 1, a, b, hB, h1, h2 => by
    rw [afO_s]
    by_cases e : a = b
    · rw [if_pos e]
      exact ⟨h1 e, hB, fun _ h => h⟩
    · rw [if_neg e]
      have hB' := afI_B hM hB 14 (Nat.le_refl _)
      have hm : ∀ r, ib a r = true → ib (afI M a 14) r = true := fun r h => afI_mono a 14 0 (by omega) r h
      obtain ⟨i1, i2, i3⟩ := afO_ok hM n (afI M a 14) a hB' (fun z => by rw [z]; exact z) (fun z => by
        have h3 := h2 e
        have : pcn (ib a) 14 < pcn (ib (afI M a 14)) 14 := by
          refine pcn_lt 14 (fun c _ h => hm c h) ?_
          apply Classical.byContradiction
          intro hno
          apply z
          refine B14_ext hB' hB (fun r hr => ?_)
          by_cases h5 : ib a r = true
          · rw [h5]; exact hm r h5
          · rw [ts_nt h5]
            apply ts_nt
            intro h6
            exact hno ⟨r, hr, ts_nt h5, h6⟩
        omega)
      exact ⟨i1, i2, fun r h => i3 r (hm r h)⟩
theorem afI_z : ∀ n, afI M 0 n = 0
  | 0 => rfl
  | n + 1 => by
    rw [afI_s, afI_z n, show M (12 + 6 * n) 3 &&& (0 : Int32) = 0 from Int32.and_zero, if_pos rfl]
    split <;> rfl
theorem aff_ok (hM : ∀ i, i < 14 → wR M i) {x : Int32} (hB : B14 x) : afI M (afO M 14 x 0) 14 = afO M 14 x 0 ∧ B14 (afO M 14 x 0) ∧ ∀ r, ib x r = true → ib (afO M 14 x 0) r = true := by
  refine afO_ok hM 14 x 0 hB (fun z => by rw [z]; exact afI_z 14) (fun z => ?_)
  obtain ⟨r, hr, h⟩ := ib_ex z
  have h14 : r < 14 := Nat.not_le.mp fun g => by rw [hB r g hr] at h; cases h
  have := pcn_lt (f := fun _ => false) (g := ib x) 14 (fun _ _ z => by cases z) ⟨r, h14, rfl, h⟩
  omega
/-- the affected ones are closed under the rules -/
theorem aff_cl (hM : cOK M) {a : Int32} (hB : B14 a) (hf : afI M a 14 = a) {n : Nat} (hn : n < 14) (hH : ¬ M (12 + 6 * n) 4 = 0) (hh : ¬ ib a (rhd M n) = true) : ∀ j, j < rln M n → ¬ ib a (cLi M (15 + 6 * n + j)).1 = true := by
  intro j hj hb
  have hall : ∀ m, m ≤ 14 → afI M a m = a := by
    intro m hm
    refine B14_ext (afI_B hM.1 hB m hm) hB (fun r hr => ?_)
    by_cases h5 : ib a r = true
    · rw [h5]; exact afI_mono a m 0 (by omega) r h5
    · rw [ts_nt h5]
      apply ts_nt
      intro h6
      have := afI_mono a 14 m hm r h6
      rw [hf] at this
      exact h5 this
  have h1 := hall (n + 1) (by omega)
  obtain ⟨g1, g2⟩ := rhd_14 (hM.1 n hn)
  rw [afI_s, hall n (by omega), if_neg hH, if_neg (ib_nz ((hM.2.2 n hn hH).2 j hj) hb)] at h1
  apply hh
  rw [← h1, ib_or, g2, ib_one _ (by omega) _ (by omega)]
  simp
end AFF
/-- follow sets all right: what comes out is the stable model of the rules and facts as they now are -/
theorem fll_Sb {M : mM} {L : mL} {x : Int32} (hM : cOK M) (h96 : ∀ r, r < 14 → ∃ a, a < 6 ∧ M 96 r = nI a) (hs : Sf (cR M) (fun r => (M 96 r).toNatClampNeg)) (hB : B14 x) {R0 : Ru → Prop} {F0 : Ip} (hI : Sb R0 F0 (ipc (L 8))) (hF : ∀ r, r < 14 → ¬ ib x r = true → ∀ c, ipc (L 7) r c ↔ F0 r c) (hF14 : ∀ r, ¬ r < 14 → ∀ c, ¬ F0 r c) (hR : ∀ ρ, ¬ ib x ρ.1.1 = true → (cR M ρ ↔ R0 ρ)) (hR14 : ∀ ρ, R0 ρ → ρ.1.1 < 14) : Sb (cR M) (ipc (L 7)) (ipc (fll M L x)) := by
  obtain ⟨a1, a2, a3⟩ := aff_ok (M := M) hM.1 hB
  have hrl : ∀ ρ, cR M ρ → ρ.1.1 < 14 := by
    rintro ρ ⟨i, hi, hH, rfl⟩
    exact (rhd_14 (hM.1 i hi)).1
  have hS := Sg.all (R := cR M) (R0 := R0) (F := ipc (L 7)) (F0 := F0) (I := ipc (L 8)) (A := fun r => r < 14 ∧ ib (afO M 14 x 0) r = true) (s := fun r => (M 96 r).toNatClampNeg) (Y := fun k => ipc (fol M L (afO M 14 x 0) (fun r => if r < 14 ∧ ¬ ibt (afO M 14 x 0) (nI r) = 0 then L 7 r else L 8 r) k)) (n := 6) hs
    (fun r hr => by
      obtain ⟨a, ha, e⟩ := h96 r hr.1
      show (M 96 r).toNatClampNeg < 6
      rw [e, nI_clamp (n := a) (by omega)]
      exact ha)
    (fun k hk => stl_Sg hM hk h96 _)
    (fun r hr c => by
      show (_ ∧ lb (if r < 14 ∧ ¬ ibt (afO M 14 x 0) (nI r) = 0 then L 7 r else L 8 r) c = true) ↔ _
      rw [if_pos ⟨hr.1, fun z => by rw [(ib_ibt (by omega)).mp z] at hr; cases hr.2⟩]
      rfl)
    (fun r hr c => by
      show (_ ∧ lb (if r < 14 ∧ ¬ ibt (afO M 14 x 0) (nI r) = 0 then L 7 r else L 8 r) c = true) ↔ _
      rw [if_neg (fun z => hr ⟨z.1, ts_nf (fun y => z.2 ((ib_ibt (by omega)).mpr y))⟩)]
      rfl)
    (fun _ => hI)
    (fun r hr c => by
      by_cases h14 : r < 14
      · exact hF r h14 (fun z => hr ⟨h14, a3 r z⟩) c
      · exact ⟨fun z => absurd z.1 h14, fun z => absurd z (hF14 r h14 c)⟩)
    (fun ρ hr => by
      by_cases h14 : ρ.1.1 < 14
      · exact hR ρ (fun z => hr ⟨h14, a3 _ z⟩)
      · exact ⟨fun z => absurd (hrl ρ z) h14, fun z => absurd (hR14 ρ z) h14⟩)
    (fun ρ hρ hr => by
      have h14 := hrl ρ hρ
      obtain ⟨i, hi, hH, rfl⟩ := hρ
      have hcl := aff_cl hM a2 a1 hi hH (fun z => hr ⟨h14, z⟩)
      refine ⟨fun p hp z => ?_, fun p hp z => ?_⟩
      · obtain ⟨j, hj, _, rfl⟩ := cPos_mem.mp hp
        exact hcl j hj z.2
      · obtain ⟨j, hj, _, rfl⟩ := cNeg_mem.mp hp
        exact hcl j hj z.2)
  exact hS
