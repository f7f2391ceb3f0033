/-! edit -/
theorem fin_sets {MC MR : mM} {LC LR : mL} {x : Int32} {R0 : Ru → Prop} {F0 : Ip} (pi : PI MR) (hW : ∀ i, i < 14 → wR MR i) (rul : ∀ i, i < 14 → ¬ MR 116 i = 0 → RQ MR i) (str : ∀ r, r < 14 → MR 96 r = MR 114 r ∧ ∃ a, a < 6 ∧ MR 114 r = nI a) (sfr : Sf (rR MR) (fun r => (MR 114 r).toNatClampNeg)) (hM : cOK MC) (h96 : MC 96 = MR 96) (hRR : ∀ ρ, cR MC ρ ↔ rR MR ρ) (hB : B14 x) (hI : Sb R0 F0 (ipc (LC 8))) (hF : ∀ r, r < 14 → ¬ ib x r = true → ∀ c, ipc (LC 7) r c ↔ F0 r c) (hF14 : ∀ r, ¬ r < 14 → ∀ c, ¬ F0 r c) (hR : ∀ ρ, ¬ ib x ρ.1.1 = true → (cR MC ρ ↔ R0 ρ)) (hR14 : ∀ ρ, R0 ρ → ρ.1.1 < 14) (hEF : EQs MR (LC 7) (LR 111)) (hET : EQs MR (LC 8) (LR 112)) (hem : ∀ r, (MR 109 0).toNatClampNeg ≤ r → ∀ c, ¬ ipr MR (LR 111) r c) (e7 : LR 7 = LC 7) (e8 : LR 8 = fll MC LC x) : EQs MR (derL MR LR 7) (derL MR LR 111) ∧ EQs MR (derL MR LR 8) (derL MR LR 112) ∧ (∀ r, (MR 109 0).toNatClampNeg ≤ r → ∀ c, ¬ ipr MR (derL MR LR 111) r c) ∧ (∀ r, (MR 109 0).toNatClampNeg ≤ r → ∀ c, ¬ ipr MR (derL MR LR 112) r c) ∧ Sb (rR MR) (ipr MR (derL MR LR 111)) (ipr MR (derL MR LR 112)) ∧ cch (upr (upr LC 9 (LC 8)) 8 (fll MC LC x)) 14 = dct (derL MR LR) 14 0 0 := by
  have hhd : ∀ ρ, rR MR ρ → ρ.1.1 < (MR 109 0).toNatClampNeg := by
    rintro ρ ⟨i, hi, hu, rfl⟩
    obtain ⟨n, _, h2, e⟩ := pi.1
    obtain ⟨a, b⟩ := pi.2.2.2.2.2.1 (4 * i) (by omega)
    show (MR 118 (4 * i)).toNatClampNeg < _
    rw [e, nI_clamp (n := n) (by omega)]
    rw [e, vp_nI a.1] at b
    have := cl_lt a.1
    exact (nI_lt_iff (by omega) (by omega)).mp b
  have hst : ∀ r, r < 14 → ∃ a, a < 6 ∧ MC 96 r = nI a := fun r hr => by
    obtain ⟨e, a, ha, e'⟩ := str r hr
    exact ⟨a, ha, by rw [h96, e]; exact e'⟩
  have eR : cR MC = rR MR := by
    funext ρ
    exact propext (hRR ρ)
  have hsf : Sf (cR MC) (fun r => (MC 96 r).toNatClampNeg) := by
    rw [eR]
    intro ρ hρ
    have h14 : ρ.1.1 < 14 := by
      have := hhd ρ hρ
      obtain ⟨n, _, h2, e⟩ := pi.1
      rw [e, nI_clamp (n := n) (by omega)] at this
      omega
    obtain ⟨s1, s2⟩ := sfr ρ hρ
    have rel : ∀ p, (p ∈ ρ.2.1 ∨ p ∈ ρ.2.2) → p.1 < 14 := by
      intro p hp
      rw [← hRR ρ] at hρ
      obtain ⟨i, hi, hH, rfl⟩ := hρ
      obtain ⟨tp, tn⟩ := tmO_p (hM.1 i hi)
      rcases hp with hp | hp
      · exact (tp p hp).1
      · exact (tn p hp).1
    refine ⟨fun p hp => ?_, fun p hp => ?_⟩
    · show (MC 96 p.1).toNatClampNeg ≤ (MC 96 ρ.1.1).toNatClampNeg
      rw [h96, (str p.1 (rel p (Or.inl hp))).1, (str ρ.1.1 h14).1]; exact s1 p hp
    · show (MC 96 p.1).toNatClampNeg < (MC 96 ρ.1.1).toNatClampNeg
      rw [h96, (str p.1 (rel p (Or.inr hp))).1, (str ρ.1.1 h14).1]; exact s2 p hp
  have hrok := rOK_of pi (fun i hi => rln_3 (hW i hi)) rul
  obtain ⟨f1, f2, f3, f4, f5⟩ := fd (LC := LC) (LR := LR) hM hst hsf hB hI hF hF14 hR hR14 hrok (fun r hr => (str r hr).2) sfr hRR hEF hET rfl hem hhd
  have g7 : derL MR LR 7 = LC 7 := (f5 7 (by decide) (by decide)).trans e7
  have g8 : derL MR LR 8 = fll MC LC x := (f5 8 (by decide) (by decide)).trans e8
  have g111 : derL MR LR 111 = LR 111 := f5 111 (by decide) (by decide)
  rw [g7, g8, g111]
  exact ⟨hEF, f1, hem, f3, f2, f4⟩
/-- the lines are in order -/
def LV (N : mM) (o x y : Nat) : Prop := ∀ l, l < 12 → N o l = -1 ∨ (vp_in (N o l) 6 ∧ vp_in (N x l) 6 ∧ vp_in (N y l) 6)
theorem LV.v {N : mM} {o x y l : Nat} (h : LV N o x y) (hl : l < 12) (hn : ¬ N o l = -1) : ∃ p a b, p < 6 ∧ a < 6 ∧ b < 6 ∧ N o l = nI p ∧ N x l = nI a ∧ N y l = nI b := by
  rcases h l hl with z | ⟨z1, z2, z3⟩
  · exact absurd z hn
  · exact ⟨_, _, _, cl_lt z1, cl_lt z2, cl_lt z3, vp_nI z1, vp_nI z2, vp_nI z3⟩
theorem fo_lb {M : mM} (h : LV M 2 3 4) {p : Nat} (hp : p < 6) : ∀ n, n ≤ 12 → ∀ c, c < 64 → (lb (fo M (nI p) n) c = true ↔ ∃ l a b, l < n ∧ M 2 l = nI p ∧ a < 6 ∧ b < 6 ∧ M 3 l = nI a ∧ M 4 l = nI b ∧ c = 6 * a + b)
  | 0, _, c, _ => ⟨fun z => (by rw [show fo M (nI p) 0 = 0 from rfl, lb_0] at z; cases z), fun ⟨l, _, _, hl, _⟩ => absurd hl (Nat.not_lt_zero _)⟩
  | n + 1, hn, c, hc => by
    have ih := fo_lb h hp n (by omega) c hc
    unfold fo
    by_cases e : M 2 n = nI p
    · obtain ⟨_, a, b, _, ha, hb, _, ea, eb⟩ := h.v (l := n) (by omega) (by rw [e]; exact nI_nm (by omega))
      have ec : M 3 n * 6 + M 4 n = nI (6 * a + b) := by
        rw [ea, eb, show (6 : Int32) = nI 6 from rfl, show nI a * nI 6 = nI (a * 6) from (Int32.ofNat_mul a 6).symm, nI_ad, Nat.mul_comm]
      rw [if_pos e, lb_or, ec, lb_one _ (by omega) c hc, Bool.or_eq_true, ih, decide_eq_true_iff]
      constructor
      · rintro (⟨l, a', b', h1, h2⟩ | z)
        · exact ⟨l, a', b', by omega, h2⟩
        · exact ⟨n, a, b, by omega, e, ha, hb, ea, eb, z⟩
      · rintro ⟨l, a', b', h1, h2, h3, h4, h5, h6, h7⟩
        by_cases el : l = n
        · subst el
          right
          have x1 := (nI_eq (by omega) (by omega)).mp (ea.symm.trans h5)
          have x2 := (nI_eq (by omega) (by omega)).mp (eb.symm.trans h6)
          rw [x1, x2]; exact h7
        · exact Or.inl ⟨l, a', b', by omega, h2, h3, h4, h5, h6, h7⟩
    · rw [if_neg e, ih]
      constructor
      · rintro ⟨l, a', b', h1, h2⟩
        exact ⟨l, a', b', by omega, h2⟩
      · rintro ⟨l, a', b', h1, h2, h3⟩
        exact ⟨l, a', b', by have : l ≠ n := fun z => e (z ▸ h2); omega, h2, h3⟩
theorem neg_m1 {N : mM} {o x y l : Nat} (h : LV N o x y) (hl : l < 12) : N o l < 0 ↔ N o l = -1 := by
  rcases h l hl with z | ⟨z, _⟩
  · rw [z]; exact ⟨fun _ => rfl, fun _ => by decide⟩
  · exact ⟨fun y => absurd (Or.inl y) z, fun y => by rw [y]; decide⟩
theorem edl_lb {M : mM} (h : LV M 122 123 124) : ∀ (n i : Nat) (s : Int32 × mL), i + n = 12 → (∀ k, k ≠ 111 → (edl M n i s).2 k = s.2 k) ∧ (∀ r, ¬ r < 6 → (edl M n i s).2 111 r = s.2 111 r) ∧ ∀ p, p < 6 → ∀ c, c < 64 → (lb ((edl M n i s).2 111 p) c = true ↔ lb (s.2 111 p) c = true ∨ ∃ l a b, i ≤ l ∧ l < 12 ∧ M 122 l = nI p ∧ a < 6 ∧ b < 6 ∧ M 123 l = nI a ∧ M 124 l = nI b ∧ c = 6 * a + b)
  | 0, i, s, hi => ⟨fun _ _ => rfl, fun _ _ => rfl, fun p _ c _ => ⟨fun z => Or.inl z, fun z => by
    rcases z with z | ⟨l, _, _, h1, h2, _⟩
    · exact z
    · omega⟩⟩
  | n + 1, i, s, hi => by
    unfold edl
    by_cases e : M 122 i < 0
    · rw [if_pos e]
      obtain ⟨i1, i2, i3⟩ := edl_lb h n (i + 1) s (by omega)
      refine ⟨i1, i2, fun p hp c hc => ?_⟩
      rw [i3 p hp c hc]
      constructor
      · rintro (z | ⟨l, a, b, h1, h2⟩)
        · exact Or.inl z
        · exact Or.inr ⟨l, a, b, by omega, h2⟩
      · rintro (z | ⟨l, a, b, h1, h2, h3, h4⟩)
        · exact Or.inl z
        · refine Or.inr ⟨l, a, b, ?_, h2, h3, h4⟩
          have : l ≠ i := fun z => by
            rw [z] at h3
            rw [h3] at e
            exact nI_nlt (a := p) (b := 0) (Nat.zero_le _) (by omega) e
          omega
    · rw [if_neg e]
      obtain ⟨q, a0, b0, hq, ha, hb, eq, ea, eb⟩ := h.v (l := i) (by omega) (fun z => e ((neg_m1 h (by omega)).mpr z))
      have ec : 6 * M 123 i + M 124 i = nI (6 * a0 + b0) := by
        rw [ea, eb, show (6 : Int32) = nI 6 from rfl, show nI 6 * nI a0 = nI (6 * a0) from (Int32.ofNat_mul 6 a0).symm, nI_ad]
      have eqc : (M 122 i).toNatClampNeg = q := by rw [eq]; exact nI_clamp (n := q) (by omega)
      rw [ec, eqc]
      obtain ⟨i1, i2, i3⟩ := edl_lb h n (i + 1) (s.1 + 1, up2 s.2 111 q (s.2 111 q ||| (1 <<< ((nI (6 * a0 + b0)).toInt64 &&& 63)))) (by omega)
      refine ⟨fun k hk => (i1 k hk).trans (up2_k hk), fun r hr => (i2 r hr).trans (up2_j (by omega)), fun p hp c hc => ?_⟩
      rw [i3 p hp c hc]
      have row : lb ((up2 s.2 111 q (s.2 111 q ||| (1 <<< ((nI (6 * a0 + b0)).toInt64 &&& 63)))) 111 p) c = true ↔ lb (s.2 111 p) c = true ∨ (p = q ∧ c = 6 * a0 + b0) := by
        by_cases e2 : p = q
        · subst e2
          rw [up2_s, lb_or, lb_one _ (by omega) c hc, Bool.or_eq_true, decide_eq_true_iff]
          exact ⟨fun z => z.elim Or.inl (fun z => Or.inr ⟨rfl, z⟩), fun z => z.elim Or.inl (fun z => Or.inr z.2)⟩
        · rw [up2_j e2]
          exact ⟨fun z => Or.inl z, fun z => z.elim id (fun z => absurd z.1 e2)⟩
      show lb ((up2 s.2 111 q (s.2 111 q ||| (1 <<< ((nI (6 * a0 + b0)).toInt64 &&& 63)))) 111 p) c = true ∨ _ ↔ _
      rw [row]
      constructor
      · rintro ((z | ⟨rfl, z⟩) | ⟨l, a, b, h1, h2⟩)
        · exact Or.inl z
        · exact Or.inr ⟨i, a0, b0, Nat.le_refl _, by omega, eq, ha, hb, ea, eb, z⟩
        · exact Or.inr ⟨l, a, b, by omega, h2⟩
      · rintro (z | ⟨l, a, b, h1, h2, h3, h4, h5, h6, h7, h8⟩)
        · exact Or.inl (Or.inl z)
        · by_cases el : l = i
          · subst el
            have x0 := (nI_eq (by omega) (by omega)).mp (eq.symm.trans h3)
            have x1 := (nI_eq (by omega) (by omega)).mp (ea.symm.trans h6)
            have x2 := (nI_eq (by omega) (by omega)).mp (eb.symm.trans h7)
            exact Or.inl (Or.inr ⟨x0.symm, by rw [x1, x2]; exact h8⟩)
          · exact Or.inr ⟨l, a, b, by omega, h2, h3, h4, h5, h6, h7, h8⟩
theorem edl_ct {M N : mM} (h : LV N 122 123 124) (hl : ∀ l, l < 12 → M 2 l = N 122 l) : ∀ (n i : Nat) (s : Int32 × mL), i + n = 12 → s.1 = cst M i → (edl N n i s).1 = cst M (i + n)
  | 0, i, s, _, e => e
  | n + 1, i, s, hi, e => by
    unfold edl
    have e1 := hl i (by omega)
    rw [show i + (n + 1) = i + 1 + n by omega]
    refine edl_ct h hl n (i + 1) _ (by omega) ?_
    show _ = if M 2 i = -1 then cst M i else cst M i + 1
    rw [e1]
    by_cases h0 : N 122 i < 0
    · rw [if_pos h0, if_pos ((neg_m1 h (by omega)).mp h0)]; exact e
    · rw [if_neg h0, if_neg (fun z => h0 ((neg_m1 h (by omega)).mpr z))]
      show s.1 + 1 = _
      rw [e]
theorem rfC_ib {M : mM} {L : mL} : ∀ n, n ≤ 6 → ∀ r, r < 32 → (ib (rfC M L n) r = true ↔ r < n ∧ ¬ fo M (nI r) 12 = L 7 r)
  | 0, _, r, _ => ⟨fun z => (by rw [show rfC M L 0 = 0 from rfl, ib_0] at z; cases z), fun z => absurd z.1 (Nat.not_lt_zero _)⟩
  | n + 1, hn, r, hr => by
    have ih := rfC_ib (M := M) (L := L) n (by omega) r hr
    unfold rfC
    by_cases e : fo M (nI n) 12 = L 7 n
    · rw [if_pos e, ih]
      constructor
      · rintro ⟨a, b⟩; exact ⟨by omega, b⟩
      · rintro ⟨a, b⟩
        have : r ≠ n := fun z => b (z ▸ e)
        exact ⟨by omega, b⟩
    · rw [if_neg e, ib_or, Bool.or_eq_true, ih, ib_one n (by omega) r hr, decide_eq_true_iff]
      constructor
      · rintro (⟨a, b⟩ | rfl)
        · exact ⟨by omega, b⟩
        · exact ⟨by omega, e⟩
      · rintro ⟨a, b⟩
        by_cases er : r = n
        · exact Or.inr er
        · exact Or.inl ⟨by omega, b⟩
theorem ed_cond {x0 x1 x2 x3 : Int32} : EC x0 x1 x2 x3 ↔ ((0 ≤ x0 ∧ x0 < 12) ∧ (-1 ≤ x1 ∧ x1 < 6) ∧ (x1 = -1 ∨ ((0 ≤ x2 ∧ x2 < 6) ∧ (0 ≤ x3 ∧ x3 < 6)))) := by
  have l : ∀ (x : Int32) (n : Nat), n < 2 ^ 30 → (x ≤ nI n ↔ x < nI (n + 1)) := by
    intro x n hn
    have e1 : (nI n).toInt = n := Int32.toInt_ofNat_of_lt (by omega)
    have e2 : (nI (n + 1)).toInt = ((n + 1 : Nat) : Int) := Int32.toInt_ofNat_of_lt (by omega)
    rw [Int32.le_iff_toInt_le, Int32.lt_iff_toInt_lt, e1, e2]
    omega
  have a1 : x0 ≤ 11 ↔ x0 < 12 := l x0 11 (by decide)
  have a2 : x1 ≤ 5 ↔ x1 < 6 := l x1 5 (by decide)
  have a3 : -1 ≤ x1 → (¬ 0 ≤ x1 ↔ x1 = -1) := by
    intro h
    constructor
    · intro z
      apply Int32.toInt_inj.mp
      rw [Int32.le_iff_toInt_le] at h z
      have : (-1 : Int32).toInt = -1 := rfl
      have : (0 : Int32).toInt = 0 := rfl
      omega
    · rintro rfl; decide
  unfold EC
  rw [a1, a2]
  constructor
  · rintro ⟨h1, h2, h3, h4, h5⟩
    refine ⟨⟨h1, h2⟩, ⟨h3, h4⟩, ?_⟩
    by_cases h0 : 0 ≤ x1
    · exact Or.inr (h5 h0)
    · exact Or.inl ((a3 h3).mp h0)
  · rintro ⟨⟨h1, h2⟩, ⟨h3, h4⟩, h5⟩
    refine ⟨h1, h2, h3, h4, fun h0 => ?_⟩
    rcases h5 with rfl | h5
    · exact absurd h0 (by decide)
    · exact h5
