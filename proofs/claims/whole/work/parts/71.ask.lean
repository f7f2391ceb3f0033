/-! questions: both sides answer the same -/
theorem clp_ro {RI : mM → mL → Prop} {Q1 Q2 : Mm → Option Value → Mm → Prop} {a b : mM → mL → Int32} (hP : ∀ M L, RI M L → PI M) (h1 : ∀ M L r μ1, Q1 (131, M, L, TT) r μ1 → r = some (.int (a M L)) ∧ μ1 = (131, M, L, TT)) (h2 : ∀ M L r μ1, Q2 (131, M, L, TT) r μ1 → r = some (.int (b M L)) ∧ μ1 = (131, M, L, TT)) (h : ∀ M L, RI M L → b M L = a M L) : Clp RI Q1 Q2 := by
  intro M L hR r μ1 hq
  obtain ⟨rfl, rfl⟩ := h1 M L r μ1 hq
  refine ⟨_, M, L, rfl, rfl, hP M L hR, fun r2 μ2 hq2 => ?_⟩
  obtain ⟨rfl, rfl⟩ := h2 M L r2 μ2 hq2
  exact ⟨by rw [h M L hR], M, L, rfl, hR⟩
theorem rng_n {x : Int32} {n : Nat} (hn : n < 2 ^ 31) (h : 0 ≤ x ∧ x < nI n) : ∃ r, r < n ∧ x = nI r := by
  have h0 : ¬ x < 0 := Int32.not_lt.mpr h.1
  have hv : vp_in x (2 ^ 31) := by
    rintro (z | z)
    · exact h0 z
    · have h2 : x.toInt < 2147483648 := Int32.toInt_lt x
      have e : x.toNatClampNeg = x.toInt.toNat := rfl
      omega
  have e := vp_nI hv
  refine ⟨x.toNatClampNeg, ?_, e⟩
  have h2 := h.2
  rw [e] at h2
  have h3 : x.toNatClampNeg < 2 ^ 31 := cl_lt hv
  exact (nI_lt_iff h3 hn).mp h2
theorem rng_i {r n : Nat} (h : r < n) (hn : n < 2 ^ 31) : 0 ≤ nI r ∧ nI r < nI n := ⟨nI_le (a := 0) (Nat.zero_le _) (by omega), nI_lt h hn⟩
theorem RI.n {M : mM} {L : mL} (h : RI M L) : ∃ n, 9 ≤ n ∧ n ≤ 14 ∧ M 5 4 = nI n ∧ M 109 0 = nI n ∧ (M 109 0).toNatClampNeg = n := by
  obtain ⟨n, h1, h2, h3⟩ := h.ci.2.2.1
  have e : M 109 0 = nI n := h.cnt.trans h3
  exact ⟨n, h1, h2, h3, e, by rw [e]; exact nI_clamp (n := n) (by omega)⟩
theorem k_changes : Clp RI (po_PF_changes [.ref 0]) (po_PM_changes [.ref 109]) := clp_ro (fun _ _ h => h.pi) (fun _ _ _ _ h => h) (fun _ _ _ _ h => h) (fun _ _ h => h.cha.symm)
theorem k_objects : Clp RI (po_PF_objects [.ref 0]) (po_PM_objects [.ref 109]) := clp_ro (fun _ _ h => h.pi) (fun _ _ _ _ h => h) (fun _ _ _ _ h => h) (fun _ _ h => h.mad.symm)
theorem k_stratum (x0 : Int32) : Clp RI (po_PF_stratum [.ref 0, .int x0]) (po_PM_stratum [.ref 109, .int x0]) := clp_ro (fun _ _ h => h.pi) (fun _ _ _ _ h => h) (fun _ _ _ _ h => h) (fun M L h => by
  obtain ⟨n, h1, h2, h3, h4, h5⟩ := h.n
  show (if 0 ≤ x0 ∧ x0 < M 109 0 then M 114 x0.toNatClampNeg else -1) = (if 0 ≤ x0 ∧ x0 < M 5 4 then M 96 x0.toNatClampNeg else -1)
  rw [h3, h4]
  by_cases hx : 0 ≤ x0 ∧ x0 < nI n
  · obtain ⟨r, hr, rfl⟩ := rng_n (by omega) hx
    rw [if_pos hx, if_pos hx, nI_clamp (n := r) (by omega)]
    exact (h.str r (by omega)).1.symm
  · rw [if_neg hx, if_neg hx])
theorem k_size (x0 : Int32) : Clp RI (po_PF_size [.ref 0, .int x0]) (po_PM_size [.ref 109, .int x0]) := clp_ro (fun _ _ h => h.pi) (fun _ _ _ _ h => h) (fun _ _ _ _ h => h) (fun M L h => by
  obtain ⟨n, h1, h2, h3, h4, h5⟩ := h.n
  show (if 0 ≤ x0 ∧ x0 < M 109 0 then szl (L 112 x0.toNatClampNeg) 36 else -1) = (if 0 ≤ x0 ∧ x0 < M 5 4 then bc (L 8 x0.toNatClampNeg) else -1)
  rw [h3, h4]
  by_cases hx : 0 ≤ x0 ∧ x0 < nI n
  · obtain ⟨r, hr, rfl⟩ := rng_n (by omega) hx
    rw [if_pos hx, if_pos hx, nI_clamp (n := r) (by omega)]
    exact (h.tup.cnt (by omega)).symm
  · rw [if_neg hx, if_neg hx])
theorem hok_neg {h : Int32} (hh : hok h) : h < 0 ↔ h = -1 := by
  rcases hh with rfl | hv
  · exact ⟨fun _ => rfl, fun _ => by decide⟩
  · constructor
    · intro z; exact absurd (Or.inl z) hv
    · rintro rfl; decide
theorem k_site (x0 : Int32) : Clp RI (po_PF_site [.ref 0, .int x0]) (po_PM_site [.ref 109, .int x0]) := clp_ro (fun _ _ h => h.pi) (fun _ _ _ _ h => h) (fun _ _ _ _ h => h) (fun M L h => by
  show (if isV x0 ∧ ¬ M 125 x0.toNatClampNeg < 0 then M 126 (M 125 x0.toNatClampNeg).toNatClampNeg else -1) = (if 0 ≤ x0 ∧ x0 < 6 then (if M 106 x0.toNatClampNeg = -1 then -1 else M 107 (M 106 x0.toNatClampNeg).toNatClampNeg) else -1)
  by_cases hx : 0 ≤ x0 ∧ x0 < 6
  · obtain ⟨r, hr, rfl⟩ := rng_n (n := 6) (by decide) hx
    have e := h.hel r hr
    have ho := h.ci.2.2.2.2.1 r hr
    rw [if_pos hx, nI_clamp (n := r) (by omega), ← e]
    by_cases h0 : M 106 r = -1
    · rw [if_pos h0, if_neg (fun z => z.2 ((hok_neg ho).mpr h0))]
    · rw [if_neg h0, if_pos ⟨hx, fun z => h0 ((hok_neg ho).mp z)⟩]
      rcases ho with ho | ho
      · exact absurd ho h0
      · exact (h.sit _ (cl_lt ho)).symm
  · rw [if_neg hx, if_neg (fun z => hx z.1)])
theorem ll_llr {M : mM} {L : mL} (h : RI M L) {x a b : Int32} : ∀ (n i : Nat), i + n = 12 → llr M x a b n i = if 0 ≤ x ∧ x < 6 then ll M x a b n i else -1
  | 0, i, _ => by
    show (-1 : Int32) = if 0 ≤ x ∧ x < 6 then -1 else -1
    split <;> rfl
  | n + 1, i, hi => by
    obtain ⟨e1, e2, e3⟩ := h.lin i (by omega)
    have hv := h.ci.2.2.2.2.2 i (by omega)
    have ih := ll_llr h (x := x) (a := a) (b := b) n (i + 1) (by omega)
    unfold llr ll
    rw [ih, ← e1, ← e2, ← e3]
    by_cases hx : 0 ≤ x ∧ x < 6
    · rw [if_pos hx, if_pos hx]
      by_cases hc : M 2 i = x ∧ M 3 i = a ∧ M 4 i = b
      · rw [if_pos hc, if_pos ⟨by rw [hc.1]; exact Int32.not_lt.mpr hx.1, hc⟩]
      · rw [if_neg hc, if_neg (fun z => hc z.2)]
    · rw [if_neg hx, if_neg hx, if_neg]
      rintro ⟨z1, z2, _⟩
      rcases hv with hv | ⟨hv, _⟩
      · rw [hv] at z1; exact z1 (by decide)
      · apply hx
        rw [← z2]
        refine ⟨Int32.not_lt.mp z1, ?_⟩
        have e := vp_nI hv
        rw [e]
        exact nI_lt (cl_lt hv) (by decide)
theorem k_line (x0 x1 x2 : Int32) : Clp RI (po_PF_line [.ref 0, .int x0, .int x1, .int x2]) (po_PM_line [.ref 109, .int x0, .int x1, .int x2]) := clp_ro (fun _ _ h => h.pi) (fun _ _ _ _ h => h) (fun _ _ _ _ h => h) (fun M L h => ll_llr h 12 0 rfl)
/-- a place: both sides refuse it, or take it -/
theorem RI.pl {M : mM} {L : mL} (h : RI M L) (x0 x1 x2 : Int32) : (cof (M 5 4) (M 6 x0.toNatClampNeg) x0 x1 x2 = -1 ∧ plM M x0 x1 x2 = -1) ∨ ∃ n r t, M 5 4 = nI n ∧ n ≤ 14 ∧ r < n ∧ x0 = nI r ∧ x0.toNatClampNeg = r ∧ t < 36 ∧ (M 110 r = 1 → t < 6) ∧ cel M r t < 36 ∧ cof (M 5 4) (M 6 x0.toNatClampNeg) x0 x1 x2 = nI (cel M r t) ∧ plM M x0 x1 x2 = nI t := by
  obtain ⟨n, h1, h2, h3, h4, h5⟩ := h.n
  unfold plM plc cof
  rw [h3, h4]
  by_cases hx : 0 ≤ x0 ∧ x0 < nI n
  · obtain ⟨r, hr, rfl⟩ := rng_n (by omega) hx
    obtain ⟨a1, a2⟩ := h.ari r (by omega) (by rw [h3]; exact hx.2)
    rw [nI_clamp (n := r) (by omega), a1]
    by_cases hx1 : 0 ≤ x1 ∧ x1 < 6
    · obtain ⟨a, ha, rfl⟩ := rng_n (n := 6) (by decide) hx1
      rcases a2 with a2 | a2
      · right
        have es : sec (M 110 r) x2 = 0 := if_pos a2
        rw [es, if_pos ⟨hx.1, hx.2, hx1, by decide⟩, if_pos ⟨hx.1, hx.2, hx1, fun z => absurd (a2.symm.trans z) (by decide)⟩, if_pos a2]
        have ec : cel M r a = 6 * a := if_pos a2
        refine ⟨n, r, a, rfl, h2, hr, rfl, rfl, by omega, fun _ => ha, by rw [ec]; omega, ?_, rfl⟩
        rw [ec, Int32.add_zero, show (6 : Int32) = nI 6 from rfl, show nI a * nI 6 = nI (a * 6) from (Int32.ofNat_mul a 6).symm, Nat.mul_comm]
      · have n1 : ¬ M 110 r = 1 := fun z => absurd (a2.symm.trans z) (by decide)
        have es : sec (M 110 r) x2 = x2 := if_neg n1
        rw [es]
        by_cases hx2 : 0 ≤ x2 ∧ x2 < 6
        · right
          obtain ⟨b, hb, rfl⟩ := rng_n (n := 6) (by decide) hx2
          rw [if_pos ⟨hx.1, hx.2, hx1, hx2⟩, if_pos ⟨hx.1, hx.2, hx1, fun _ => hx2⟩, if_neg n1]
          have ec : cel M r (6 * a + b) = 6 * a + b := if_neg n1
          refine ⟨n, r, 6 * a + b, rfl, h2, hr, rfl, rfl, by omega, fun z => absurd z n1, by rw [ec]; omega, ?_, ?_⟩
          · rw [ec, show (6 : Int32) = nI 6 from rfl, show nI a * nI 6 = nI (a * 6) from (Int32.ofNat_mul a 6).symm, nI_ad, Nat.mul_comm]
          · rw [show (6 : Int32) = nI 6 from rfl, show nI 6 * nI a = nI (6 * a) from (Int32.ofNat_mul 6 a).symm, nI_ad]
        · left
          rw [if_neg (fun z => hx2 z.2.2.2), if_neg (fun z => hx2 (z.2.2.2 a2))]
          exact ⟨rfl, rfl⟩
    · left
      rw [if_neg (fun z => hx1 z.2.2.1), if_neg (fun z => hx1 z.2.2.1)]
      exact ⟨rfl, rfl⟩
  · left
    rw [if_neg (fun z => hx ⟨z.1, z.2.1⟩), if_neg (fun z => hx ⟨z.1, z.2.1⟩)]
    exact ⟨rfl, rfl⟩
theorem EQs.bit {M : mM} {X Y : Nat → Int64} (h : EQs M X Y) {r t : Nat} (hr : r < 14) (ht : t < 36) : lb (X r) (cel M r t) = lb (Y r) t := by
  unfold cel
  by_cases hu : M 110 r = 1
  · rw [if_pos hu]; exact (h.un hr hu).1 t
  · rw [if_neg hu]; exact h.bi hr hu t
theorem k_holds (x0 x1 x2 : Int32) : Clp RI (po_PF_holds [.ref 0, .int x0, .int x1, .int x2]) (po_PM_holds [.ref 109, .int x0, .int x1, .int x2]) := clp_ro (fun _ _ h => h.pi) (fun _ _ _ _ h => h) (fun _ _ _ _ h => h) (fun M L h => by
  show b2 (¬ plM M x0 x1 x2 < 0 ∧ sb (L 112 x0.toNatClampNeg) (plM M x0 x1 x2) = 1) = b2 (¬ cof (M 5 4) (M 6 x0.toNatClampNeg) x0 x1 x2 = -1 ∧ ¬ ub (L 8 x0.toNatClampNeg) (cof (M 5 4) (M 6 x0.toNatClampNeg) x0 x1 x2) = 0)
  unfold b2
  rcases h.pl x0 x1 x2 with ⟨e1, e2⟩ | ⟨n, r, t, g1, g2, g3, g4, g5, g6, g7, g8, e1, e2⟩
  · rw [if_neg (fun z => z.1 (by rw [e2]; decide)), if_neg (fun z => z.1 e1)]
  · rw [e1, e2, g5]
    have hb := h.tup.bit (show r < 14 by omega) g6
    have c1 : ¬ nI t < 0 := nI_nlt (a := t) (b := 0) (Nat.zero_le _) (by omega)
    by_cases hl : lb (L 112 r) t = true
    · rw [if_pos ⟨c1, (lb_sb1 (by omega)).mpr hl⟩, if_pos ⟨nI_nm (by omega), fun z => by
        rw [(lb_ub (by omega)).mp z] at hb
        rw [← hb] at hl
        cases hl⟩]
    · rw [if_neg (fun z => hl ((lb_sb1 (by omega)).mp z.2)), if_neg (fun z => z.2 ((lb_ub (by omega)).mpr (by rw [hb]; exact ts_nt hl)))])
/-! tuple -/
theorem ca_bi {X Y : Int64} (h : ∀ c, lb X c = lb Y c) : ∀ (n c : Nat) (k : Int32), c + n ≤ 64 → ca X n c k = crl Y n c k
  | 0, _, _, _ => rfl
  | n + 1, c, k, hc => by
    unfold ca crl
    rw [ca_bi h n (c + 1) k (by omega), ca_bi h n (c + 1) (k + -1) (by omega)]
    by_cases hb : lb Y c = true
    · rw [if_neg (fun z => by rw [← h c, (lb_ub (by omega)).mp z] at hb; cases hb), if_pos ((lb_sb1 (by omega)).mpr hb)]
    · rw [if_pos ((lb_ub (by omega)).mpr (by rw [h c]; exact ts_nt hb)), if_neg (fun z => hb ((lb_sb1 (by omega)).mp z))]
theorem ca_r {t : Int64} : ∀ (n c : Nat) (k : Int32), c + n ≤ 64 → ca t n c k = -1 ∨ ∃ d, c ≤ d ∧ d < c + n ∧ ca t n c k = nI d
  | 0, _, _, _ => Or.inl rfl
  | n + 1, c, k, hc => by
    unfold ca
    split
    · rcases ca_r (t := t) n (c + 1) k (by omega) with h | ⟨d, h1, h2, h3⟩
      · exact Or.inl h
      · exact Or.inr ⟨d, by omega, by omega, h3⟩
    · split
      · exact Or.inr ⟨c, by omega, by omega, rfl⟩
      · rcases ca_r (t := t) n (c + 1) (k + -1) (by omega) with h | ⟨d, h1, h2, h3⟩
        · exact Or.inl h
        · exact Or.inr ⟨d, by omega, by omega, h3⟩
def x6 (v : Int32) : Int32 := if v = -1 then -1 else v * 6
theorem ca_un {X Y : Int64} (h1 : ∀ t, lb X (6 * t) = lb Y t) (h2 : ∀ c, c % 6 ≠ 0 → lb X c = false) : ∀ (n t : Nat) (k : Int32), t + n ≤ 6 → ca X (6 * n) (6 * t) k = x6 (crl Y n t k)
  | 0, _, _, _ => rfl
  | n + 1, t, k, hc => by
    have skip : ∀ (m c : Nat) (k : Int32), c % 6 ≠ 0 → c < 64 → ca X (m + 1) c k = ca X m (c + 1) k := by
      intro m c k hc hl
      show (if ub X (nI c) = 0 then _ else _) = _
      rw [if_pos ((lb_ub hl).mpr (h2 c hc))]
    have five : ∀ k, ca X (6 * n + 5) (6 * t + 1) k = ca X (6 * n) (6 * (t + 1)) k := by
      intro k
      rw [skip _ _ k (by omega) (by omega), skip _ _ k (by omega) (by omega), skip _ _ k (by omega) (by omega), skip _ _ k (by omega) (by omega), skip _ _ k (by omega) (by omega)]
      rfl
    rw [show 6 * (n + 1) = 6 * n + 5 + 1 by omega]
    unfold ca crl
    rw [five, five, ca_un h1 h2 n (t + 1) k (by omega), ca_un h1 h2 n (t + 1) (k + -1) (by omega)]
    by_cases hb : lb Y t = true
    · rw [if_neg (fun z => by rw [← h1 t, (lb_ub (by omega)).mp z] at hb; cases hb), if_pos ((lb_sb1 (by omega)).mpr hb)]
      by_cases hk : k = 0
      · rw [if_pos hk, if_pos hk]
        unfold x6
        rw [if_neg (nI_nm (by omega)), show (6 : Int32) = nI 6 from rfl, show nI t * nI 6 = nI (t * 6) from (Int32.ofNat_mul t 6).symm, Nat.mul_comm]
      · rw [if_neg hk, if_neg hk]
    · rw [if_pos ((lb_ub (by omega)).mpr (by rw [h1]; exact ts_nt hb)), if_neg (fun z => hb ((lb_sb1 (by omega)).mp z))]
theorem crl_no {Y : Int64} : ∀ (n c : Nat) (k : Int32), c + n ≤ 64 → (∀ d, c ≤ d → d < c + n → lb Y d = false) → crl Y n c k = -1
  | 0, _, _, _, _ => rfl
  | n + 1, c, k, hc, h => by
    unfold crl
    rw [if_neg (fun z => by have := (lb_sb1 (by omega)).mp z; rw [h c (by omega) (by omega)] at this; cases this)]
    exact crl_no n (c + 1) k (by omega) (fun d h1 h2 => h d (by omega) (by omega))
theorem crl_cut {Y : Int64} {m : Nat} : ∀ (n c : Nat) (k : Int32), c + n + m ≤ 64 → (∀ d, c + n ≤ d → d < c + n + m → lb Y d = false) → crl Y (n + m) c k = crl Y n c k
  | 0, c, k, hc, h => by
    rw [Nat.zero_add]
    exact crl_no m c k (by omega) (fun d h1 h2 => h d (by omega) (by omega))
  | n + 1, c, k, hc, h => by
    rw [show n + 1 + m = n + m + 1 by omega]
    unfold crl
    rw [crl_cut n (c + 1) k (by omega) (fun d h1 h2 => h d (by omega) (by omega)), crl_cut n (c + 1) (k + -1) (by omega) (fun d h1 h2 => h d (by omega) (by omega))]
theorem crl_r {t : Int64} : ∀ (n c : Nat) (k : Int32), crl t n c k = -1 ∨ ∃ d, c ≤ d ∧ d < c + n ∧ crl t n c k = nI d
  | 0, _, _ => Or.inl rfl
  | n + 1, c, k => by
    unfold crl
    split
    · split
      · exact Or.inr ⟨c, by omega, by omega, rfl⟩
      · rcases crl_r (t := t) n (c + 1) (k + -1) with h | ⟨d, h1, h2, h3⟩
        · exact Or.inl h
        · exact Or.inr ⟨d, by omega, by omega, h3⟩
    · rcases crl_r (t := t) n (c + 1) k with h | ⟨d, h1, h2, h3⟩
      · exact Or.inl h
      · exact Or.inr ⟨d, by omega, by omega, h3⟩
theorem x6_d : ∀ d, d < 6 → ¬ nI d * 6 = -1 ∧ nI d * 6 / 6 = nI d := by decide +kernel
theorem k_tuple (x0 x1 : Int32) : Clp RI (po_PF_tuple [.ref 0, .int x0, .int x1]) (po_PM_tuple [.ref 109, .int x0, .int x1]) := clp_ro (fun _ _ h => h.pi) (fun _ _ _ _ h => h) (fun _ _ _ _ h => h) (fun M L h => by
  obtain ⟨n, h1, h2, h3, h4, h5⟩ := h.n
  show (if (0 ≤ x0 ∧ x0 < M 109 0) ∧ 0 ≤ x1 then tpr M x0 (crl (L 112 x0.toNatClampNeg) 36 0 x1) else -1) = (if (0 ≤ x0 ∧ x0 < M 5 4) ∧ 0 ≤ x1 then tpl M x0 (ca (L 8 x0.toNatClampNeg) 36 0 x1) else -1)
  rw [h3, h4]
  by_cases hx : (0 ≤ x0 ∧ x0 < nI n) ∧ 0 ≤ x1
  · rw [if_pos hx, if_pos hx]
    obtain ⟨r, hr, rfl⟩ := rng_n (by omega) hx.1
    have hr14 : r < 14 := by omega
    obtain ⟨a1, a2⟩ := h.ari r hr14 (by rw [h3]; exact hx.1.2)
    unfold tpr tpl
    rw [nI_clamp (n := r) (by omega), a1]
    by_cases hu : M 110 r = 1
    · obtain ⟨u1, u2, u3⟩ := h.tup.un hr14 hu
      have e1 : ca (L 8 r) 36 0 x1 = x6 (crl (L 112 r) 6 0 x1) := ca_un u1 u2 6 0 x1 (by omega)
      have e2 : crl (L 112 r) 36 0 x1 = crl (L 112 r) 6 0 x1 := crl_cut (m := 30) 6 0 x1 (by omega) (fun d g1 _ => u3 d (by omega))
      rw [e1, e2]
      rcases crl_r (t := L 112 r) 6 0 x1 with g | ⟨d, g1, g2, g3⟩
      · rw [g]
        rfl
      · rw [g3]
        obtain ⟨q1, q2⟩ := x6_d d (by omega)
        have e3 : x6 (nI d) = nI d * 6 := if_neg (nI_nm (by omega))
        rw [e3, if_neg (nI_nm (by omega)), if_neg q1, if_pos hu, if_pos hu, q2]
    · rw [ca_bi (h.tup.bi hr14 hu) 36 0 x1 (by omega)]
      rw [if_neg hu, if_neg hu]
  · rw [if_neg hx, if_neg hx])
