/-! the start -/
def LT (i k : Nat) : Int32 × Int32 × Int32 × Int32 := (lib (3 * (4 * i + k)), lib (3 * (4 * i + k) + 1), lib (3 * (4 * i + k) + 2), 0)
def LIBR (i : Nat) : Ru := (lqi (LT i 0), (List.range' 1 (lgc i - 1)).map (fun k => lqi (LT i k)), [])
theorem gv_row {M : mM} {g : Nat} {x0 x1 x2 : Int32} (hg : g < 4) (e : M 10 4 = nI g) : lq (gvM M x0 x1 x2) (99 + g) = (x0, x1, x2, 0) ∧ ∀ k, k ≠ 10 → k ≠ 99 + g → (gvM M x0 x1 x2) k = M k := by
  have ec : (M 10 4).toNatClampNeg = g := by rw [e]; exact nI_clamp (n := g) (by omega)
  refine ⟨?_, fun k a b => ?_⟩
  · unfold lq gvM
    rw [ec, up2_k (by omega), up2_j (by decide), up2_j (by decide), up2_j (by decide), up2_s, up2_j (show (1 : Nat) ≠ 3 by decide), up2_j (show (1 : Nat) ≠ 2 by decide), up2_s, up2_j (show (2 : Nat) ≠ 3 by decide), up2_s, up2_s]
  · unfold gvM
    rw [ec, up2_k a, up2_k b, up2_k b, up2_k b, up2_k b]
theorem lkn_sp {i : Nat} (hi : i < 6) : ∀ (d c : Nat) (N : mM), c + d = 4 → lbI N (min c (lgc i)) → (∀ k, k < min c (lgc i) → lq N (99 + k) = LT i k) → (∀ k, k < lgc i → lq (lkn i d c N) (99 + k) = LT i k) ∧ ∀ k, k ≠ 10 → (k < 99 ∨ 103 ≤ k) → (lkn i d c N) k = N k
  | 0, c, N, hc, _, hk => ⟨fun k hk' => hk k (by have := lgc_4 i; omega), fun _ _ _ => rfl⟩
  | d + 1, c, N, hc, hI, hk => by
    have hl := lgc_4 i
    have h1 := lk1_I hi (show c < 4 by omega) hI
    have hrow : (∀ k, k < min (c + 1) (lgc i) → lq (lk1 i c N) (99 + k) = LT i k) ∧ ∀ k, k ≠ 10 → (k < 99 ∨ 103 ≤ k) → (lk1 i c N) k = N k := by
      unfold lk1
      by_cases hb : lib (3 * (4 * i + c)) = -1
      · rw [if_pos hb]
        have := (lb_no i hi c (by omega)).mp hb
        exact ⟨fun k hk' => hk k (by omega), fun _ _ _ => rfl⟩
      · rw [if_neg hb]
        have hb2 : ¬ lgc i ≤ c := fun z => hb ((lb_no i hi c (by omega)).mpr z)
        have em : min c (lgc i) = c := by omega
        rw [em] at hI hk
        obtain ⟨g1, g2⟩ := gv_row (x0 := lib (3 * (4 * i + c))) (x1 := lib (3 * (4 * i + c) + 1)) (x2 := lib (3 * (4 * i + c) + 2)) (show c < 4 by omega) hI.1
        refine ⟨fun k hk' => ?_, fun k a b => g2 k a (by omega)⟩
        by_cases e : k = c
        · subst e; exact g1
        · rw [lq_c (g2 (99 + k) (by omega) (by omega))]
          exact hk k (by omega)
    obtain ⟨a1, a2⟩ := lkn_sp hi d (c + 1) (lk1 i c N) (by omega) h1 hrow.1
    exact ⟨a1, fun k a b => (a2 k a b).trans (hrow.2 k a b)⟩
theorem LT_ok : ∀ i, i < 6 → ∀ k, k < lgc i → (¬ ((LT i k).1 < 0 ∨ 14 ≤ (LT i k).1.toNatClampNeg)) ∧ ((LT i k).2.1 = nI (LT i k).2.1.toNatClampNeg ∧ ((LT i k).2.1.toNatClampNeg < 6 ∨ (10 ≤ (LT i k).2.1.toNatClampNeg ∧ (LT i k).2.1.toNatClampNeg ≤ 13))) ∧ ((LT i k).2.2.1 = nI (LT i k).2.2.1.toNatClampNeg ∧ ((LT i k).2.2.1.toNatClampNeg < 6 ∨ (10 ≤ (LT i k).2.2.1.toNatClampNeg ∧ (LT i k).2.2.1.toNatClampNeg ≤ 13))) := by decide +kernel
theorem wL_lq {N : mM} {k : Nat} {q : Int32 × Int32 × Int32 × Int32} (h : lq N k = q) (h0 : vp_in q.1 14) (h1 : tmok q.2.1) (h2 : tmok q.2.2.1) (h3 : q.2.2.2 = 0 ∨ q.2.2.2 = 1) : wL N k := by
  subst h
  exact ⟨h0, h1, h2, h3⟩
def LIV (c : Nat) (B : mM) (N : mM) : Prop :=
  (WQ N) ∧
  (lbI N 0) ∧
  (∀ i, i < c → cRu N i = LIBR i ∧ rln N i = lgc i - 1 ∧ cSo N i ∧ cRd N i ∧ N (12 + 6 * i) 4 = 1) ∧
  (∀ i, c ≤ i → i < 14 → N (12 + 6 * i) 4 = 0) ∧
  (∀ k, k ≠ 10 → (k < 12 ∨ (96 ≤ k ∧ k < 99) ∨ 103 ≤ k) → N k = B k)
theorem LIV.wq {c : Nat} {B : mM} {N : mM} (h : LIV c B N) : WQ N := h.1
theorem LIV.lb {c : Nat} {B : mM} {N : mM} (h : LIV c B N) : lbI N 0 := h.2.1
theorem LIV.ru {c : Nat} {B : mM} {N : mM} (h : LIV c B N) : ∀ i, i < c → cRu N i = LIBR i ∧ rln N i = lgc i - 1 ∧ cSo N i ∧ cRd N i ∧ N (12 + 6 * i) 4 = 1 := h.2.2.1
theorem LIV.no {c : Nat} {B : mM} {N : mM} (h : LIV c B N) : ∀ i, c ≤ i → i < 14 → N (12 + 6 * i) 4 = 0 := h.2.2.2.1
theorem LIV.sm {c : Nat} {B : mM} {N : mM} (h : LIV c B N) : ∀ k, k ≠ 10 → (k < 12 ∨ (96 ≤ k ∧ k < 99) ∨ 103 ≤ k) → N k = B k := h.2.2.2.2
theorem LIV.mk {c : Nat} {B : mM} {N : mM} (wq : WQ N) (lb : lbI N 0) (ru : ∀ i, i < c → cRu N i = LIBR i ∧ rln N i = lgc i - 1 ∧ cSo N i ∧ cRd N i ∧ N (12 + 6 * i) 4 = 1) (no : ∀ i, c ≤ i → i < 14 → N (12 + 6 * i) 4 = 0) (sm : ∀ k, k ≠ 10 → (k < 12 ∨ (96 ≤ k ∧ k < 99) ∨ 103 ≤ k) → N k = B k) : LIV c B N := ⟨wq, lb, ru, no, sm⟩
theorem lkn_wL {i : Nat} (hi : i < 6) : ∀ (d c : Nat) (N : mM), c + d = 4 → lbI N (min c (lgc i)) → (∀ j, j < 4 → wL N (99 + j)) → ∀ j, j < 4 → wL (lkn i d c N) (99 + j)
  | 0, _, _, _, _, hw => hw
  | d + 1, c, N, hc, hI, hw => by
    have hl := lgc_4 i
    refine lkn_wL hi d (c + 1) (lk1 i c N) (by omega) (lk1_I hi (by omega) hI) (fun j hj => ?_)
    unfold lk1
    by_cases hb : lib (3 * (4 * i + c)) = -1
    · rw [if_pos hb]; exact hw j hj
    · rw [if_neg hb]
      have hb2 : ¬ lgc i ≤ c := fun z => hb ((lb_no i hi c (by omega)).mpr z)
      have em : min c (lgc i) = c := by omega
      rw [em] at hI
      obtain ⟨g1, g2⟩ := gv_row (x0 := lib (3 * (4 * i + c))) (x1 := lib (3 * (4 * i + c) + 1)) (x2 := lib (3 * (4 * i + c) + 2)) (show c < 4 by omega) hI.1
      by_cases e : j = c
      · subst e
        obtain ⟨o1, o2, o3⟩ := LT_ok i hi j (by omega)
        exact wL_lq (q := LT i j) g1 o1 (tmok_d o2) (tmok_d o3) (Or.inl rfl)
      · exact fr_wL (g2 _ (by omega) (by omega)) (hw j hj)
theorem lrl_sp {B N : mM} {i : Nat} (hi : i < 6) (h : LIV i B N) : LIV (i + 1) B (lrl i N) := by
  have hl := lgc_4 i
  obtain ⟨a1, a2⟩ := lkn_sp hi 4 0 N rfl (by rw [Nat.zero_min]; exact h.lb) (fun k hk => by omega)
  have hI := lkn_I hi 4 0 N rfl (by rw [Nat.zero_min]; exact h.lb)
  have hfl := lkn_wL hi 4 0 N rfl (by rw [Nat.zero_min]; exact h.lb) h.wq.2
  have k0 : lrl i N = up2 (bcm (lkn i 4 0 N) i (lgc i)) 10 4 0 := rfl
  have hlb := lrl_I hi h.lb
  generalize lkn i 4 0 N = Q at a1 a2 hI hfl k0
  generalize lrl i N = R at k0 hlb
  have hWQ : WQ Q := ⟨fun j hj => wR_c (fun k h1 h2 => a2 k (by omega) (by omega)) (h.wq.1 j hj), hfl⟩
  obtain ⟨b1, b2, b3, b4, b5, b6, b7⟩ := bcm_sp (M := Q) (i := i) (g := lgc i) (by omega) hl.1 hl.2 hI.2
  have b6 := b6 (fun j hj => (hfl j hj).1)
  have bW := WQ_bcm (i := i) (g := lgc i) hWQ (by omega) hl.1 hl.2
  have bo : ∀ k, (k < 12 + 6 * i ∨ 18 + 6 * i ≤ k) → (bcm Q i (lgc i)) k = Q k := fun k hk => bcm_o (by omega) hI.2 k hk
  have k_ : ∀ k, k ≠ 10 → (R) k = (bcm Q i (lgc i)) k := fun k hk => by rw [k0, up2_k hk]
  have cro : ∀ j, j < 14 → cRo (bcm Q i (lgc i)) (R) j := fun j hj k h1 h2 => k_ k (by omega)
  have croN : ∀ j, j < 14 → j ≠ i → cRo N (R) j := fun j hj e k h1 h2 => (k_ k (by omega)).trans ((bo k (by omega)).trans (a2 k (by omega) (by omega)))
  have mem : ∀ k, k ∈ List.range' 1 (lgc i - 1) → k < lgc i := fun k hk => by have := List.mem_range'_1.mp hk; omega
  have f0 : ∀ k, k < lgc i → Q (99 + k) 3 = 0 := fun k hk => congrArg (fun q : Int32 × Int32 × Int32 × Int32 => q.2.2.2) (a1 k hk)
  have ci' : ∀ k, k < lgc i → cLi Q (99 + k) = lqi (LT i k) := fun k hk => congrArg lqi (a1 k hk)
  have bru : cRu (bcm Q i (lgc i)) i = LIBR i := by
    unfold cRu LIBR
    have c0 := ci' 0 (by omega)
    rw [Nat.add_zero] at c0
    rw [b1, b3, b4, c0, flt_all (fun k hk => decide_eq_true (f0 k (mem k hk))), flt_no (fun k hk => decide_eq_false (fun z => z (f0 k (mem k hk)))), List.map_congr_left (fun k hk => ci' k (mem k hk))]
    rfl
  refine LIV.mk ⟨fun j hj => wR_c (cro j hj) (bW.1 j hj), fun j hj => fr_wL (k_ _ (by omega)) (bW.2 j hj)⟩ hlb (fun j hj => ?_) (fun j h1 h2 => ?_) (fun k h1 h2 => ?_)
  · by_cases e : j = i
    · subst e
      have c := cro j (by omega)
      refine ⟨by rw [c.ru (by omega)]; exact bru, by rw [c.ln]; exact b2, ?_, ?_, by rw [c _ (by omega) (by omega)]; exact b7⟩
      · obtain ⟨np, x1, x2, x3⟩ := b5
        refine ⟨np, by rw [c.ln]; exact x1, fun j' hj' => by rw [c _ (by omega) (by omega)]; exact x2 j' hj', fun j' h1 h2 => ?_⟩
        rw [c.ln] at h2
        rw [c _ (by omega) (by omega)]; exact x3 j' h1 h2
      · intro j' hj'
        rw [c.ln] at hj'
        rw [c (12 + 6 * j) (by omega) (by omega), c (15 + 6 * j + j') (by omega) (by omega)]
        exact b6 j' hj'
    · obtain ⟨y1, y2, y3, y4, y5⟩ := h.ru j (by omega)
      have c := croN j (by omega) e
      have l4 := lgc_4 j
      refine ⟨by rw [c.ru (by omega)]; exact y1, by rw [c.ln]; exact y2, ?_, ?_, by rw [c _ (by omega) (by omega)]; exact y5⟩
      · obtain ⟨np, x1, x2, x3⟩ := y3
        refine ⟨np, by rw [c.ln]; exact x1, fun j' hj' => by rw [c _ (by omega) (by omega)]; exact x2 j' hj', fun j' h1 h2 => ?_⟩
        rw [c.ln] at h2
        rw [c _ (by omega) (by omega)]; exact x3 j' h1 h2
      · intro j' hj'
        rw [c.ln] at hj'
        rw [c (12 + 6 * j) (by omega) (by omega), c (15 + 6 * j + j') (by omega) (by omega)]
        exact y4 j' hj'
  · rw [croN j h2 (by omega) _ (by omega) (by omega)]
    exact h.no j (by omega) h2
  · rw [k_ k h1, bo k (by omega), a2 k h1 (by omega)]
    exact h.sm k h1 h2
theorem lrn_sp {B : mM} : ∀ (d i : Nat) (N : mM), i + d = 6 → LIV i B N → LIV 6 B (lrn d i N)
  | 0, i, N, hi, h => by
    have : i = 6 := by omega
    subst this
    exact h
  | d + 1, i, N, hi, h => lrn_sp d (i + 1) (lrl i N) (by omega) (lrl_sp (by omega) h)
def B0 : mM := pf3 (pf2 (pf1 (upr (fun _ _ => 0) 0 (fun _ => 0))))
theorem B0_z {k : Nat} (h : 10 ≤ k) (h2 : k < 103) : B0 k = fun _ => 0 := by
  unfold B0 pf3 zr
  by_cases e : k = 10
  · subst e
    rw [if_neg (by omega), upr_s]
  · rw [if_pos (by omega)]
theorem B0_liv : LIV 0 B0 B0 := by
  have z : ∀ k, 10 ≤ k → k < 103 → ∀ j, B0 k j = 0 := fun k a b j => by rw [B0_z a b]
  have wz : ∀ k, 10 ≤ k → k < 103 → wL B0 k := fun k a b => by
    unfold wL
    rw [z k a b, z k a b, z k a b, z k a b]
    exact ⟨(show ¬ ((0 : Int32) < 0 ∨ 14 ≤ (0 : Int32).toNatClampNeg) by decide), ⟨0, rfl, by decide⟩, ⟨0, rfl, by decide⟩, Or.inl rfl⟩
  refine LIV.mk ⟨fun i hi => ⟨Or.inl (z _ (by omega) (by omega) 4), ⟨0, by decide, z _ (by omega) (by omega) 2⟩, wz _ (by omega) (by omega), fun j hj => wz _ (by omega) (by omega)⟩, fun j hj => wz _ (by omega) (by omega)⟩ (lb3 _) (fun i hi => absurd hi (Nat.not_lt_zero _)) (fun i _ hi => z _ (by omega) (by omega) 4) (fun _ _ _ => rfl)
theorem LI_liv : LIV 6 B0 (lrn 6 0 B0) := lrn_sp 6 0 B0 rfl B0_liv
/-- the class's cells at the start -/
theorem MI_c : ∀ k, 1 ≤ k → k < 103 → MI k = (lrn 6 0 B0) k := by
  intro k h1 h2
  have e1 : MI k = MY k := (upr_k (by omega)).trans (upr_k (by omega))
  have lt : ∀ (N : mM) (i : Nat) (x y z : Int32), (lat N i x y z) k = N k := fun N i x y z => by
    unfold lat
    rw [up2_k (by omega), up2_k (by omega), up2_k (by omega), up2_k (by omega)]
  have bd : ∀ (N : mM) (x a b c : Int32), (bdM N x a b c) k = N k := fun N x a b c => by
    unfold bdM
    rw [up2_k (by omega), lt]
  have lbk : ∀ (N : mM) (x a b c d e f : Int32), (lbM N x a b c d e f) k = N k := fun N x a b c d e f => by
    unfold lbM
    rw [bd, lt, up2_k (by omega), up2_k (by omega)]
  have pc : ∀ (f : Int32) (N : mM), (pC f N) k = N k := fun f N => by
    unfold pC
    rw [bd, bd, lbk, bd, bd, lbk]
  have e2 : MY k = pB3 6 k := by
    unfold MY
    rw [pc, pc]
    unfold pC1
    rw [bd, lbk]
    unfold pC0
    rw [lbk]
  have e3 : pB3 6 k = pA k := by
    unfold pB3
    rw [upr_k (by omega)]
    unfold pB2
    rw [upr_k (by omega)]
    unfold pB1
    rw [upr_k (by omega)]
  have e4 : pA k = MZ k := by
    unfold pA pA15 pA10 pA5
    rw [upr_k (by omega), upr_k (by omega), upr_k (by omega), upr_k (by omega), upr_k (by omega), upr_k (by omega), upr_k (by omega), upr_k (by omega), upr_k (by omega), upr_k (by omega), upr_k (by omega), upr_k (by omega), upr_k (by omega), upr_k (by omega), upr_k (by omega), upr_k (by omega), upr_k (by omega), upr_k (by omega), upr_k (by omega), upr_k (by omega), upr_k (by omega), up2_k (by omega)]
  have e5 : MZ k = (lrn 6 0 B0) k := by
    unfold MZ
    rw [upr_k (by omega)]
    unfold pfM
    rw [up2_k (by omega)]
    unfold pf5
    rw [upr_k (by omega), upr_k (by omega), upr_k (by omega), upr_k (by omega), upr_k (by omega)]
    unfold pf4
    rw [upr_k (by omega), upr_k (by omega)]
    rfl
  rw [e1, e2, e3, e4, e5]
