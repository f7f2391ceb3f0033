/-! an int as a set of relations -/
def ib (x : Int32) (r : Nat) : Bool := x.toBitVec.getLsbD r
theorem ib_ext {x y : Int32} (h : ∀ c, c < 32 → ib x c = ib y c) : x = y := Int32.toBitVec_inj.mp (BitVec.eq_of_getLsbD_eq (fun i hi => h i hi))
theorem ib_or (x y : Int32) (c : Nat) : ib (x ||| y) c = (ib x c || ib y c) := by unfold ib; rw [Int32.toBitVec_or, BitVec.getLsbD_or]
theorem ib_and (x y : Int32) (c : Nat) : ib (x &&& y) c = (ib x c && ib y c) := by unfold ib; rw [Int32.toBitVec_and, BitVec.getLsbD_and]
theorem ib_0 (c : Nat) : ib 0 c = false := BitVec.getLsbD_zero
theorem ib_m1 : ∀ c, c < 32 → ib (-1) c = true := by decide +kernel
theorem ib_one : ∀ c, c < 32 → ∀ d, d < 32 → ib (1 <<< (nI c &&& 31)) d = decide (d = c) := by decide +kernel
theorem ib_sm : ∀ k, k < 32 → ((nI k &&& 31).toBitVec.smod 32).toNat = k := by decide +kernel
theorem ib_ibt {s : Int32} {r : Nat} (h : r < 32) : ibt s (nI r) = 0 ↔ ib s r = false := by
  have e : (s >>> (nI r &&& 31)).toBitVec = s.toBitVec.sshiftRight r := by
    rw [Int32.toBitVec_shiftRight]
    show s.toBitVec.sshiftRight ((nI r &&& 31).toBitVec.smod 32).toNat = _
    rw [ib_sm r h]
  have e0 : ib (ibt s (nI r)) 0 = ib s r := by
    unfold ib ibt
    rw [Int32.toBitVec_and, e, BitVec.getLsbD_and, BitVec.getLsbD_sshiftRight]
    simp [h]
  have e1 : ∀ d, ib (ibt s (nI r)) (d + 1) = false := by
    intro d
    unfold ib ibt
    rw [Int32.toBitVec_and, BitVec.getLsbD_and]
    show (_ && BitVec.getLsbD 1#32 (d + 1)) = false
    simp
  constructor
  · intro z
    rw [← e0, z]
    exact ib_0 0
  · intro z
    apply ib_ext
    intro c _
    cases c with
    | zero => rw [e0, z]; exact (ib_0 0).symm
    | succ d => rw [e1 d]; exact (ib_0 _).symm
theorem ib_nz {x y : Int32} {r : Nat} (h1 : ib x r = true) (h2 : ib y r = true) : ¬ x &&& y = 0 := by
  intro z
  have := ib_and x y r
  rw [z, ib_0, h1, h2] at this
  cases this
theorem ib_ex {x : Int32} (h : ¬ x = 0) : ∃ r, r < 32 ∧ ib x r = true := by
  apply Classical.byContradiction
  intro hn
  apply h
  apply ib_ext
  intro c hc
  rw [ib_0]
  exact ts_nt (fun z => hn ⟨c, hc, z⟩)
/-! counting -/
theorem pcn_mono {f g : Nat → Bool} : ∀ n, (∀ c, c < n → f c = true → g c = true) → pcn f n ≤ pcn g n
  | 0, _ => Nat.le_refl _
  | n + 1, h => by
    have ih := pcn_mono n (fun c hc => h c (by omega))
    unfold pcn
    by_cases h1 : f n = true
    · rw [if_pos h1, if_pos (h n (by omega) h1)]; omega
    · rw [if_neg h1]; omega
theorem pcn_lt {f g : Nat → Bool} : ∀ n, (∀ c, c < n → f c = true → g c = true) → (∃ c, c < n ∧ f c = false ∧ g c = true) → pcn f n < pcn g n
  | 0, _, ⟨c, hc, _⟩ => absurd hc (Nat.not_lt_zero _)
  | n + 1, h, ⟨c, hc, h1, h2⟩ => by
    have ih := pcn_mono n (fun c hc => h c (by omega))
    unfold pcn
    by_cases hn : c = n
    · subst hn
      rw [if_neg (by rw [h1]; decide), if_pos h2]
      omega
    · have := pcn_lt n (fun c hc => h c (by omega)) ⟨c, by omega, h1, h2⟩
      by_cases h3 : f n = true
      · rw [if_pos h3, if_pos (h n (by omega) h3)]; omega
      · rw [if_neg h3]; omega
def totc (T : Nat → Int64) : Nat → Nat
  | 0 => 0
  | n + 1 => totc T n + pcn (lb (T n)) 36
theorem totc_le (T : Nat → Int64) : ∀ n, totc T n ≤ 36 * n
  | 0 => Nat.le_refl _
  | n + 1 => by
    have := totc_le T n
    have := pcn_le (lb (T n)) 36
    unfold totc
    omega
theorem totc_mono {T T' : Nat → Int64} : ∀ n, (∀ r, r < n → ∀ c, c < 36 → lb (T r) c = true → lb (T' r) c = true) → totc T n ≤ totc T' n
  | 0, _ => Nat.le_refl _
  | n + 1, h => Nat.add_le_add (totc_mono n (fun r hr => h r (by omega))) (pcn_mono 36 (fun c hc => h n (by omega) c hc))
theorem totc_lt {T T' : Nat → Int64} : ∀ n, (∀ r, r < n → ∀ c, c < 36 → lb (T r) c = true → lb (T' r) c = true) → (∃ r c, r < n ∧ c < 36 ∧ lb (T r) c = false ∧ lb (T' r) c = true) → totc T n < totc T' n
  | 0, _, ⟨r, _, hr, _⟩ => absurd hr (Nat.not_lt_zero _)
  | n + 1, h, ⟨r, c, hr, hc, h1, h2⟩ => by
    have i1 := totc_mono n (fun r hr => h r (by omega))
    have i2 := pcn_mono 36 (fun c hc => h n (by omega) c hc)
    unfold totc
    by_cases hn : r = n
    · subst hn
      have := pcn_lt 36 (fun c hc => h r (by omega) c hc) ⟨c, hc, h1, h2⟩
      omega
    · have := totc_lt n (fun r hr => h r (by omega)) ⟨r, c, by omega, hc, h1, h2⟩
      omega
/-! the class's rules, as mathematics -/
def cLi (M : mM) (k : Nat) : Li := ((M k 0).toNatClampNeg, tmn M k 1, tmn M k 2)
def cPos (M : mM) (i : Nat) : List Li := ((List.range (rln M i)).filter (fun j => decide (M (15 + 6 * i + j) 3 = 0))).map (fun j => cLi M (15 + 6 * i + j))
def cNeg (M : mM) (i : Nat) : List Li := ((List.range (rln M i)).filter (fun j => decide (¬ M (15 + 6 * i + j) 3 = 0))).map (fun j => cLi M (15 + 6 * i + j))
def cRu (M : mM) (i : Nat) : Ru := (cLi M (13 + 6 * i), cPos M i, cNeg M i)
def cR (M : mM) : Ru → Prop := fun ρ => ∃ i, i < 14 ∧ ¬ M (12 + 6 * i) 4 = 0 ∧ ρ = cRu M i
def ipc (T : Nat → Int64) : Ip := fun r c => r < 14 ∧ lb (T r) c = true
/-- a term of a rule stands in a literal of its body, or is a value -/
def cTm (M : mM) (i t : Nat) : Prop := t < 6 ∨ ∃ j, j < rln M i ∧ (tmn M (15 + 6 * i + j) 1 = t ∨ tmn M (15 + 6 * i + j) 2 = t)
def cS (M : mM) (i : Nat) : Prop := cTm M i (tmn M (13 + 6 * i) 1) ∧ cTm M i (tmn M (13 + 6 * i) 2)
def cRd (M : mM) (i : Nat) : Prop := ∀ j, j < rln M i → ib (M (12 + 6 * i) 3) (M (15 + 6 * i + j) 0).toNatClampNeg = true
theorem tmok_O {t : Int32} (h : tmok t) : tmO t.toNatClampNeg := by
  obtain ⟨n, rfl, h⟩ := h
  rw [nI_clamp (n := n) (by omega)]
  exact h
theorem cPos_mem {M : mM} {i : Nat} {p : Li} : p ∈ cPos M i ↔ ∃ j, j < rln M i ∧ M (15 + 6 * i + j) 3 = 0 ∧ p = cLi M (15 + 6 * i + j) := by
  unfold cPos
  rw [List.mem_map]
  constructor
  · rintro ⟨j, hj, rfl⟩
    obtain ⟨h1, h2⟩ := List.mem_filter.mp hj
    exact ⟨j, List.mem_range.mp h1, of_decide_eq_true h2, rfl⟩
  · rintro ⟨j, h1, h2, rfl⟩
    exact ⟨j, List.mem_filter.mpr ⟨List.mem_range.mpr h1, decide_eq_true h2⟩, rfl⟩
theorem cNeg_mem {M : mM} {i : Nat} {p : Li} : p ∈ cNeg M i ↔ ∃ j, j < rln M i ∧ ¬ M (15 + 6 * i + j) 3 = 0 ∧ p = cLi M (15 + 6 * i + j) := by
  unfold cNeg
  rw [List.mem_map]
  constructor
  · rintro ⟨j, hj, rfl⟩
    obtain ⟨h1, h2⟩ := List.mem_filter.mp hj
    exact ⟨j, List.mem_range.mp h1, of_decide_eq_true h2, rfl⟩
  · rintro ⟨j, h1, h2, rfl⟩
    exact ⟨j, List.mem_filter.mpr ⟨List.mem_range.mpr h1, decide_eq_true h2⟩, rfl⟩
theorem VR.K {v : Vl} (h : VR v) : VK v := ⟨h.1, fun t h1 h2 => Or.inl (h.2 t h1 h2)⟩
theorem VR.ext {v : Vl} (h : VR v) (σ : Nat → Nat) : Ext v (gs' σ) := by
  intro t ht hn
  rcases ht with h1 | ⟨h1, h2⟩
  · unfold gs'
    rw [if_pos (by omega)]; exact (h.1 t h1).symm
  · exact absurd (h.2 t h1 h2) hn
theorem rln_3 {M : mM} {i : Nat} (h : wR M i) : rln M i ≤ 3 := by
  obtain ⟨_, ⟨n, hn, e⟩, _⟩ := h
  unfold rln
  rw [e, nI_clamp (n := n) (by omega)]
  exact hn
/-- all literals of a body hold under an assignment: the positive ones, and the negated ones do not -/
theorem cl_lk {M : mM} {L : mL} {T : Nat → Int64} {i : Nat} (hW : wR M i) {σ : Nat → Nat} (hσ : ∀ t, σ t < 6) : (∀ p ∈ clC M (upr L 8 T) i (rln M i) (rln M i), lk p (gs' σ)) ↔ (∀ p ∈ cPos M i, ipc T p.1 (cv σ p)) ∧ ∀ p ∈ cNeg M i, ¬ ipc T p.1 (cv σ p) := by
  have h3 := rln_3 hW
  have key : ∀ j, j < rln M i → (lk (ltC M (upr L 8 T) (15 + 6 * i + j)) (gs' σ) ↔ (M (15 + 6 * i + j) 3 = 0 → ipc T (cLi M (15 + 6 * i + j)).1 (cv σ (cLi M (15 + 6 * i + j)))) ∧ (¬ M (15 + 6 * i + j) 3 = 0 → ¬ ipc T (cLi M (15 + 6 * i + j)).1 (cv σ (cLi M (15 + 6 * i + j))))) := by
    intro j hj
    obtain ⟨w1, w2, w3, w4⟩ := hW.2.2.2 j (by omega)
    have hr : (M (15 + 6 * i + j) 0).toNatClampNeg < 14 := cl_lt w1
    have t1 := tmok_O w2
    have t2 := tmok_O w3
    rw [lk_cv (r := (cLi M (15 + 6 * i + j)).1) hσ t1 t2]
    have hc := cv_36 hσ (x := cLi M (15 + 6 * i + j)) t1 t2
    show lb (hld M (upr L 8 T) (15 + 6 * i + j)) (cv σ (cLi M (15 + 6 * i + j))) = true ↔ _
    unfold hld
    rw [upr_s]
    by_cases h0 : M (15 + 6 * i + j) 3 = 0
    · rw [if_pos h0]
      exact ⟨fun h => ⟨fun _ => ⟨hr, h⟩, fun z => absurd h0 z⟩, fun h => (h.1 h0).2⟩
    · rw [if_neg h0, lb_not (by omega)]
      constructor
      · intro h
        refine ⟨fun z => absurd z h0, fun _ z => ?_⟩
        have z : lb (T (M (15 + 6 * i + j) 0).toNatClampNeg) (cv σ (cLi M (15 + 6 * i + j))) = true := z.2
        rw [z] at h
        cases h
      · intro h
        have := h.2 h0
        have this : ¬ lb (T (M (15 + 6 * i + j) 0).toNatClampNeg) (cv σ (cLi M (15 + 6 * i + j))) = true := fun z => this ⟨hr, z⟩
        rw [ts_nt this]
        rfl
  rw [clC_all]
  constructor
  · intro h
    have h' : ∀ j, j < rln M i → lk (ltC M (upr L 8 T) (15 + 6 * i + j)) (gs' σ) := fun j hj => h _ (List.mem_map.mpr ⟨j, List.mem_range.mpr hj, rfl⟩)
    refine ⟨fun p hp => ?_, fun p hp => ?_⟩
    · obtain ⟨j, hj, h0, rfl⟩ := cPos_mem.mp hp
      exact ((key j hj).mp (h' j hj)).1 h0
    · obtain ⟨j, hj, h0, rfl⟩ := cNeg_mem.mp hp
      exact ((key j hj).mp (h' j hj)).2 h0
  · rintro ⟨h1, h2⟩ p hp
    obtain ⟨j, hj, rfl⟩ := List.mem_map.mp hp
    have hj := List.mem_range.mp hj
    exact (key j hj).mpr ⟨fun h0 => h1 _ (cPos_mem.mpr ⟨j, hj, h0, rfl⟩), fun h0 => h2 _ (cNeg_mem.mpr ⟨j, hj, h0, rfl⟩)⟩
theorem clC_tm {M : mM} {L : mL} {i : Nat} (hW : wR M i) : ∀ p ∈ clC M L i (rln M i) (rln M i), tmO p.1 ∧ tmO p.2.1 := by
  have h3 := rln_3 hW
  intro p hp
  rw [clC_all] at hp
  obtain ⟨j, hj, rfl⟩ := List.mem_map.mp hp
  have hj := List.mem_range.mp hj
  obtain ⟨w1, w2, w3, w4⟩ := hW.2.2.2 j (by omega)
  exact ⟨tmok_O w2, tmok_O w3⟩
theorem cTm_bd {M : mM} {L : mL} {i t : Nat} {v : Vl} (hv : ∀ t, t < 6 → v t = nI t) (h : cTm M i t) : v t ≠ -1 ∨ ∃ p ∈ clC M L i (rln M i) (rln M i), p.1 = t ∨ p.2.1 = t := by
  rcases h with h | ⟨j, hj, h⟩
  · exact Or.inl (by rw [hv t h]; exact nI_nm (by omega))
  · refine Or.inr ⟨ltC M L (15 + 6 * i + j), ?_, h⟩
    rw [clC_all]
    exact List.mem_map.mpr ⟨j, List.mem_range.mpr hj, rfl⟩
/-- a rule fires: its head gets what follows from it -/
theorem fnw_lb {M : mM} {L : mL} {T : Nat → Int64} {i : Nat} (hW : wR M i) (hS : cS M i) (hV : VR (M 104)) {c : Nat} (hc : c < 64) : lb (fnw M L T i) c = true ↔ lb (T (rhd M i)) c = true ∨ In2 (ipc T) (ipc T) (cRu M i) c := by
  have h3 := rln_3 hW
  have hh := hW.2.2.1
  have tb : ∀ j, j < 3 → tmO (tmn M (15 + 6 * i + j) 1) ∧ tmO (tmn M (15 + 6 * i + j) 2) := fun j hj => by
    obtain ⟨w1, w2, w3, w4⟩ := hW.2.2.2 j hj
    exact ⟨tmok_O w2, tmok_O w3⟩
  have th1 : tmO (tmn M (13 + 6 * i) 1) := tmok_O hh.2.1
  have th2 : tmO (tmn M (13 + 6 * i) 2) := tmok_O hh.2.2.1
  have ht := clC_tm (L := upr L 8 T) hW
  have b1 := cTm_bd (L := upr L 8 T) (v := M 104) hV.1 hS.1
  have b2 := cTm_bd (L := upr L 8 T) (v := M 104) hV.1 hS.2
  unfold fnw
  rw [mmt_en tb h3 (rln M i) (M 104) _ (Nat.le_refl _) hV.K]
  show lb (orL _ _ _ _) c = true ↔ _
  have bd : ∀ γ, γ ∈ en (clC M (upr L 8 T) i (rln M i) (rln M i)) (M 104) → ∀ t, (M 104 t ≠ -1 ∨ ∃ p ∈ clC M (upr L 8 T) i (rln M i) (rln M i), p.1 = t ∨ p.2.1 = t) → γ t ≠ -1 := by
    intro γ hγ t h
    obtain ⟨i1, i2, i3⟩ := en_bd _ _ γ hγ
    rcases h with h | ⟨p, hp, rfl | rfl⟩
    · rw [i1 t h]; exact h
    · exact (i2 p hp).1
    · exact (i2 p hp).2
  rw [orL_lb _ _ (fun γ hγ => by
    have hk := en_VK _ _ γ ht hV.K hγ
    exact ⟨hk.val th1 (bd γ hγ _ b1), hk.val th2 (bd γ hγ _ b2)⟩) c hc, en_hd (r := rhd M i) ht hV.K th1 th2 b1 b2]
  constructor
  · rintro (h | ⟨σ, hσ, _, h2, h4⟩)
    · exact Or.inl h
    · obtain ⟨g1, g2⟩ := (cl_lk hW hσ).mp h2
      exact Or.inr ⟨σ, hσ, g1, g2, h4⟩
  · rintro (h | ⟨σ, hσ, g1, g2, h4⟩)
    · exact Or.inl h
    · exact Or.inr ⟨σ, hσ, hV.ext σ, (cl_lk hW hσ).mpr ⟨g1, g2⟩, h4⟩
theorem In2_36 {X N : Ip} {M : mM} {i c : Nat} (hW : wR M i) (h : In2 X N (cRu M i) c) : c < 36 := by
  obtain ⟨σ, hσ, _, _, rfl⟩ := h
  exact cv_36 hσ (tmok_O hW.2.2.1.2.1) (tmok_O hW.2.2.1.2.2.1)
