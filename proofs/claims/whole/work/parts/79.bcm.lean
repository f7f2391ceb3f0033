/-! a rule that the class makes -/
def lq (N : mM) (k : Nat) : Int32 × Int32 × Int32 × Int32 := (N k 0, N k 1, N k 2, N k 3)
def bl (N : mM) (i : Nat) : List (Int32 × Int32 × Int32 × Int32) := (List.range (rln N i)).map (fun j => lq N (15 + 6 * i + j))
theorem lq_c {N N' : mM} {k : Nat} (h : N' k = N k) : lq N' k = lq N k := by
  unfold lq
  rw [h]
/-- what the body reads is noted -/
def RdI (N : mM) (i : Nat) : Prop := ∀ q ∈ bl N i, ∀ r, r < 14 → q.1 = nI r → ib (N (12 + 6 * i) 3) r = true
theorem abS_sp {N : mM} {i kk m : Nat} (hi : i < 14) (hm : m < 3) (hl : N (12 + 6 * i) 2 = nI m) : (abS N i kk) (12 + 6 * i) 2 = nI (m + 1) ∧ bl (abS N i kk) i = bl N i ++ [lq N (99 + kk)] ∧ (RdI N i → RdI (abS N i kk) i) ∧ ∀ k, k ≠ 12 + 6 * i → k ≠ 15 + 6 * i + m → (abS N i kk) k = N k := by
  have em : rln N i = m := by unfold rln; rw [hl]; exact nI_clamp (n := m) (by omega)
  have h1 : (abS N i kk) (12 + 6 * i) 2 = nI (m + 1) := by
    unfold abS
    rw [up2_j (by decide), up2_s, hl, nI_succ]
  have h4 : ∀ k, k ≠ 12 + 6 * i → k ≠ 15 + 6 * i + m → (abS N i kk) k = N k := fun k a b => by
    unfold abS
    rw [up2_k a, up2_k a, em, cpy_k b]
  have em' : rln (abS N i kk) i = m + 1 := by unfold rln; rw [h1]; exact nI_clamp (n := m + 1) (by omega)
  have hrow : lq (abS N i kk) (15 + 6 * i + m) = lq N (99 + kk) := by
    have e : (abS N i kk) (15 + 6 * i + m) = (cpy N (15 + 6 * i + m) (99 + kk)) (15 + 6 * i + m) := by
      unfold abS
      rw [up2_k (by omega), up2_k (by omega), em]
    unfold lq
    rw [e]
    unfold cpy
    rw [up2_j (by decide), up2_j (by decide), up2_j (by decide), up2_s, up2_j (show (1 : Nat) ≠ 3 by decide), up2_j (show (1 : Nat) ≠ 2 by decide), up2_s, up2_j (show (2 : Nat) ≠ 3 by decide), up2_s, up2_s]
  have h2 : bl (abS N i kk) i = bl N i ++ [lq N (99 + kk)] := by
    unfold bl
    rw [em', em, List.range_succ, List.map_append]
    congr 1
    · apply List.map_congr_left
      intro j hj
      have := List.mem_range.mp hj
      exact lq_c (h4 _ (by omega) (by omega))
    · show [lq (abS N i kk) (15 + 6 * i + m)] = _
      rw [hrow]
  refine ⟨h1, h2, fun hR q hq r hr hqr => ?_, h4⟩
  have e3 : (abS N i kk) (12 + 6 * i) 3 = N (12 + 6 * i) 3 ||| (1 <<< (N (99 + kk) 0 &&& 31)) := by
    unfold abS
    rw [up2_s]
  rw [e3, ib_or]
  rw [h2] at hq
  rcases List.mem_append.mp hq with h | h
  · rw [hR q h r hr hqr]; rfl
  · have hq' := List.mem_singleton.mp h
    subst hq'
    have hqr : N (99 + kk) 0 = nI r := hqr
    rw [hqr, ib_one r (by omega) r (by omega)]
    simp
theorem atb_sp {i : Nat} {neg : Int32} (hi : i < 14) : ∀ (n kk m : Nat) (N : mM), m + n ≤ 3 → N (12 + 6 * i) 2 = nI m → ∃ m', m' ≤ m + n ∧ (atb i neg n kk N) (12 + 6 * i) 2 = nI m' ∧ bl (atb i neg n kk N) i = bl N i ++ ((List.range' kk n).filter (fun k => decide (N (99 + k) 3 = neg))).map (fun k => lq N (99 + k)) ∧ (RdI N i → RdI (atb i neg n kk N) i) ∧ ∀ k, (k < 12 + 6 * i ∨ 18 + 6 * i ≤ k ∨ k = 13 + 6 * i) → (atb i neg n kk N) k = N k
  | 0, kk, m, N, _, hl => ⟨m, by omega, hl, (List.append_nil _).symm, fun h => h, fun _ _ => rfl⟩
  | n + 1, kk, m, N, hm, hl => by
    have hlt : N (12 + 6 * i) 2 < 3 := by rw [hl]; exact nI_lt (b := 3) (by omega) (by decide)
    show ∃ m', m' ≤ m + (n + 1) ∧ (atb i neg n (kk + 1) (if N (99 + kk) 3 = neg ∧ N (12 + 6 * i) 2 < 3 then abS N i kk else N)) (12 + 6 * i) 2 = nI m' ∧ bl (atb i neg n (kk + 1) (if N (99 + kk) 3 = neg ∧ N (12 + 6 * i) 2 < 3 then abS N i kk else N)) i = _ ∧ (RdI N i → RdI (atb i neg n (kk + 1) (if N (99 + kk) 3 = neg ∧ N (12 + 6 * i) 2 < 3 then abS N i kk else N)) i) ∧ ∀ k, _ → (atb i neg n (kk + 1) (if N (99 + kk) 3 = neg ∧ N (12 + 6 * i) 2 < 3 then abS N i kk else N)) k = N k
    rw [List.range'_succ]
    by_cases hb : N (99 + kk) 3 = neg
    · rw [if_pos ⟨hb, hlt⟩, List.filter_cons_of_pos (by simpa using hb), List.map_cons]
      obtain ⟨a1, a2, a3, a4⟩ := abS_sp (kk := kk) hi (show m < 3 by omega) hl
      obtain ⟨m', b0, b1, b2, b3, b4⟩ := atb_sp (neg := neg) hi n (kk + 1) (m + 1) (abS N i kk) (by omega) a1
      have k9 : ∀ k, 99 ≤ k → (abS N i kk) k = N k := fun k hk => a4 k (by omega) (by omega)
      refine ⟨m', by omega, b1, ?_, fun h => b3 (a3 h), fun k hk => (b4 k hk).trans (a4 k (by omega) (by omega))⟩
      rw [b2, a2, List.append_assoc]
      congr 1
      show [lq N (99 + kk)] ++ _ = lq N (99 + kk) :: _
      rw [List.singleton_append, List.filter_congr (fun k _ => by rw [k9 (99 + k) (by omega)])]
      congr 1
      apply List.map_congr_left
      intro k _
      exact lq_c (k9 (99 + k) (by omega))
    · rw [if_neg (fun z => hb z.1), List.filter_cons_of_neg (by simpa using hb)]
      obtain ⟨m', b0, b1, b2, b3, b4⟩ := atb_sp (neg := neg) hi n (kk + 1) m N (by omega) hl
      exact ⟨m', by omega, b1, b2, b3, b4⟩
def lqi (q : Int32 × Int32 × Int32 × Int32) : Li := (q.1.toNatClampNeg, q.2.1.toNatClampNeg, q.2.2.1.toNatClampNeg)
theorem cPos_bl {N : mM} {i : Nat} : cPos N i = ((bl N i).filter (fun q => decide (q.2.2.2 = 0))).map lqi := by
  unfold cPos bl
  rw [List.filter_map, List.map_map]
  rfl
theorem cNeg_bl {N : mM} {i : Nat} : cNeg N i = ((bl N i).filter (fun q => decide (¬ q.2.2.2 = 0))).map lqi := by
  unfold cNeg bl
  rw [List.filter_map, List.map_map]
  rfl
theorem flt_len {p : Nat → Bool} : ∀ l : List Nat, (l.filter p).length + (l.filter (fun x => !p x)).length = l.length
  | [] => rfl
  | a :: l => by
    have ih := flt_len (p := p) l
    by_cases h : p a = true
    · rw [List.filter_cons_of_pos h, List.filter_cons_of_neg (by simp [h])]
      simp only [List.length_cons]
      omega
    · rw [List.filter_cons_of_neg h, List.filter_cons_of_pos (by simp [h])]
      simp only [List.length_cons]
      omega
/-- the rule that the class makes of the given literals -/
theorem bcm_sp {M : mM} {i g : Nat} (hi : i < 14) (hg1 : 1 ≤ g) (hg : g ≤ 4) (h01 : ∀ j, j < 4 → (M (99 + j) 3 = 0 ∨ M (99 + j) 3 = 1)) :
    cLi (bcm M i g) (13 + 6 * i) = cLi M 99 ∧ rln (bcm M i g) i = g - 1 ∧ cPos (bcm M i g) i = ((List.range' 1 (g - 1)).filter (fun k => decide (M (99 + k) 3 = 0))).map (fun k => cLi M (99 + k)) ∧ cNeg (bcm M i g) i = ((List.range' 1 (g - 1)).filter (fun k => decide (¬ M (99 + k) 3 = 0))).map (fun k => cLi M (99 + k)) ∧ cSo (bcm M i g) i ∧ ((∀ j, j < 4 → vp_in (M (99 + j) 0) 14) → cRd (bcm M i g) i) ∧ (bcm M i g) (12 + 6 * i) 4 = 1 := by
  generalize hM0 : up2 (up2 (cpy M (13 + 6 * i) 99) (12 + 6 * i) 2 0) (12 + 6 * i) 3 0 = M0
  have k0 : ∀ k, k ≠ 12 + 6 * i → k ≠ 13 + 6 * i → M0 k = M k := fun k a b => by
    rw [← hM0, up2_k a, up2_k a, cpy_k b]
  have l0 : M0 (12 + 6 * i) 2 = nI 0 := by rw [← hM0, up2_j (by decide), up2_s]; rfl
  have hd0 : lq M0 (13 + 6 * i) = lq M 99 := by
    have e : M0 (13 + 6 * i) = (cpy M (13 + 6 * i) 99) (13 + 6 * i) := by rw [← hM0, up2_k (by omega), up2_k (by omega)]
    unfold lq
    rw [e]
    unfold cpy
    rw [up2_j (by decide), up2_j (by decide), up2_j (by decide), up2_s, up2_j (show (1 : Nat) ≠ 3 by decide), up2_j (show (1 : Nat) ≠ 2 by decide), up2_s, up2_j (show (2 : Nat) ≠ 3 by decide), up2_s, up2_s]
  have bl0 : bl M0 i = [] := by
    unfold bl rln
    rw [l0]
    rfl
  have rd0 : RdI M0 i := by
    intro q hq
    rw [bl0] at hq
    exact absurd hq List.not_mem_nil
  obtain ⟨m1, c1, d1, e1, f1, g1⟩ := atb_sp (neg := 0) hi (g - 1) 1 0 M0 (by omega) l0
  -- the number of positive ones
  have len1 : m1 = ((List.range' 1 (g - 1)).filter (fun k => decide (M (99 + k) 3 = 0))).length := by
    have h := congrArg List.length e1
    rw [bl0, List.nil_append, List.length_map] at h
    unfold bl rln at h
    rw [d1, nI_clamp (n := m1) (by omega), List.length_map, List.length_range] at h
    rw [h]
    congr 1
    apply List.filter_congr
    intro k _
    rw [k0 (99 + k) (by omega) (by omega)]
  generalize hM1 : atb i 0 (g - 1) 1 M0 = M1 at d1 e1 f1 g1
  have k1 : ∀ k, 99 ≤ k → M1 k = M k := fun k hk => (g1 k (by omega)).trans (k0 k (by omega) (by omega))
  -- the second walk has room: only as many more as are negated
  have second : ∀ (n kk m : Nat) (N : mM), m + ((List.range' kk n).filter (fun k => decide (N (99 + k) 3 = 1))).length ≤ 3 → N (12 + 6 * i) 2 = nI m → (atb i 1 n kk N) (12 + 6 * i) 2 = nI (m + ((List.range' kk n).filter (fun k => decide (N (99 + k) 3 = 1))).length) ∧ bl (atb i 1 n kk N) i = bl N i ++ ((List.range' kk n).filter (fun k => decide (N (99 + k) 3 = 1))).map (fun k => lq N (99 + k)) ∧ (RdI N i → RdI (atb i 1 n kk N) i) ∧ ∀ k, (k < 12 + 6 * i ∨ 18 + 6 * i ≤ k ∨ k = 13 + 6 * i) → (atb i 1 n kk N) k = N k := by
    intro n
    induction n with
    | zero => intro kk m N _ hl; exact ⟨hl, (List.append_nil _).symm, fun h => h, fun _ _ => rfl⟩
    | succ n ih =>
      intro kk m N hm hl
      show (atb i 1 n (kk + 1) (if N (99 + kk) 3 = 1 ∧ N (12 + 6 * i) 2 < 3 then abS N i kk else N)) (12 + 6 * i) 2 = _ ∧ bl (atb i 1 n (kk + 1) (if N (99 + kk) 3 = 1 ∧ N (12 + 6 * i) 2 < 3 then abS N i kk else N)) i = _ ∧ (RdI N i → RdI (atb i 1 n (kk + 1) (if N (99 + kk) 3 = 1 ∧ N (12 + 6 * i) 2 < 3 then abS N i kk else N)) i) ∧ ∀ k, _ → (atb i 1 n (kk + 1) (if N (99 + kk) 3 = 1 ∧ N (12 + 6 * i) 2 < 3 then abS N i kk else N)) k = N k
      rw [List.range'_succ] at hm ⊢
      by_cases hb : N (99 + kk) 3 = 1
      · rw [List.filter_cons_of_pos (by simpa using hb), List.length_cons] at hm
        have hlt : N (12 + 6 * i) 2 < 3 := by rw [hl]; exact nI_lt (b := 3) (by omega) (by decide)
        rw [if_pos ⟨hb, hlt⟩, List.filter_cons_of_pos (by simpa using hb), List.map_cons, List.length_cons]
        obtain ⟨a1, a2, a3, a4⟩ := abS_sp (kk := kk) hi (show m < 3 by omega) hl
        have k9 : ∀ k, 99 ≤ k → (abS N i kk) k = N k := fun k hk => a4 k (by omega) (by omega)
        have ef : (List.range' (kk + 1) n).filter (fun k => decide ((abS N i kk) (99 + k) 3 = 1)) = (List.range' (kk + 1) n).filter (fun k => decide (N (99 + k) 3 = 1)) := List.filter_congr (fun k _ => by rw [k9 (99 + k) (by omega)])
        obtain ⟨b1, b2, b3, b4⟩ := ih (kk + 1) (m + 1) (abS N i kk) (by rw [ef]; omega) a1
        rw [ef] at b1 b2
        refine ⟨by rw [b1]; congr 1; omega, ?_, fun h => b3 (a3 h), fun k hk => (b4 k hk).trans (a4 k (by omega) (by omega))⟩
        rw [b2, a2, List.append_assoc]
        congr 1
        show [lq N (99 + kk)] ++ _ = lq N (99 + kk) :: _
        rw [List.singleton_append]
        congr 1
        apply List.map_congr_left
        intro k _
        exact lq_c (k9 (99 + k) (by omega))
      · rw [List.filter_cons_of_neg (by simpa using hb)] at hm ⊢
        rw [if_neg (fun z => hb z.1)]
        exact ih (kk + 1) m N hm hl
  have ef : (List.range' 1 (g - 1)).filter (fun k => decide (M1 (99 + k) 3 = 1)) = (List.range' 1 (g - 1)).filter (fun k => !decide (M (99 + k) 3 = 0)) := by
    apply List.filter_congr
    intro k hk
    have hk := List.mem_range'_1.mp hk
    rw [k1 (99 + k) (by omega)]
    rcases h01 k (by omega) with h | h <;> rw [h] <;> rfl
  have tot := flt_len (p := fun k => decide (M (99 + k) 3 = 0)) (List.range' 1 (g - 1))
  rw [List.length_range'] at tot
  obtain ⟨b1, b2, b3, b4⟩ := second (g - 1) 1 m1 M1 (by rw [ef, len1]; omega) d1
  generalize hM2 : atb i 1 (g - 1) 1 M1 = M2 at b1 b2 b3 b4
  rw [ef] at b1 b2
  have hB : bcm M i g = up2 M2 (12 + 6 * i) 4 1 := by
    unfold bcm
    rw [hM0, hM1, hM2]
  have eln : rln M2 i = g - 1 := by
    unfold rln
    rw [b1, len1, nI_clamp (by omega)]
    omega
  have kB : ∀ k, k ≠ 12 + 6 * i → (bcm M i g) k = M2 k := fun k hk => by rw [hB, up2_k hk]
  have kBj : ∀ j, j ≠ 4 → (bcm M i g) (12 + 6 * i) j = M2 (12 + 6 * i) j := fun j hj => by rw [hB, up2_j hj]
  have elnB : rln (bcm M i g) i = g - 1 := by
    rw [← eln]
    unfold rln
    rw [kBj 2 (by decide)]
  have blB : bl (bcm M i g) i = bl M2 i := by
    unfold bl
    rw [elnB, eln]
    apply List.map_congr_left
    intro j _
    exact lq_c (kB _ (by omega))
  have e1' : bl M1 i = ((List.range' 1 (g - 1)).filter (fun k => decide (M (99 + k) 3 = 0))).map (fun k => lq M (99 + k)) := by
    rw [e1, bl0, List.nil_append, List.filter_congr (fun k _ => by rw [k0 (99 + k) (by omega) (by omega)])]
    apply List.map_congr_left
    intro k _
    exact lq_c (k0 (99 + k) (by omega) (by omega))
  have blF : bl (bcm M i g) i = ((List.range' 1 (g - 1)).filter (fun k => decide (M (99 + k) 3 = 0))).map (fun k => lq M (99 + k)) ++ ((List.range' 1 (g - 1)).filter (fun k => !decide (M (99 + k) 3 = 0))).map (fun k => lq M (99 + k)) := by
    rw [blB, b2, e1']
    congr 1
    apply List.map_congr_left
    intro k _
    exact lq_c (k1 (99 + k) (by omega))
  have pP : ∀ q ∈ ((List.range' 1 (g - 1)).filter (fun k => decide (M (99 + k) 3 = 0))).map (fun k => lq M (99 + k)), q.2.2.2 = 0 := by
    intro q hq
    obtain ⟨k, hk, rfl⟩ := List.mem_map.mp hq
    exact of_decide_eq_true (List.mem_filter.mp hk).2
  have pN : ∀ q ∈ ((List.range' 1 (g - 1)).filter (fun k => !decide (M (99 + k) 3 = 0))).map (fun k => lq M (99 + k)), ¬ q.2.2.2 = 0 := by
    intro q hq
    obtain ⟨k, hk, rfl⟩ := List.mem_map.mp hq
    have := (List.mem_filter.mp hk).2
    intro z
    have z : M (99 + k) 3 = 0 := z
    simp [z] at this
  have fA : (((List.range' 1 (g - 1)).filter (fun k => decide (M (99 + k) 3 = 0))).map (fun k => lq M (99 + k))).filter (fun q => decide (q.2.2.2 = 0)) = (((List.range' 1 (g - 1)).filter (fun k => decide (M (99 + k) 3 = 0))).map (fun k => lq M (99 + k))) := List.filter_eq_self.mpr (fun q hq => decide_eq_true (pP q hq))
  have fB : (((List.range' 1 (g - 1)).filter (fun k => !decide (M (99 + k) 3 = 0))).map (fun k => lq M (99 + k))).filter (fun q => decide (q.2.2.2 = 0)) = [] := List.filter_eq_nil_iff.mpr (fun q hq => by simpa using pN q hq)
  have nA : (((List.range' 1 (g - 1)).filter (fun k => decide (M (99 + k) 3 = 0))).map (fun k => lq M (99 + k))).filter (fun q => decide (¬ q.2.2.2 = 0)) = [] := List.filter_eq_nil_iff.mpr (fun q hq => by simpa using pP q hq)
  have nB : (((List.range' 1 (g - 1)).filter (fun k => !decide (M (99 + k) 3 = 0))).map (fun k => lq M (99 + k))).filter (fun q => decide (¬ q.2.2.2 = 0)) = (((List.range' 1 (g - 1)).filter (fun k => !decide (M (99 + k) 3 = 0))).map (fun k => lq M (99 + k))) := List.filter_eq_self.mpr (fun q hq => decide_eq_true (pN q hq))
  refine ⟨?_, elnB, ?_, ?_, ?_, ?_, by rw [hB, up2_s]⟩
  · have e : lq (bcm M i g) (13 + 6 * i) = lq M 99 := by
      rw [lq_c (kB _ (by omega)), lq_c (b4 _ (by omega)), lq_c (g1 _ (by omega))]
      exact hd0
    show lqi (lq (bcm M i g) (13 + 6 * i)) = lqi (lq M 99)
    rw [e]
  · rw [cPos_bl, blF, List.filter_append, fA, fB, List.append_nil, List.map_map]
    rfl
  · rw [cNeg_bl, blF, List.filter_append, nA, nB, List.nil_append, List.map_map, List.filter_congr (q := fun k => decide (¬ M (99 + k) 3 = 0)) (fun k _ => by simp)]
    rfl
  · -- positive ones first
    refine ⟨m1, by rw [elnB, len1]; omega, fun j hj => ?_, fun j hj1 hj2 => ?_⟩
    · have hj' : j < (bl (bcm M i g) i).length := by
        unfold bl; rw [List.length_map, List.length_range, elnB, ]; omega
      have hq : (bl (bcm M i g) i)[j]? = some (lq (bcm M i g) (15 + 6 * i + j)) := by
        unfold bl
        rw [List.getElem?_map, List.getElem?_range (by rw [elnB]; omega)]
        rfl
      rw [blF, List.getElem?_append_left (by rw [List.length_map, ← len1]; exact hj)] at hq
      exact pP _ (List.mem_of_getElem? hq)
    · rw [elnB] at hj2
      have hq : (bl (bcm M i g) i)[j]? = some (lq (bcm M i g) (15 + 6 * i + j)) := by
        unfold bl
        rw [List.getElem?_map, List.getElem?_range (by rw [elnB]; exact hj2)]
        rfl
      rw [blF, List.getElem?_append_right (by rw [List.length_map, ← len1]; exact hj1)] at hq
      exact pN _ (List.mem_of_getElem? hq)
  · intro hv j hj
    rw [elnB] at hj
    have hR := b3 (f1 rd0)
    have hq : lq M2 (15 + 6 * i + j) ∈ bl M2 i := by
      unfold bl
      rw [eln]
      exact List.mem_map.mpr ⟨j, List.mem_range.mpr hj, rfl⟩
    have hvp : vp_in (M2 (15 + 6 * i + j) 0) 14 := by
      rw [← blB, blF] at hq
      have key : ∀ q, q ∈ ((List.range' 1 (g - 1)).filter (fun k => decide (M (99 + k) 3 = 0))).map (fun k => lq M (99 + k)) ++ ((List.range' 1 (g - 1)).filter (fun k => !decide (M (99 + k) 3 = 0))).map (fun k => lq M (99 + k)) → vp_in q.1 14 := by
        intro q hq'
        rcases List.mem_append.mp hq' with h | h
        · obtain ⟨k, hk, rfl⟩ := List.mem_map.mp h
          have := List.mem_range'_1.mp (List.mem_filter.mp hk).1
          exact hv k (by omega)
        · obtain ⟨k, hk, rfl⟩ := List.mem_map.mp h
          have := List.mem_range'_1.mp (List.mem_filter.mp hk).1
          exact hv k (by omega)
      exact key _ hq
    rw [kBj 3 (by decide), kB _ (by omega)]
    exact hR _ hq _ (cl_lt hvp) (vp_nI hvp)
