/-! step -/
theorem up2_r {f : mM} {k j : Nat} {x : Int32} : up2 f k j x k = upd (f k) j x := by rw [up2_upr, upr_s]
/-- only the run has changed -/
theorem RI.run {M M' : mM} {L : mL} (hR : RI M L) (hk : ∀ k, k < 105 ∨ (109 < k ∧ k < 125) ∨ 127 < k → M' k = M k) (h109 : ∀ j, j ≠ 19 → M' 109 j = M 109 j) (hm : ∃ m, m ≤ 20 ∧ M' 105 3 = nI m) (mad : M' 105 3 = M' 109 19) (hel : ∀ j, j < 6 → M' 106 j = M' 125 j) (hh : ∀ j, j < 6 → hok (M' 106 j)) (sit : ∀ j, j < 20 → M' 107 j = M' 126 j) (fie : ∀ j, j < 40 → M' 108 j = M' 127 j ∧ hok (M' 108 j)) : RI M' L := by
  have q : ∀ k, k < 105 → M' k = M k := fun k h => hk k (Or.inl h)
  have q2 : ∀ k, 109 < k → k < 125 → M' k = M k := fun k h h' => hk k (Or.inr (Or.inl ⟨h, h'⟩))
  have hS : SC M M' := SC.of (fun k _ _ h3 _ _ h6 h7 _ => by
    rcases (show k < 105 ∨ (109 < k ∧ k < 125) ∨ 127 < k by omega) with h | h | h
    · exact q k h
    · exact q2 k h.1 h.2
    · exact hk k (Or.inr (Or.inr h))) (h109 0 (by decide))
  have ci : CI M' := by
    obtain ⟨⟨w1, w2, g, w3, w4⟩, v, c, m, he, li⟩ := hR.ci
    refine ⟨⟨fun i hi => wR_c (fun k h1 h2 => q k (by omega)) (w1 i hi), fun j hj => fr_wL (q _ (by omega)) (w2 j hj), g, w3, by rw [q 10 (by omega)]; exact w4⟩, by rw [q 104 (by omega)]; exact v, by rw [q 5 (by omega)]; exact c, hm, hh, fun l hl => ?_⟩
    rw [q 2 (by omega), q 3 (by omega), q 4 (by omega)]; exact li l hl
  have pi : PI M' := by
    obtain ⟨p1, p2, p3, p4, p5, p6, p7, p8⟩ := hR.pi
    refine ⟨by rw [h109 0 (by decide)]; exact p1, by rw [h109 8 (by decide)]; exact p2, by rw [← mad]; exact hm, by rw [q2 116 (by omega) (by omega)]; exact p4, ?_, fun i hi => ?_, fun j hj => ?_, ?_⟩
    · rw [q2 116 (by omega) (by omega), q2 117 (by omega) (by omega)]; exact p5
    · have := p6 i hi
      unfold rok at this ⊢
      rw [q2 118 (by omega) (by omega), q2 119 (by omega) (by omega), q2 120 (by omega) (by omega), q2 121 (by omega) (by omega), q2 110 (by omega) (by omega), h109 0 (by decide)]
      exact this
    · rw [← hel j hj]; exact hh j hj
    · rw [q2 122 (by omega) (by omega), q2 123 (by omega) (by omega), q2 124 (by omega) (by omega)]; exact p8
  refine RI.sc hS hR ci pi ?_ ?_ ?_ hR.fct hR.tup hR.emf hR.emt hR.sbl ?_ mad hel sit fie ?_
  · rw [h109 8 (by decide), q 10 (by omega)]; exact hR.gvn
  · intro j hj hn
    rw [q 10 (by omega)] at hn
    have := hR.giv j hj hn
    unfold LQ at this ⊢
    rw [cLi_c (q (99 + j) (by omega)), q (99 + j) (by omega), rLi_c (M := M) (M' := M') (by rw [q2 118 (by omega) (by omega)]) (by rw [q2 119 (by omega) (by omega)]) (by rw [q2 120 (by omega) (by omega)]) (by rw [q2 110 (by omega) (by omega)]), q2 118 (by omega) (by omega), q2 121 (by omega) (by omega)]
    exact this
  · rw [q 10 (by omega), q2 121 (by omega) (by omega), q2 118 (by omega) (by omega)]; exact hR.gv0
  · rw [q 2 (by omega), q 3 (by omega), q 4 (by omega), q2 122 (by omega) (by omega), q2 123 (by omega) (by omega), q2 124 (by omega) (by omega)]; exact hR.lin
  · rw [q 0 (by omega), h109 7 (by decide)]; exact hR.cha
theorem upd_rel {f g : Vl} {n a : Nat} {x : Int32} (h : ∀ j, j < n → f j = g j) : ∀ j, j < n → upd f a x j = upd g a x j := by
  intro j hj
  unfold upd
  split
  · rfl
  · exact h j hj
theorem upd_hok {f : Vl} {n a : Nat} {x : Int32} (hx : hok x) (h : ∀ j, j < n → hok (f j)) : ∀ j, j < n → hok (upd f a x j) := by
  intro j hj
  unfold upd
  split
  · exact hx
  · exact h j hj
theorem rn_ix : ∀ m, m < 20 → (nI m * 2 + 0).toNatClampNeg = 2 * m ∧ (nI m * 2 + 1).toNatClampNeg = 2 * m + 1 ∧ (2 * nI m).toNatClampNeg = 2 * m ∧ (2 * nI m + 1).toNatClampNeg = 2 * m + 1 ∧ (2 * nI m + (2 / 2 - 1)).toNatClampNeg = 2 * m ∧ (2 * nI m + (3 / 2 - 1)).toNatClampNeg = 2 * m ∧ (2 * nI m + (4 / 2 - 1)).toNatClampNeg = 2 * m + 1 ∧ (2 * nI m + (5 / 2 - 1)).toNatClampNeg = 2 * m + 1 := by decide +kernel
theorem hok_m1 : hok (-1) := Or.inl rfl
theorem hok_n {m : Nat} (h : m < 20) : hok (nI m) := Or.inr (vp_in_nI h (by decide))
theorem hok_e {h : Int32} (hh : hok h) (hn : ¬ h = -1) : ∃ m, m < 20 ∧ h = nI m := by
  rcases hh with z | z
  · exact absurd z hn
  · exact ⟨_, cl_lt z, vp_nI z⟩
/-- what a step does on both sides, with the operation's number at hand -/
def StOK (M : mM) (L : mL) (o a b : Nat) : Prop := ∃ v M1, cry (131, M, L, TT) (nI o) (nI a) (nI b) = (some (.int v), (131, M1, L, TT)) ∧ (∀ k, 109 ≤ k → M1 k = M k) ∧ (∀ k, k < 105 → M1 k = M k) ∧ (stO M1 (nI o) a b (nI b)).1 = v ∧ RI (stO M1 (nI o) a b (nI b)).2 L
section STEP
variable {M : mM} {L : mL} {a b : Nat}
theorem stp_0 (hR : RI M L) (ha : a < 6) (hb : b < 6) : StOK M L 0 a b := by
  obtain ⟨m, hm, em⟩ := hR.ci.2.2.2.1
  have e19 : M 109 19 = nI m := hR.mad.symm.trans em
  by_cases h20 : m < 20
  · obtain ⟨i1, i2, i3, i4, _⟩ := rn_ix m h20
    have hlt : M 105 3 < 20 := by rw [em]; exact nI_lt (b := 20) h20 (by decide)
    have ea : (nI a).toNatClampNeg = a := nI_clamp (n := a) (by omega)
    have emc : (nI m).toNatClampNeg = m := nI_clamp (n := m) (by omega)
    refine ⟨1, up2 (up2 (up2 (up2 (up2 M 107 m (nI b)) 108 (2 * m) (-1)) 108 (2 * m + 1) (-1)) 106 a (nI m)) 105 3 (nI m + 1), ?_, fun k hk => ?_, fun k hk => ?_, ?_, ?_⟩
    · show (some (Value.int (b2 (M 105 3 < 20))), mkM (131, M, L, TT) (nI a) (nI b)) = _
      unfold mkM b2
      rw [if_pos hlt, if_pos (show ((131, M, L, TT) : Mm).2.1 105 3 < 20 from hlt)]
      show (_, (131, up2 (up2 (up2 (up2 (up2 M 107 (M 105 3).toNatClampNeg (nI b)) 108 (M 105 3 * 2 + 0).toNatClampNeg (-1)) 108 (M 105 3 * 2 + 1).toNatClampNeg (-1)) 106 (nI a).toNatClampNeg (M 105 3)) 105 3 (M 105 3 + 1), L, TT)) = _
      rw [em, i1, i2, ea, emc]
    · rw [up2_k (by omega), up2_k (by omega), up2_k (by omega), up2_k (by omega), up2_k (by omega)]
    · rw [up2_k (by omega), up2_k (by omega), up2_k (by omega), up2_k (by omega), up2_k (by omega)]
    all_goals
      generalize hM1 : up2 (up2 (up2 (up2 (up2 M 107 m (nI b)) 108 (2 * m) (-1)) 108 (2 * m + 1) (-1)) 106 a (nI m)) 105 3 (nI m + 1) = M1
      have e9 : ∀ k, 109 ≤ k → M1 k = M k := fun k hk => by
        rw [← hM1, up2_k (by omega), up2_k (by omega), up2_k (by omega), up2_k (by omega), up2_k (by omega)]
      have e5 : ∀ k, k < 105 → M1 k = M k := fun k hk => by
        rw [← hM1, up2_k (by omega), up2_k (by omega), up2_k (by omega), up2_k (by omega), up2_k (by omega)]
      have r105 : M1 105 3 = nI m + 1 := by rw [← hM1, up2_s]
      have r106 : M1 106 = upd (M 106) a (nI m) := by
        rw [← hM1, up2_k (by decide), up2_r, up2_k (by decide), up2_k (by decide), up2_k (by decide)]
      have r107 : M1 107 = upd (M 107) m (nI b) := by
        rw [← hM1, up2_k (by decide), up2_k (by decide), up2_k (by decide), up2_k (by decide), up2_r]
      have r108 : M1 108 = upd (upd (M 108) (2 * m) (-1)) (2 * m + 1) (-1) := by
        rw [← hM1, up2_k (by decide), up2_k (by decide), up2_r, up2_r, up2_k (by decide)]
      have n19 : M1 109 19 = nI m := by rw [e9 109 (by omega)]; exact e19
      have hne : ¬ M1 109 19 = 20 := by
        rw [n19]
        intro z
        have := (nI_eq (a := m) (b := 20) (by omega) (by decide)).mp z
        omega
      have est : stO M1 (nI 0) a b (nI b) = (1, mkR M1 a b (nI b)) := by
        unfold stO
        rw [if_pos (show nI 0 = 0 from rfl), if_neg hne]
    · rw [est]
    · rw [est]
      show RI (mkR M1 a b (nI b)) L
      unfold mkR
      rw [n19, emc, i3, i4]
      refine hR.run (fun k hk => ?_) (fun j hj => ?_) ⟨m + 1, by omega, ?_⟩ ?_ ?_ ?_ ?_ ?_
      · rcases hk with h | ⟨h, h'⟩ | h
        · rw [up2_k (by omega), up2_k (by omega), up2_k (by omega), up2_k (by omega), up2_k (by omega)]; exact e5 k h
        · rw [up2_k (by omega), up2_k (by omega), up2_k (by omega), up2_k (by omega), up2_k (by omega)]; exact e9 k (by omega)
        · rw [up2_k (by omega), up2_k (by omega), up2_k (by omega), up2_k (by omega), up2_k (by omega)]; exact e9 k (by omega)
      · rw [up2_j hj, up2_k (by decide), up2_k (by decide), up2_k (by decide), up2_k (by decide)]; rw [e9 109 (by omega)]
      · rw [up2_k (by decide), up2_k (by decide), up2_k (by decide), up2_k (by decide), up2_k (by decide), r105, nI_succ]
      · rw [up2_s, up2_k (by decide), up2_k (by decide), up2_k (by decide), up2_k (by decide), up2_k (by decide), r105]
      · rw [up2_k (by decide), up2_k (by decide), up2_k (by decide), up2_k (by decide), up2_k (by decide), r106, up2_k (by decide), up2_r, up2_k (by decide), up2_k (by decide), up2_k (by decide), e9 125 (by omega)]
        exact upd_rel hR.hel
      · rw [up2_k (by decide), up2_k (by decide), up2_k (by decide), up2_k (by decide), up2_k (by decide), r106]
        exact upd_hok (hok_n h20) hR.ci.2.2.2.2.1
      · rw [up2_k (by decide), up2_k (by decide), up2_k (by decide), up2_k (by decide), up2_k (by decide), r107, up2_k (by decide), up2_k (by decide), up2_k (by decide), up2_k (by decide), up2_r, e9 126 (by omega)]
        exact upd_rel hR.sit
      · rw [up2_k (by decide), up2_k (by decide), up2_k (by decide), up2_k (by decide), up2_k (by decide), r108, up2_k (by decide), up2_k (by decide), up2_r, up2_r, up2_k (by decide), e9 127 (by omega)]
        intro j hj
        exact ⟨upd_rel (upd_rel (fun j hj => (hR.fie j hj).1)) j hj, upd_hok hok_m1 (upd_hok hok_m1 (fun j hj => (hR.fie j hj).2)) j hj⟩
  · have hm20 : m = 20 := by omega
    subst hm20
    have hnl : ¬ M 105 3 < 20 := by rw [em]; decide
    refine ⟨0, M, ?_, fun _ _ => rfl, fun _ _ => rfl, ?_, ?_⟩
    · show (some (Value.int (b2 (M 105 3 < 20))), mkM (131, M, L, TT) (nI a) (nI b)) = _
      unfold mkM b2
      rw [if_neg hnl, if_neg (show ¬ ((131, M, L, TT) : Mm).2.1 105 3 < 20 from hnl)]
    all_goals
      have est : stO M (nI 0) a b (nI b) = (0, M) := by
        unfold stO
        rw [if_pos (show nI 0 = 0 from rfl), if_pos (show M 109 19 = 20 from e19)]
    · rw [est]
    · rw [est]; exact hR
theorem stp_1 (hR : RI M L) (ha : a < 6) (hb : b < 6) : StOK M L 1 a b := by
  have ea : (nI a).toNatClampNeg = a := nI_clamp (n := a) (by omega)
  have eb : (nI b).toNatClampNeg = b := nI_clamp (n := b) (by omega)
  have est : ∀ N : mM, stO N (nI 1) a b (nI b) = (1, up2 N 125 a (N 125 b)) := by
    intro N
    unfold stO
    rw [if_neg (show ¬ nI 1 = 0 by decide), if_pos (show nI 1 = 1 from rfl)]
  refine ⟨1, up2 M 106 a (M 106 b), ?_, fun k hk => up2_k (by omega), fun k hk => up2_k (by omega), by rw [est], ?_⟩
  · show (some (Value.int 1), (131, up2 M 106 (nI a).toNatClampNeg (M 106 (nI b).toNatClampNeg), L, TT)) = _
    rw [ea, eb]
  · rw [est]
    show RI (up2 (up2 M 106 a (M 106 b)) 125 a ((up2 M 106 a (M 106 b)) 125 b)) L
    rw [up2_k (show (125 : Nat) ≠ 106 by decide)]
    refine hR.run (fun k hk => by rw [up2_k (by omega), up2_k (by omega)]) (fun j hj => by rw [up2_k (by decide), up2_k (by decide)]) ?_ ?_ ?_ ?_ ?_ ?_
    · rw [up2_k (by decide), up2_k (by decide)]; exact hR.ci.2.2.2.1
    · rw [up2_k (by decide), up2_k (by decide), up2_k (by decide), up2_k (by decide)]; exact hR.mad
    · rw [up2_k (by decide), up2_r, up2_r, up2_k (by decide), hR.hel b hb]
      exact upd_rel hR.hel
    · rw [up2_k (by decide), up2_r]
      exact upd_hok (hR.ci.2.2.2.2.1 b hb) hR.ci.2.2.2.2.1
    · rw [up2_k (by decide), up2_k (by decide), up2_k (by decide), up2_k (by decide)]; exact hR.sit
    · rw [up2_k (by decide), up2_k (by decide), up2_k (by decide), up2_k (by decide)]; exact hR.fie
/-- a load: the class's and the reference's -/
theorem st_ld (hR : RI M L) (ha : a < 6) (hb : b < 6) {o : Nat} {f : Int32} (hc : cry (131, M, L, TT) (nI o) (nI a) (nI b) = (some (.int (b2 (¬ M 106 (nI b).toNatClampNeg = -1))), ldM (131, M, L, TT) (nI a) (nI b) f)) (ho : ∀ N : mM, stO N (nI o) a b (nI b) = if N 125 b < 0 then (0, N) else (1, up2 N 125 a (N 127 (2 * N 125 b + (nI o / 2 - 1)).toNatClampNeg))) (hf : ∀ m, m < 20 → (nI m * 2 + f).toNatClampNeg = (2 * nI m + (nI o / 2 - 1)).toNatClampNeg ∧ (nI m * 2 + f).toNatClampNeg < 40) : StOK M L o a b := by
  have ea : (nI a).toNatClampNeg = a := nI_clamp (n := a) (by omega)
  have eb : (nI b).toNatClampNeg = b := nI_clamp (n := b) (by omega)
  have hh := hR.ci.2.2.2.2.1 b hb
  have e25 := hR.hel b hb
  by_cases h0 : M 106 b = -1
  · refine ⟨0, M, ?_, fun _ _ => rfl, fun _ _ => rfl, ?_, ?_⟩
    · rw [hc]
      unfold ldM b2
      rw [eb, if_neg (fun z => z h0), if_pos (show ((131, M, L, TT) : Mm).2.1 106 b = -1 from h0)]
    all_goals
      have hn : M 125 b < 0 := by rw [← e25, h0]; decide
    · rw [ho, if_pos hn]
    · rw [ho, if_pos hn]; exact hR
  · obtain ⟨m, hm, em⟩ := hok_e hh h0
    obtain ⟨f1, f2⟩ := hf m hm
    refine ⟨1, up2 M 106 a (M 108 (nI m * 2 + f).toNatClampNeg), ?_, fun k hk => up2_k (by omega), fun k hk => up2_k (by omega), ?_, ?_⟩
    · rw [hc]
      unfold ldM b2
      rw [ea, eb, if_pos h0, if_neg (show ¬ ((131, M, L, TT) : Mm).2.1 106 b = -1 from h0)]
      show (_, (131, up2 M 106 a (M 108 (M 106 b * 2 + f).toNatClampNeg), L, TT)) = _
      rw [em]
    all_goals
      have hn : ¬ (up2 M 106 a (M 108 (nI m * 2 + f).toNatClampNeg)) 125 b < 0 := by
        rw [up2_k (by decide), ← e25]
        exact fun z => h0 ((hok_neg hh).mp z)
    · rw [ho, if_neg hn]
    · rw [ho, if_neg hn]
      show RI (up2 (up2 M 106 a (M 108 (nI m * 2 + f).toNatClampNeg)) 125 a ((up2 M 106 a (M 108 (nI m * 2 + f).toNatClampNeg)) 127 (2 * (up2 M 106 a (M 108 (nI m * 2 + f).toNatClampNeg)) 125 b + (nI o / 2 - 1)).toNatClampNeg)) L
      rw [up2_k (show (127 : Nat) ≠ 106 by decide), up2_k (show (125 : Nat) ≠ 106 by decide), ← e25, em, ← f1]
      obtain ⟨g1, g2⟩ := hR.fie _ f2
      rw [← g1]
      refine hR.run (fun k hk => by rw [up2_k (by omega), up2_k (by omega)]) (fun j hj => by rw [up2_k (by decide), up2_k (by decide)]) ?_ ?_ ?_ ?_ ?_ ?_
      · rw [up2_k (by decide), up2_k (by decide)]; exact hR.ci.2.2.2.1
      · rw [up2_k (by decide), up2_k (by decide), up2_k (by decide), up2_k (by decide)]; exact hR.mad
      · rw [up2_k (by decide), up2_r, up2_r, up2_k (by decide)]
        exact upd_rel hR.hel
      · rw [up2_k (by decide), up2_r]
        exact upd_hok g2 hR.ci.2.2.2.2.1
      · rw [up2_k (by decide), up2_k (by decide), up2_k (by decide), up2_k (by decide)]; exact hR.sit
      · rw [up2_k (by decide), up2_k (by decide), up2_k (by decide), up2_k (by decide)]; exact hR.fie
theorem st_st (hR : RI M L) (ha : a < 6) (hb : b < 6) {o : Nat} {f : Int32} (hc : cry (131, M, L, TT) (nI o) (nI a) (nI b) = (some (.int (b2 (¬ M 106 (nI a).toNatClampNeg = -1))), stM (131, M, L, TT) (nI a) (nI b) f)) (ho : ∀ N : mM, stO N (nI o) a b (nI b) = if N 125 a < 0 then (0, N) else (1, up2 N 127 (2 * N 125 a + (nI o / 2 - 1)).toNatClampNeg (N 125 b))) (hf : ∀ m, m < 20 → (nI m * 2 + f).toNatClampNeg = (2 * nI m + (nI o / 2 - 1)).toNatClampNeg ∧ (nI m * 2 + f).toNatClampNeg < 40) : StOK M L o a b := by
  have ea : (nI a).toNatClampNeg = a := nI_clamp (n := a) (by omega)
  have eb : (nI b).toNatClampNeg = b := nI_clamp (n := b) (by omega)
  have hh := hR.ci.2.2.2.2.1 a ha
  have e25 := hR.hel a ha
  by_cases h0 : M 106 a = -1
  · refine ⟨0, M, ?_, fun _ _ => rfl, fun _ _ => rfl, ?_, ?_⟩
    · rw [hc]
      unfold stM b2
      rw [ea, if_neg (fun z => z h0), if_pos (show ((131, M, L, TT) : Mm).2.1 106 a = -1 from h0)]
    all_goals
      have hn : M 125 a < 0 := by rw [← e25, h0]; decide
    · rw [ho, if_pos hn]
    · rw [ho, if_pos hn]; exact hR
  · obtain ⟨m, hm, em⟩ := hok_e hh h0
    obtain ⟨f1, f2⟩ := hf m hm
    refine ⟨1, up2 M 108 (nI m * 2 + f).toNatClampNeg (M 106 b), ?_, fun k hk => up2_k (by omega), fun k hk => up2_k (by omega), ?_, ?_⟩
    · rw [hc]
      unfold stM b2
      rw [ea, eb, if_pos h0, if_neg (show ¬ ((131, M, L, TT) : Mm).2.1 106 a = -1 from h0)]
      show (_, (131, up2 M 108 (M 106 a * 2 + f).toNatClampNeg (M 106 b), L, TT)) = _
      rw [em]
    all_goals
      have hn : ¬ (up2 M 108 (nI m * 2 + f).toNatClampNeg (M 106 b)) 125 a < 0 := by
        rw [up2_k (by decide), ← e25]
        exact fun z => h0 ((hok_neg hh).mp z)
    · rw [ho, if_neg hn]
    · rw [ho, if_neg hn]
      show RI (up2 (up2 M 108 (nI m * 2 + f).toNatClampNeg (M 106 b)) 127 (2 * (up2 M 108 (nI m * 2 + f).toNatClampNeg (M 106 b)) 125 a + (nI o / 2 - 1)).toNatClampNeg ((up2 M 108 (nI m * 2 + f).toNatClampNeg (M 106 b)) 125 b)) L
      rw [up2_k (show (125 : Nat) ≠ 108 by decide), ← e25, em, ← f1, ← hR.hel b hb]
      refine hR.run (fun k hk => by rw [up2_k (by omega), up2_k (by omega)]) (fun j hj => by rw [up2_k (by decide), up2_k (by decide)]) ?_ ?_ ?_ ?_ ?_ ?_
      · rw [up2_k (by decide), up2_k (by decide)]; exact hR.ci.2.2.2.1
      · rw [up2_k (by decide), up2_k (by decide), up2_k (by decide), up2_k (by decide)]; exact hR.mad
      · rw [up2_k (by decide), up2_k (by decide), up2_k (by decide), up2_k (by decide)]; exact hR.hel
      · rw [up2_k (by decide), up2_k (by decide)]; exact hR.ci.2.2.2.2.1
      · rw [up2_k (by decide), up2_k (by decide), up2_k (by decide), up2_k (by decide)]; exact hR.sit
      · rw [up2_k (by decide), up2_r, up2_r, up2_k (by decide)]
        intro j hj
        exact ⟨upd_rel (fun j hj => (hR.fie j hj).1) j hj, upd_hok (hR.ci.2.2.2.2.1 b hb) (fun j hj => (hR.fie j hj).2) j hj⟩
theorem st_all (hR : RI M L) (ha : a < 6) (hb : b < 6) : ∀ o, o < 6 → StOK M L o a b := by
  have ld : ∀ (N : mM) (o : Int32), ¬ o = 0 → ¬ o = 1 → o - o / 2 * 2 = 0 → stO N o a b (nI b) = if N 125 b < 0 then (0, N) else (1, up2 N 125 a (N 127 (2 * N 125 b + (o / 2 - 1)).toNatClampNeg)) := by
    intro N o h0 h1 h2
    unfold stO
    rw [if_neg h0, if_neg h1, if_pos h2]
  have sv : ∀ (N : mM) (o : Int32), ¬ o = 0 → ¬ o = 1 → ¬ o - o / 2 * 2 = 0 → stO N o a b (nI b) = if N 125 a < 0 then (0, N) else (1, up2 N 127 (2 * N 125 a + (o / 2 - 1)).toNatClampNeg (N 125 b)) := by
    intro N o h0 h1 h2
    unfold stO
    rw [if_neg h0, if_neg h1, if_neg h2]
  intro o ho
  rcases (show o = 0 ∨ o = 1 ∨ o = 2 ∨ o = 3 ∨ o = 4 ∨ o = 5 by omega) with rfl | rfl | rfl | rfl | rfl | rfl
  · exact stp_0 hR ha hb
  · exact stp_1 hR ha hb
  · exact st_ld (f := 0) hR ha hb rfl (fun N => ld N _ (by decide) (by decide) (by decide)) (by decide +kernel)
  · exact st_st (f := 0) hR ha hb rfl (fun N => sv N _ (by decide) (by decide) (by decide)) (by decide +kernel)
  · exact st_ld (f := 1) hR ha hb rfl (fun N => ld N _ (by decide) (by decide) (by decide)) (by decide +kernel)
  · exact st_st (f := 1) hR ha hb rfl (fun N => sv N _ (by decide) (by decide) (by decide)) (by decide +kernel)
end STEP
theorem k_step (x0 : Int32) : Clp RI (po_PF_step [.ref 0, .int x0]) (po_PM_step [.ref 109, .int x0]) := by
  intro M L hR r μ1 hq
  have hq : (r, μ1) = (if (0 ≤ x0 ∧ x0 < 12) ∧ (0 ≤ M 2 x0.toNatClampNeg ∧ M 2 x0.toNatClampNeg < 6) then cry (131, M, L, TT) (M 2 x0.toNatClampNeg) (M 3 x0.toNatClampNeg) (M 4 x0.toNatClampNeg) else (some (.int 0), (131, M, L, TT))) := hq
  by_cases hc : (0 ≤ x0 ∧ x0 < 12) ∧ (0 ≤ M 2 x0.toNatClampNeg ∧ M 2 x0.toNatClampNeg < 6)
  · rw [if_pos hc] at hq
    obtain ⟨l, hl, rfl⟩ := rng_n (n := 12) (by decide) hc.1
    rw [nI_clamp (n := l) (by omega)] at hc hq
    obtain ⟨o, ho, eo⟩ := rng_n (n := 6) (by decide) hc.2
    obtain ⟨l1, l2, l3⟩ := hR.lin l hl
    rcases hR.ci.2.2.2.2.2 l hl with hv | ⟨_, hv1, hv2⟩
    · rw [hv] at hc; exact absurd hc.2.1 (by decide)
    · have ha := cl_lt hv1
      have hb := cl_lt hv2
      have ea := vp_nI hv1
      have eb := vp_nI hv2
      generalize (M 3 l).toNatClampNeg = a at ha ea
      generalize (M 4 l).toNatClampNeg = b at hb eb
      obtain ⟨v, M1, s1, s2, s3, s4, s5⟩ := st_all hR ha hb o ho
      rw [eo, ea, eb, s1] at hq
      obtain ⟨rfl, rfl⟩ := Prod.mk.inj hq
      refine ⟨v, M1, L, rfl, rfl, hR.pi.cg (by rw [s2 109 (by omega)]) (by rw [s2 109 (by omega)]; exact hR.pi.2.1) (by rw [s2 109 (by omega)]; exact hR.pi.2.2.1) (fun k h1 _ _ _ _ _ _ => s2 k (by omega)), fun r2 μ2 hq2 => ?_⟩
      obtain ⟨rfl, rfl⟩ := hq2
      have e : stR M1 (nI l) = stO M1 (nI o) a b (nI b) := by
        unfold stR
        rw [nI_clamp (n := l) (by omega), s2 122 (by omega), s2 123 (by omega), s2 124 (by omega), ← l1, ← l2, ← l3, eo, ea, eb, nI_clamp (n := a) (by omega), nI_clamp (n := b) (by omega), if_pos]
        refine ⟨hc.1.1, ?_, nI_le (a := 0) (Nat.zero_le _) (by omega)⟩
        exact nI_le (b := 11) (by omega) (by decide)
      refine ⟨?_, (stR M1 (nI l)).2, L, rfl, ?_⟩
      · show some (Value.int (stR M1 (nI l)).1) = _
        rw [e, s4]
      · rw [e]; exact s5
  · rw [if_neg hc] at hq
    obtain ⟨rfl, rfl⟩ := Prod.mk.inj hq
    refine ⟨0, M, L, rfl, rfl, hR.pi, fun r2 μ2 hq2 => ?_⟩
    obtain ⟨rfl, rfl⟩ := hq2
    have e : stR M x0 = (0, M) := by
      unfold stR
      rw [if_neg]
      rintro ⟨z1, z2, z3⟩
      have h12 : x0 < 12 := Int32.lt_of_le_of_lt z2 (by decide)
      obtain ⟨l, hl, rfl⟩ := rng_n (n := 12) (by decide) ⟨z1, h12⟩
      apply hc
      refine ⟨⟨z1, h12⟩, ?_⟩
      rw [nI_clamp (n := l) (by omega)] at z3 ⊢
      rw [← (hR.lin l hl).1] at z3
      refine ⟨z3, ?_⟩
      rcases hR.ci.2.2.2.2.2 l hl with hv | ⟨hv, _⟩
      · rw [hv] at z3; exact absurd z3 (by decide)
      · rw [vp_nI hv]; exact nI_lt (b := 6) (cl_lt hv) (by decide)
    refine ⟨?_, M, L, ?_, hR⟩
    · show some (Value.int (stR M x0).1) = _
      rw [e]
    · show (131, (stR M x0).2, L, TT) = _
      rw [e]
