/-! what a change leaves -/
section CONG
variable {M M' : mM}
theorem cLi_c {k : Nat} (h : M' k = M k) : cLi M' k = cLi M k := by
  unfold cLi tmn
  rw [h]
theorem rLi_c {x : Nat} (h8 : M' 118 x = M 118 x) (h9 : M' 119 x = M 119 x) (h0 : M' 120 x = M 120 x) (ha : M' 110 (M 118 x).toNatClampNeg = M 110 (M 118 x).toNatClampNeg) : rLi M' x = rLi M x := by
  unfold rLi una
  rw [h8, h9, h0, ha]
/-- the rows of a class's rule are the same -/
def cRo (M M' : mM) (i : Nat) : Prop := ∀ k, 12 + 6 * i ≤ k → k < 18 + 6 * i → M' k = M k
theorem cRo.ln {i : Nat} (h : cRo M M' i) : rln M' i = rln M i := by
  unfold rln
  rw [h (12 + 6 * i) (by omega) (by omega)]
theorem cRo.hd {i : Nat} (h : cRo M M' i) : rhd M' i = rhd M i := by
  unfold rhd
  rw [h (13 + 6 * i) (by omega) (by omega)]
theorem cRo.ru {i : Nat} (h : cRo M M' i) (h3 : rln M i ≤ 3) : cRu M' i = cRu M i := by
  have hj : ∀ j, j ∈ List.range (rln M i) → M' (15 + 6 * i + j) = M (15 + 6 * i + j) := fun j hj => by
    have := List.mem_range.mp hj
    exact h _ (by omega) (by omega)
  have e1 : cPos M' i = cPos M i := by
    unfold cPos
    rw [h.ln, List.filter_congr (fun j hj' => by rw [hj j hj'])]
    apply List.map_congr_left
    intro j hj'
    exact cLi_c (hj j (List.mem_filter.mp hj').1)
  have e2 : cNeg M' i = cNeg M i := by
    unfold cNeg
    rw [h.ln, List.filter_congr (fun j hj' => by rw [hj j hj'])]
    apply List.map_congr_left
    intro j hj'
    exact cLi_c (hj j (List.mem_filter.mp hj').1)
  unfold cRu
  rw [e1, e2, cLi_c (h (13 + 6 * i) (by omega) (by omega))]
/-- the reference's literals of a rule are the same -/
def rRo (M M' : mM) (a m : Nat) : Prop := ∀ x, a ≤ x → x < a + m → M' 121 x = M 121 x ∧ rLi M' x = rLi M x
theorem rRo.ps {a m D : Nat} (h : rRo M M' a m) (hD : D ≤ m) : rPs M' a m D = rPs M a m D := by
  unfold rPs
  have hj : ∀ x, x ∈ List.range' (a + (m - D)) D → M' 121 x = M 121 x ∧ rLi M' x = rLi M x := fun x hx => by
    have := List.mem_range'_1.mp hx
    exact h x (by omega) (by omega)
  rw [List.filter_congr (fun x hx => by rw [(hj x hx).1])]
  apply List.map_congr_left
  intro x hx
  exact (hj x (List.mem_filter.mp hx).1).2
theorem rRo.ns {a m : Nat} (h : rRo M M' a m) : rNs M' a m = rNs M a m := by
  unfold rNs rNf
  have hj : ∀ x, x ∈ List.range' (a + 1) (m - 1) → M' 121 x = M 121 x ∧ rLi M' x = rLi M x := fun x hx => by
    have := List.mem_range'_1.mp hx
    exact h x (by omega) (by omega)
  rw [List.filter_congr (fun x hx => by rw [(hj x hx).1])]
  apply List.map_congr_left
  intro x hx
  exact (hj x (List.mem_filter.mp hx).1).2
theorem rRo.ru {a m : Nat} (h : rRo M M' a m) (hm : 1 ≤ m) : rRu M' a m = rRu M a m := by
  unfold rRu
  rw [h.ps (Nat.sub_le _ _), h.ns, (h a (Nat.le_refl _) (by omega)).2]
theorem RQ.c {i : Nat} (h : RQ M i) (h3 : rln M i ≤ 3) (hc : cRo M M' i) (hm : M' 117 i = M 117 i) (hr : rRo M M' (4 * i) (rml M i)) : RQ M' i := by
  have em : rml M' i = rml M i := by unfold rml; rw [hm]
  have l := h.ln
  have hj : ∀ j, j < rln M i → M' (15 + 6 * i + j) = M (15 + 6 * i + j) := fun j hj => hc _ (by omega) (by omega)
  refine RQ.mk ?_ ?_ ?_ ?_ ?_ ?_
  · rw [hc.ru h3, em, hr.ru (by omega)]; exact h.ru
  · rw [hc.ln, em]; exact h.ln
  · obtain ⟨np, a1, a2, a3⟩ := h.so
    refine ⟨np, by rw [hc.ln]; exact a1, fun j hj' => by rw [hj j (by omega)]; exact a2 j hj', fun j h1 h2 => ?_⟩
    rw [hc.ln] at h2
    rw [hj j h2]; exact a3 j h1 h2
  · intro j hj'
    rw [hc.ln] at hj'
    rw [hc _ (by omega) (by omega), hj j hj']
    exact h.rd j hj'
  · have := h.sf
    unfold rSf at this ⊢
    rw [em, hr.ps (Nat.sub_le _ _), hr.ns, (hr (4 * i) (Nat.le_refl _) (by omega)).2]
    exact this
  · intro h9 j hj'
    rw [hc.ln] at hj'
    rw [hc.hd] at h9
    rw [cLi_c (hj j hj'), hj j hj']
    exact h.lb h9 j hj'
theorem ipr_c (h : M' 110 = M 110) : ipr M' = ipr M := by
  funext S r c
  unfold ipr cel
  rw [h]
theorem EQs_c {X Y : Nat → Int64} (h : M' 110 = M 110) (hE : EQs M X Y) : EQs M' X Y := by
  refine ⟨fun r c => by rw [ipr_c h]; exact hE.1 r c, fun r hr t ht hb => ?_⟩
  rw [h]
  exact hE.2 r hr t ht hb
end CONG
def SC (M : mM) (M' : mM) : Prop :=
  (∀ k, 12 ≤ k → k < 96 → M' k = M k) ∧
  (M' 5 4 = M 5 4) ∧
  (M' 6 = M 6) ∧
  (M' 96 = M 96) ∧
  (M' 109 0 = M 109 0) ∧
  (M' 110 = M 110) ∧
  (M' 114 = M 114) ∧
  (M' 116 = M 116) ∧
  (M' 117 = M 117) ∧
  (∀ x, x < 56 → M' 118 x = M 118 x ∧ M' 119 x = M 119 x ∧ M' 120 x = M 120 x ∧ M' 121 x = M 121 x)
theorem SC.c {M : mM} {M' : mM} (h : SC M M') : ∀ k, 12 ≤ k → k < 96 → M' k = M k := h.1
theorem SC.c5 {M : mM} {M' : mM} (h : SC M M') : M' 5 4 = M 5 4 := h.2.1
theorem SC.c6 {M : mM} {M' : mM} (h : SC M M') : M' 6 = M 6 := h.2.2.1
theorem SC.c96 {M : mM} {M' : mM} (h : SC M M') : M' 96 = M 96 := h.2.2.2.1
theorem SC.r0 {M : mM} {M' : mM} (h : SC M M') : M' 109 0 = M 109 0 := h.2.2.2.2.1
theorem SC.r110 {M : mM} {M' : mM} (h : SC M M') : M' 110 = M 110 := h.2.2.2.2.2.1
theorem SC.r114 {M : mM} {M' : mM} (h : SC M M') : M' 114 = M 114 := h.2.2.2.2.2.2.1
theorem SC.r116 {M : mM} {M' : mM} (h : SC M M') : M' 116 = M 116 := h.2.2.2.2.2.2.2.1
theorem SC.r117 {M : mM} {M' : mM} (h : SC M M') : M' 117 = M 117 := h.2.2.2.2.2.2.2.2.1
theorem SC.lit {M : mM} {M' : mM} (h : SC M M') : ∀ x, x < 56 → M' 118 x = M 118 x ∧ M' 119 x = M 119 x ∧ M' 120 x = M 120 x ∧ M' 121 x = M 121 x := h.2.2.2.2.2.2.2.2.2
theorem SC.mk {M : mM} {M' : mM} (c : ∀ k, 12 ≤ k → k < 96 → M' k = M k) (c5 : M' 5 4 = M 5 4) (c6 : M' 6 = M 6) (c96 : M' 96 = M 96) (r0 : M' 109 0 = M 109 0) (r110 : M' 110 = M 110) (r114 : M' 114 = M 114) (r116 : M' 116 = M 116) (r117 : M' 117 = M 117) (lit : ∀ x, x < 56 → M' 118 x = M 118 x ∧ M' 119 x = M 119 x ∧ M' 120 x = M 120 x ∧ M' 121 x = M 121 x) : SC M M' := ⟨c, c5, c6, c96, r0, r110, r114, r116, r117, lit⟩
theorem SC.rq {M M' : mM} (h : SC M M') {i : Nat} (hi : i < 14) (hW : wR M i) (hr : RQ M i) : RQ M' i := by
  have h3 := rln_3 hW
  have l := hr.ln
  refine hr.c h3 (fun k h1 h2 => h.c k (by omega) (by omega)) (by rw [h.r117]) (fun x h1 h2 => ?_)
  obtain ⟨a, b, c, d⟩ := h.lit x (by omega)
  exact ⟨d, rLi_c a b c (by rw [h.r110])⟩
theorem SC.rr {M M' : mM} (h : SC M M') (hW : ∀ i, i < 14 → wR M i) (hr : ∀ i, i < 14 → ¬ M 116 i = 0 → RQ M i) : rR M' = rR M := by
  have key : ∀ i, i < 14 → ¬ M 116 i = 0 → rRu M' (4 * i) (rml M' i) = rRu M (4 * i) (rml M i) := by
    intro i hi hu
    have q := hr i hi hu
    have l := q.ln
    have h3 := rln_3 (hW i hi)
    have em : rml M' i = rml M i := by unfold rml; rw [h.r117]
    rw [em]
    refine rRo.ru (fun x h1 h2 => ?_) (by omega)
    obtain ⟨a, b, c, d⟩ := h.lit x (by omega)
    exact ⟨d, rLi_c a b c (by rw [h.r110])⟩
  funext ρ
  apply propext
  constructor
  · rintro ⟨i, hi, hu, rfl⟩
    rw [h.r116] at hu
    exact ⟨i, hi, hu, key i hi hu⟩
  · rintro ⟨i, hi, hu, rfl⟩
    exact ⟨i, hi, by rw [h.r116]; exact hu, (key i hi hu).symm⟩
/-- what the rules, the arities and the strata say stays where they stay -/
theorem SC.core {M M' : mM} {L : mL} (h : SC M M') (hR : RI M L) : M' 109 0 = M' 5 4 ∧ (∀ r, r < 14 → nI r < M' 5 4 → M' 6 r = M' 110 r ∧ (M' 110 r = 1 ∨ M' 110 r = 2)) ∧ (∀ i, i < 14 → M' (12 + 6 * i) 4 = M' 116 i) ∧ (∀ i, i < 14 → ¬ M' 116 i = 0 → RQ M' i) ∧ (∀ r, r < 14 → M' 96 r = M' 114 r ∧ ∃ a, a < 6 ∧ M' 114 r = nI a) ∧ Sf (rR M') (fun r => (M' 114 r).toNatClampNeg) ∧ rR M' = rR M := by
  have hW := hR.ci.1.1
  have e := h.rr hW hR.rul
  refine ⟨?_, fun r hr hn => ?_, fun i hi => ?_, fun i hi hu => ?_, fun r hr => ?_, ?_, e⟩
  · rw [h.r0, h.c5]; exact hR.cnt
  · rw [h.c5] at hn
    rw [h.c6, h.r110]; exact hR.ari r hr hn
  · rw [h.c _ (by omega) (by omega), h.r116]; exact hR.the i hi
  · rw [h.r116] at hu
    exact h.rq hi (hW i hi) (hR.rul i hi hu)
  · rw [h.c96, h.r114]; exact hR.str r hr
  · rw [e, h.r114]; exact hR.sfr
theorem SC.of {M M' : mM} (h : ∀ k, k ≠ 0 → k ≠ 10 → k ≠ 109 → (k < 99 ∨ 103 ≤ k) → k ≠ 104 → (k < 105 ∨ 109 ≤ k) → (k < 122 ∨ 131 ≤ k) → (k < 2 ∨ 5 ≤ k) → M' k = M k) (h0 : M' 109 0 = M 109 0) : SC M M' := by
  have h' : ∀ k, 5 ≤ k → k < 122 → k ≠ 10 → (k < 99 ∨ 109 < k) → M' k = M k := fun k a b c d => h k (by omega) c (by omega) (by omega) (by omega) (by omega) (by omega) (by omega)
  refine SC.mk (fun k h1 h2 => h' k (by omega) (by omega) (by omega) (by omega)) (by rw [h' 5 (by omega) (by omega) (by omega) (by omega)]) (h' 6 (by omega) (by omega) (by omega) (by omega)) (h' 96 (by omega) (by omega) (by omega) (by omega)) h0 (h' 110 (by omega) (by omega) (by omega) (by omega)) (h' 114 (by omega) (by omega) (by omega) (by omega)) (h' 116 (by omega) (by omega) (by omega) (by omega)) (h' 117 (by omega) (by omega) (by omega) (by omega)) (fun x _ => ?_)
  rw [h' 118 (by omega) (by omega) (by omega) (by omega), h' 119 (by omega) (by omega) (by omega) (by omega), h' 120 (by omega) (by omega) (by omega) (by omega), h' 121 (by omega) (by omega) (by omega) (by omega)]
  exact ⟨rfl, rfl, rfl, rfl⟩
theorem wR_c {M M' : mM} {i : Nat} (h : cRo M M' i) (hw : wR M i) : wR M' i := by
  obtain ⟨a, b, c, d⟩ := hw
  refine ⟨by rw [h _ (by omega) (by omega)]; exact a, by rw [h _ (by omega) (by omega)]; exact b, fr_wL (h _ (by omega) (by omega)) c, fun j hj => fr_wL (h _ (by omega) (by omega)) (d j hj)⟩
/-- the class's own cells stay -/
theorem CI.c {M M' : mM} (h : CI M) (hk : ∀ k, 1 ≤ k → k < 109 → M' k = M k) : CI M' := by
  obtain ⟨⟨w1, w2, g, w3, w4⟩, v, c, m, he, li⟩ := h
  refine ⟨⟨fun i hi => wR_c (fun k h1 h2 => hk k (by omega) (by omega)) (w1 i hi), fun j hj => fr_wL (hk _ (by omega) (by omega)) (w2 j hj), g, w3, ?_⟩, ?_, ?_, ?_, fun j hj => ?_, fun l hl => ?_⟩
  · rw [hk 10 (by omega) (by omega)]; exact w4
  · rw [hk 104 (by omega) (by omega)]; exact v
  · rw [hk 5 (by omega) (by omega)]; exact c
  · rw [hk 105 (by omega) (by omega)]; exact m
  · rw [hk 106 (by omega) (by omega)]; exact he j hj
  · rw [hk 2 (by omega) (by omega), hk 3 (by omega) (by omega), hk 4 (by omega) (by omega)]; exact li l hl
