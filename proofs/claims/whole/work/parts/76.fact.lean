/-! after a change: follow and derive -/
def RP (M : mM) : Prop :=
  (CI M) ∧
  (PI M) ∧
  (M 109 0 = M 5 4) ∧
  (∀ r, r < 14 → nI r < M 5 4 → M 6 r = M 110 r ∧ (M 110 r = 1 ∨ M 110 r = 2)) ∧
  (∀ r, r < 9 → M 110 r = 2) ∧
  (M 109 8 = M 10 4) ∧
  (∀ j, j < 4 → nI j < M 10 4 → LQ M (99 + j) (56 + j)) ∧
  (¬ M 10 4 = 0 → M 121 56 = 0 ∧ 9 ≤ M 118 56) ∧
  (∀ i, i < 14 → M (12 + 6 * i) 4 = M 116 i) ∧
  (∀ i, i < 14 → ¬ M 116 i = 0 → RQ M i) ∧
  (∀ r, r < 14 → M 96 r = M 114 r ∧ ∃ a, a < 6 ∧ M 114 r = nI a) ∧
  (Sf (rR M) (fun r => (M 114 r).toNatClampNeg)) ∧
  (∀ l, l < 12 → M 2 l = M 122 l ∧ M 3 l = M 123 l ∧ M 4 l = M 124 l) ∧
  (M 105 3 = M 109 19) ∧
  (∀ j, j < 6 → M 106 j = M 125 j) ∧
  (∀ j, j < 20 → M 107 j = M 126 j) ∧
  (∀ j, j < 40 → M 108 j = M 127 j ∧ hok (M 108 j))
theorem RP.ci {M : mM} (h : RP M) : CI M := h.1
theorem RP.pi {M : mM} (h : RP M) : PI M := h.2.1
theorem RP.cnt {M : mM} (h : RP M) : M 109 0 = M 5 4 := h.2.2.1
theorem RP.ari {M : mM} (h : RP M) : ∀ r, r < 14 → nI r < M 5 4 → M 6 r = M 110 r ∧ (M 110 r = 1 ∨ M 110 r = 2) := h.2.2.2.1
theorem RP.ar9 {M : mM} (h : RP M) : ∀ r, r < 9 → M 110 r = 2 := h.2.2.2.2.1
theorem RP.gvn {M : mM} (h : RP M) : M 109 8 = M 10 4 := h.2.2.2.2.2.1
theorem RP.giv {M : mM} (h : RP M) : ∀ j, j < 4 → nI j < M 10 4 → LQ M (99 + j) (56 + j) := h.2.2.2.2.2.2.1
theorem RP.gv0 {M : mM} (h : RP M) : ¬ M 10 4 = 0 → M 121 56 = 0 ∧ 9 ≤ M 118 56 := h.2.2.2.2.2.2.2.1
theorem RP.the {M : mM} (h : RP M) : ∀ i, i < 14 → M (12 + 6 * i) 4 = M 116 i := h.2.2.2.2.2.2.2.2.1
theorem RP.rul {M : mM} (h : RP M) : ∀ i, i < 14 → ¬ M 116 i = 0 → RQ M i := h.2.2.2.2.2.2.2.2.2.1
theorem RP.str {M : mM} (h : RP M) : ∀ r, r < 14 → M 96 r = M 114 r ∧ ∃ a, a < 6 ∧ M 114 r = nI a := h.2.2.2.2.2.2.2.2.2.2.1
theorem RP.sfr {M : mM} (h : RP M) : Sf (rR M) (fun r => (M 114 r).toNatClampNeg) := h.2.2.2.2.2.2.2.2.2.2.2.1
theorem RP.lin {M : mM} (h : RP M) : ∀ l, l < 12 → M 2 l = M 122 l ∧ M 3 l = M 123 l ∧ M 4 l = M 124 l := h.2.2.2.2.2.2.2.2.2.2.2.2.1
theorem RP.mad {M : mM} (h : RP M) : M 105 3 = M 109 19 := h.2.2.2.2.2.2.2.2.2.2.2.2.2.1
theorem RP.hel {M : mM} (h : RP M) : ∀ j, j < 6 → M 106 j = M 125 j := h.2.2.2.2.2.2.2.2.2.2.2.2.2.2.1
theorem RP.sit {M : mM} (h : RP M) : ∀ j, j < 20 → M 107 j = M 126 j := h.2.2.2.2.2.2.2.2.2.2.2.2.2.2.2.1
theorem RP.fie {M : mM} (h : RP M) : ∀ j, j < 40 → M 108 j = M 127 j ∧ hok (M 108 j) := h.2.2.2.2.2.2.2.2.2.2.2.2.2.2.2.2
theorem RP.mk {M : mM} (ci : CI M) (pi : PI M) (cnt : M 109 0 = M 5 4) (ari : ∀ r, r < 14 → nI r < M 5 4 → M 6 r = M 110 r ∧ (M 110 r = 1 ∨ M 110 r = 2)) (ar9 : ∀ r, r < 9 → M 110 r = 2) (gvn : M 109 8 = M 10 4) (giv : ∀ j, j < 4 → nI j < M 10 4 → LQ M (99 + j) (56 + j)) (gv0 : ¬ M 10 4 = 0 → M 121 56 = 0 ∧ 9 ≤ M 118 56) (the : ∀ i, i < 14 → M (12 + 6 * i) 4 = M 116 i) (rul : ∀ i, i < 14 → ¬ M 116 i = 0 → RQ M i) (str : ∀ r, r < 14 → M 96 r = M 114 r ∧ ∃ a, a < 6 ∧ M 114 r = nI a) (sfr : Sf (rR M) (fun r => (M 114 r).toNatClampNeg)) (lin : ∀ l, l < 12 → M 2 l = M 122 l ∧ M 3 l = M 123 l ∧ M 4 l = M 124 l) (mad : M 105 3 = M 109 19) (hel : ∀ j, j < 6 → M 106 j = M 125 j) (sit : ∀ j, j < 20 → M 107 j = M 126 j) (fie : ∀ j, j < 40 → M 108 j = M 127 j ∧ hok (M 108 j)) : RP M := ⟨ci, pi, cnt, ari, ar9, gvn, giv, gv0, the, rul, str, sfr, lin, mad, hel, sit, fie⟩
theorem RI.rp {M : mM} {L : mL} (h : RI M L) : RP M := RP.mk h.ci h.pi h.cnt h.ari h.ar9 h.gvn h.giv h.gv0 h.the h.rul h.str h.sfr h.lin h.mad h.hel h.sit h.fie
theorem RP.c {M M' : mM} (h : RP M) (hM : ∀ k, k ≠ 0 → k ≠ 109 → (k < 128 ∨ 130 < k) → M' k = M k) (h109 : ∀ j, j ≠ 7 → M' 109 j = M 109 j) : RP M' := by
  have q : ∀ k, 1 ≤ k → k < 109 → M' k = M k := fun k a b => hM k (by omega) (by omega) (by omega)
  have q2 : ∀ k, 109 < k → k < 128 → M' k = M k := fun k a b => hM k (by omega) (by omega) (by omega)
  have ro : ∀ a m, rRo M M' a m := fun a m y _ _ => ⟨by rw [q2 121 (by omega) (by omega)], rLi_c (by rw [q2 118 (by omega) (by omega)]) (by rw [q2 119 (by omega) (by omega)]) (by rw [q2 120 (by omega) (by omega)]) (by rw [q2 110 (by omega) (by omega)])⟩
  have hW := h.ci.1.1
  have ln : ∀ i, i < 14 → ¬ M 116 i = 0 → 1 ≤ rml M i := fun i hi hu => by have := (h.rul i hi hu).ln; omega
  have eR : rR M' = rR M := rR_c (fun i _ => by rw [q2 116 (by omega) (by omega)]) (fun i hi hu => ⟨by rw [q2 117 (by omega) (by omega)], ro _ _, ln i hi hu⟩)
  refine RP.mk (h.ci.c q) ?_ ?_ ?_ ?_ ?_ ?_ ?_ ?_ ?_ ?_ ?_ ?_ ?_ ?_ ?_ ?_
  · exact h.pi.cg (h109 0 (by decide)) (by rw [h109 8 (by decide)]; exact h.pi.2.1) (by rw [h109 19 (by decide)]; exact h.pi.2.2.1) (fun a h1 h2 _ _ _ _ _ => q2 a (by omega) (by omega))
  · rw [h109 0 (by decide), q 5 (by omega) (by omega)]; exact h.cnt
  · rw [q 5 (by omega) (by omega), q 6 (by omega) (by omega), q2 110 (by omega) (by omega)]; exact h.ari
  · rw [q2 110 (by omega) (by omega)]; exact h.ar9
  · rw [h109 8 (by decide), q 10 (by omega) (by omega)]; exact h.gvn
  · intro j hj hn
    rw [q 10 (by omega) (by omega)] at hn
    have := h.giv j hj hn
    unfold LQ at this ⊢
    rw [cLi_c (q (99 + j) (by omega) (by omega)), q (99 + j) (by omega) (by omega), (ro (56 + j) 1 (56 + j) (Nat.le_refl _) (by omega)).2, q2 118 (by omega) (by omega), q2 121 (by omega) (by omega)]
    exact this
  · rw [q 10 (by omega) (by omega), q2 121 (by omega) (by omega), q2 118 (by omega) (by omega)]; exact h.gv0
  · intro i hi
    rw [q _ (by omega) (by omega), q2 116 (by omega) (by omega)]; exact h.the i hi
  · intro i hi hu
    rw [q2 116 (by omega) (by omega)] at hu
    exact (h.rul i hi hu).c (rln_3 (hW i hi)) (fun k h1 h2 => q k (by omega) (by omega)) (by rw [q2 117 (by omega) (by omega)]) (ro _ _)
  · rw [q 96 (by omega) (by omega), q2 114 (by omega) (by omega)]; exact h.str
  · rw [eR, q2 114 (by omega) (by omega)]; exact h.sfr
  · rw [q 2 (by omega) (by omega), q 3 (by omega) (by omega), q 4 (by omega) (by omega), q2 122 (by omega) (by omega), q2 123 (by omega) (by omega), q2 124 (by omega) (by omega)]; exact h.lin
  · rw [q 105 (by omega) (by omega), h109 19 (by decide)]; exact h.mad
  · rw [q 106 (by omega) (by omega), q2 125 (by omega) (by omega)]; exact h.hel
  · rw [q 107 (by omega) (by omega), q2 126 (by omega) (by omega)]; exact h.sit
  · rw [q 108 (by omega) (by omega), q2 127 (by omega) (by omega)]; exact h.fie
theorem RP.rr {M M' : mM} (h : RP M) (hM : ∀ k, k ≠ 0 → k ≠ 109 → (k < 128 ∨ 130 < k) → M' k = M k) : rR M' = rR M := by
  have q2 : ∀ k, 109 < k → k < 128 → M' k = M k := fun k a b => hM k (by omega) (by omega) (by omega)
  exact rR_c (fun i _ => by rw [q2 116 (by omega) (by omega)]) (fun i hi hu => ⟨by rw [q2 117 (by omega) (by omega)], fun y _ _ => ⟨by rw [q2 121 (by omega) (by omega)], rLi_c (by rw [q2 118 (by omega) (by omega)]) (by rw [q2 119 (by omega) (by omega)]) (by rw [q2 120 (by omega) (by omega)]) (by rw [q2 110 (by omega) (by omega)])⟩, by have := (h.rul i hi hu).ln; omega⟩)
theorem RP.hd {M : mM} (h : RP M) : ∀ ρ, rR M ρ → ρ.1.1 < (M 109 0).toNatClampNeg := by
  rintro ρ ⟨i, hi, hu, rfl⟩
  obtain ⟨n, _, h2, e⟩ := h.pi.1
  obtain ⟨a, b⟩ := h.pi.2.2.2.2.2.1 (4 * i) (by omega)
  show (M 118 (4 * i)).toNatClampNeg < _
  rw [e, nI_clamp (n := n) (by omega)]
  rw [e, vp_nI a.1] at b
  have := cl_lt a.1
  exact (nI_lt_iff (by omega) (by omega)).mp b
/-- the invariant stands again when both sides have set right what follows -/
theorem fin_RI {MC MR M' : mM} {LC LR : mL} {x : Int32} {R0 : Ru → Prop} {F0 : Ip} (hP : RP MR) (hS : Sm MR M') (hM : cOK MC) (h96 : MC 96 = MR 96) (hRR : ∀ ρ, cR MC ρ ↔ rR MR ρ) (hB : B14 x) (hI : Sb R0 F0 (ipc (LC 8))) (hF : ∀ r, r < 14 → ¬ ib x r = true → ∀ c, ipc (LC 7) r c ↔ F0 r c) (hF14 : ∀ r, ¬ r < 14 → ∀ c, ¬ F0 r c) (hR : ∀ ρ, ¬ ib x ρ.1.1 = true → (cR MC ρ ↔ R0 ρ)) (hR14 : ∀ ρ, R0 ρ → ρ.1.1 < 14) (hEF : EQs MR (LC 7) (LR 111)) (hET : EQs MR (LC 8) (LR 112)) (hem : ∀ r, (MR 109 0).toNatClampNeg ≤ r → ∀ c, ¬ ipr MR (LR 111) r c) (e7 : LR 7 = LC 7) (e8 : LR 8 = fll MC LC x) (e05 : MR 0 5 = cch (upr (upr LC 9 (LC 8)) 8 (fll MC LC x)) 14) : RI (up2 M' 109 7 (dct (derL MR LR) 14 0 0)) (derL MR LR) := by
  have hst : ∀ r, r < 14 → ∃ a, a < 6 ∧ MC 96 r = nI a := fun r hr => by
    obtain ⟨e, a, ha, e'⟩ := hP.str r hr
    exact ⟨a, ha, by rw [h96, e]; exact e'⟩
  have eR : cR MC = rR MR := by
    funext ρ
    exact propext (hRR ρ)
  have hsf : Sf (cR MC) (fun r => (MC 96 r).toNatClampNeg) := by
    rw [eR]
    intro ρ hρ
    have h14 : ρ.1.1 < 14 := by
      have := hP.hd ρ hρ
      obtain ⟨n, _, h2, e⟩ := hP.pi.1
      rw [e, nI_clamp (n := n) (by omega)] at this
      omega
    obtain ⟨s1, s2⟩ := hP.sfr ρ hρ
    have rel : ∀ p, (p ∈ ρ.2.1 ∨ p ∈ ρ.2.2) → p.1 < 14 := by
      intro p hp
      rw [← hRR ρ] at hρ
      obtain ⟨i, hi, hH, rfl⟩ := hρ
      obtain ⟨tp, tn⟩ := tmO_p (hM.1 i hi)
      rcases hp with hp | hp
      · exact (tp p hp).1
      · exact (tn p hp).1
    refine ⟨fun p hp => ?_, fun p hp => ?_⟩
    · show (MC 96 p.1).toNatClampNeg ≤ (MC 96 ρ.1.1).toNatClampNeg
      rw [h96, (hP.str p.1 (rel p (Or.inl hp))).1, (hP.str ρ.1.1 h14).1]; exact s1 p hp
    · show (MC 96 p.1).toNatClampNeg < (MC 96 ρ.1.1).toNatClampNeg
      rw [h96, (hP.str p.1 (rel p (Or.inr hp))).1, (hP.str ρ.1.1 h14).1]; exact s2 p hp
  have hrok := rOK_of hP.pi (fun i hi => rln_3 (hP.ci.1.1 i hi)) hP.rul
  obtain ⟨f1, f2, f3, f4, f5⟩ := fd (LC := LC) (LR := LR) hM hst hsf hB hI hF hF14 hR hR14 hrok (fun r hr => (hP.str r hr).2) hP.sfr hRR hEF hET rfl hem hP.hd
  have hk : ∀ k, k ≠ 0 → k ≠ 109 → (k < 128 ∨ 130 < k) → (up2 M' 109 7 (dct (derL MR LR) 14 0 0)) k = MR k := fun k _ h1 h2 => by
    rw [up2_k h1]; exact hS.1 k (by omega) (by omega) (by omega)
  have hk0 : (up2 M' 109 7 (dct (derL MR LR) 14 0 0)) 0 = MR 0 := by
    rw [up2_k (by decide)]; exact hS.1 0 (by omega) (by omega) (by omega)
  have h109 : ∀ j, j ≠ 7 → (up2 M' 109 7 (dct (derL MR LR) 14 0 0)) 109 j = MR 109 j := fun j hj => by
    rw [up2_j hj, hS.1 109 (by decide) (by decide) (by decide)]
  have hp := hP.c hk h109
  have e110 := hk 110 (by decide) (by decide) (by omega)
  have eRR := hP.rr hk
  have eip := ipr_c e110
  have g7 : derL MR LR 7 = LC 7 := (f5 7 (by decide) (by decide)).trans e7
  have g8 : derL MR LR 8 = fll MC LC x := (f5 8 (by decide) (by decide)).trans e8
  have g111 : derL MR LR 111 = LR 111 := f5 111 (by decide) (by decide)
  refine RI.mk hp.ci hp.pi hp.cnt hp.ari hp.ar9 hp.gvn hp.giv hp.gv0 hp.the hp.rul hp.str hp.sfr ?_ ?_ ?_ ?_ ?_ hp.lin hp.mad hp.hel hp.sit hp.fie ?_
  · rw [g7, g111]; exact EQs_c e110 hEF
  · rw [g8]; exact EQs_c e110 f1
  · rw [h109 0 (by decide), eip, g111]; exact hem
  · rw [h109 0 (by decide), eip]; exact f3
  · rw [eRR, eip, g111]; exact f2
  · rw [hk0, up2_s, e05]; exact f4
theorem updL_up2 {L : mL} {k r : Nat} {x : Int64} : (up2 L k r x) k = vp_updL (L k) r x := by
  funext j
  unfold up2 vp_updL
  by_cases e : j = r
  · rw [if_pos ⟨rfl, e⟩, if_pos e]
  · rw [if_neg (fun z => e z.2), if_neg e]
/-- a fact is turned on both sides -/
theorem EQs.flip {M : mM} {X Y : Nat → Int64} (h : EQs M X Y) {r t : Nat} (hr : r < 14) (ht : t < 36) (h6 : M 110 r = 1 → t < 6) (hc : cel M r t < 36) : EQs M (vp_updL X r (X r ^^^ (1 <<< ((nI (cel M r t)).toInt64 &&& 63)))) (vp_updL Y r (Y r ^^^ (1 <<< ((nI t).toInt64 &&& 63)))) := by
  have bx : ∀ c, c < 64 → lb (X r ^^^ (1 <<< ((nI (cel M r t)).toInt64 &&& 63))) c = (lb (X r) c ^^ decide (c = cel M r t)) := fun c hc' => by rw [lb_xor, lb_one _ (by omega) c hc']
  have by' : ∀ c, c < 64 → lb (Y r ^^^ (1 <<< ((nI t).toInt64 &&& 63))) c = (lb (Y r) c ^^ decide (c = t)) := fun c hc' => by rw [lb_xor, lb_one _ (by omega) c hc']
  have key : ∀ u, u < 36 → lb (X r) (cel M r u) = lb (Y r) u := fun u hu => h.bit hr hu
  refine ⟨fun s c => ?_, fun s hs u hu hb => ?_⟩
  · by_cases e : s = r
    · subst e
      unfold ipc ipr
      rw [updL_s, updL_s]
      constructor
      · rintro ⟨g, hb⟩
        have h64 : c < 64 := Nat.not_le.mp fun z => by rw [lb_big z] at hb; cases hb
        rw [bx c h64] at hb
        by_cases ec : c = cel M s t
        · refine ⟨g, t, ht, ?_, ec⟩
          rw [by' t (by omega)]
          rw [ec, key t ht] at hb
          simpa using hb
        · have hb2 : lb (X s) c = true := by simpa [ec] using hb
          obtain ⟨_, u, hu, hbu, eu⟩ := (h.1 s c).mp ⟨g, hb2⟩
          refine ⟨g, u, hu, ?_, eu⟩
          have hne : u ≠ t := fun z => ec (by rw [eu, z])
          rw [by' u (by omega), hbu]
          simp [hne]
      · rintro ⟨g, u, hu, hb, rfl⟩
        rw [by' u (by omega), ← key u hu] at hb
        have h64 : cel M s u < 64 := by
          unfold cel
          by_cases hun : M 110 s = 1
          · rw [if_pos hun]
            by_cases e : u = t
            · rw [e]; have := h6 hun; omega
            · have : lb (X s) (cel M s u) = true := by simpa [e] using hb
              rw [key u hu] at this
              have := (h.2 s g u (by omega) this).2 hun
              omega
          · rw [if_neg hun]; omega
        refine ⟨g, ?_⟩
        rw [bx _ h64]
        by_cases e : u = t
        · subst e; simpa using hb
        · have : cel M s u ≠ cel M s t := fun z => e (cel_inj z)
          simpa [e, this] using hb
    · unfold ipc
      rw [updL_o e, ipr_r (updL_o e)]
      exact h.1 s c
  · by_cases e : s = r
    · subst e
      rw [updL_s, by' u hu] at hb
      by_cases e2 : u = t
      · subst e2; exact ⟨ht, h6⟩
      · have : lb (Y s) u = true := by simpa [e2] using hb
        exact h.2 s hs u hu this
    · rw [updL_o e] at hb
      exact h.2 s hs u hu hb
theorem B14_one {r : Nat} (h : r < 14) : B14 (1 <<< (nI r &&& 31)) := by
  intro s h1 h2
  rw [ib_one r (by omega) s h2]
  exact decide_eq_false (by omega)
theorem RI.sbc {M : mM} {L : mL} (h : RI M L) : Sb (cR M) (ipc (L 7)) (ipc (L 8)) := by
  have e : cR M = rR M := by
    funext ρ
    exact propext (cR_rR h.the h.rul ρ)
  rw [e, ip_eq h.fct, ip_eq h.tup]
  exact h.sbl
theorem RI.c14 {M : mM} {L : mL} (h : RI M L) : ∀ ρ, cR M ρ → ρ.1.1 < 14 := by
  rintro ρ ⟨i, hi, hH, rfl⟩
  exact (rhd_14 (h.ci.1.1 i hi)).1
theorem b2_x {p q : Prop} [Decidable p] [Decidable q] (h : p ↔ q) : b2 p = b2 q := by
  unfold b2
  by_cases hp : p
  · rw [if_pos hp, if_pos (h.mp hp)]
  · rw [if_neg hp, if_neg (fun z => hp (h.mpr z))]
theorem k_fact (x0 x1 x2 x3 : Int32) (h01 : x3 = 0 ∨ x3 = 1) : Clp RI (po_PF_fact [.ref 0, .int x0, .int x1, .int x2, .int x3]) (po_PM_fact [.ref 109, .int x0, .int x1, .int x2, .int x3]) := by
  intro M L hR r μ1 hq
  obtain ⟨q1, q2⟩ := hq
  -- both sides take the call, or both refuse it
  have dec : (fcl M x0 x1 x2 = -1 ∨ b2 (¬ ub (L 7 x0.toNatClampNeg) (fcl M x0 x1 x2) = 0) = x3) ∧ ¬ (9 ≤ x0 ∧ ¬ plM M x0 x1 x2 < 0 ∧ ¬ b2 (sb (L 111 x0.toNatClampNeg) (plM M x0 x1 x2) = 1) = x3) ∨ ¬ (fcl M x0 x1 x2 = -1 ∨ b2 (¬ ub (L 7 x0.toNatClampNeg) (fcl M x0 x1 x2) = 0) = x3) ∧ (9 ≤ x0 ∧ ¬ plM M x0 x1 x2 < 0 ∧ ¬ b2 (sb (L 111 x0.toNatClampNeg) (plM M x0 x1 x2) = 1) = x3) ∧ ∃ n r t, M 5 4 = nI n ∧ n ≤ 14 ∧ r < n ∧ x0 = nI r ∧ x0.toNatClampNeg = r ∧ t < 36 ∧ (M 110 r = 1 → t < 6) ∧ cel M r t < 36 ∧ fcl M x0 x1 x2 = nI (cel M r t) ∧ plM M x0 x1 x2 = nI t := by
    rcases hR.pl x0 x1 x2 with ⟨e1, e2⟩ | ⟨n, r', t, g1, g2, g3, g4, g5, g6, g7, g8, e1, e2⟩
    · left
      refine ⟨Or.inl ?_, fun z => z.2.1 (by rw [e2]; decide)⟩
      unfold fcl
      split
      · exact e1
      · rfl
    · by_cases h9 : 9 ≤ x0
      · have ef : fcl M x0 x1 x2 = nI (cel M r' t) := by
          unfold fcl
          rw [if_pos ⟨h9, by rw [g1, g4]; exact nI_lt g3 (by omega)⟩]
          exact e1
        have hb := hR.fct.bit (show r' < 14 by omega) g6
        have eb : b2 (sb (L 111 x0.toNatClampNeg) (plM M x0 x1 x2) = 1) = b2 (¬ ub (L 7 x0.toNatClampNeg) (fcl M x0 x1 x2) = 0) := by
          rw [ef, e2, g5]
          refine b2_x ?_
          rw [lb_sb1 (by omega), lb_ub (by omega), hb]
          cases lb (L 111 r') t <;> simp
        have hn : ¬ fcl M x0 x1 x2 = -1 := by rw [ef]; exact nI_nm (by omega)
        have hp : ¬ plM M x0 x1 x2 < 0 := by rw [e2]; exact nI_nlt (a := t) (b := 0) (Nat.zero_le _) (by omega)
        by_cases hx : b2 (¬ ub (L 7 x0.toNatClampNeg) (fcl M x0 x1 x2) = 0) = x3
        · exact Or.inl ⟨Or.inr hx, fun z => z.2.2 (eb.trans hx)⟩
        · exact Or.inr ⟨fun z => z.elim hn hx, ⟨h9, hp, fun z => hx (eb.symm.trans z)⟩, n, r', t, g1, g2, g3, g4, g5, g6, g7, g8, ef, e2⟩
      · left
        refine ⟨Or.inl ?_, fun z => h9 z.1⟩
        unfold fcl
        rw [if_neg (fun z => h9 z.1)]
  rcases dec with ⟨d1, d2⟩ | ⟨d1, d2, n, r', t, g1, g2, g3, g4, g5, g6, g7, g8, ef, e2⟩
  · obtain ⟨rfl, rfl⟩ := q1 d1
    refine ⟨_, M, L, rfl, rfl, hR.pi, fun r2 μ2 hq2 => ?_⟩
    obtain ⟨rfl, rfl⟩ := hq2.2 d2
    exact ⟨rfl, M, L, rfl, hR⟩
  · obtain ⟨rfl, ρ, rfl⟩ := q2 d1
    have hr14 : r' < 14 := by omega
    -- the class's side
    generalize hL1 : up2 L 7 r' (L 7 r' ^^^ (1 <<< ((nI (cel M r' t)).toInt64 &&& 63))) = L1
    generalize hx : (1 : Int32) <<< (nI r' &&& 31) = xx
    have eF : folM M (up2 L 7 x0.toNatClampNeg (L 7 x0.toNatClampNeg ^^^ (1 <<< ((fcl M x0 x1 x2).toInt64 &&& 63)))) (1 <<< (x0 &&& 31)) ρ = (131, up2 M 0 5 (cch (upr (upr L1 9 (L1 8)) 8 (fll M L1 xx)) 14), up2 (upr (upr L1 9 (L1 8)) 8 (fll M L1 xx)) 103 1 ρ, TT) := by
      rw [ef, g5, hL1, g4, hx]
      rfl
    generalize hM1 : up2 M 0 5 (cch (upr (upr L1 9 (L1 8)) 8 (fll M L1 xx)) 14) = M1 at eF
    generalize hLc : up2 (upr (upr L1 9 (L1 8)) 8 (fll M L1 xx)) 103 1 ρ = Lc at eF
    have k1 : ∀ k, k ≠ 0 → M1 k = M k := fun k hk => by rw [← hM1, up2_k hk]
    have hpi1 : PI M1 := hR.pi.cg (by rw [k1 109 (by decide)]) (by rw [k1 109 (by decide)]; exact hR.pi.2.1) (by rw [k1 109 (by decide)]; exact hR.pi.2.2.1) (fun a h _ _ _ _ _ _ => k1 a (by omega))
    refine ⟨_, M1, Lc, rfl, eF, hpi1, fun r2 μ2 hq2 => ?_⟩
    have cR_ : ∀ k, k ≠ 8 → k ≠ 9 → k ≠ 103 → k ≠ 7 → Lc k = L k := fun k a b c d => by
      rw [← hLc, up2_k c, upr_k a, upr_k b, ← hL1, up2_k d]
    have c7 : Lc 7 = L1 7 := by rw [← hLc, up2_k (by decide), upr_k (by decide), upr_k (by decide)]
    have c8 : Lc 8 = fll M L1 xx := by rw [← hLc, up2_k (by decide), upr_s]
    have hc2 : 9 ≤ x0 ∧ ¬ plM M1 x0 x1 x2 < 0 ∧ ¬ b2 (sb (Lc 111 x0.toNatClampNeg) (plM M1 x0 x1 x2) = 1) = x3 := by
      unfold plM
      rw [k1 109 (by decide), k1 110 (by decide), cR_ 111 (by decide) (by decide) (by decide) (by decide)]
      exact d2
    obtain ⟨rfl, M', hS, rfl⟩ := hq2.1 hc2
    refine ⟨rfl, _, _, rfl, ?_⟩
    have ep : plM M1 x0 x1 x2 = nI t := by
      unfold plM
      rw [k1 109 (by decide), k1 110 (by decide)]
      exact e2
    show RI (up2 M' 109 7 (dct (derL M1 (up2 Lc 111 x0.toNatClampNeg (Lc 111 x0.toNatClampNeg ^^^ (1 <<< ((plM M1 x0 x1 x2).toInt64 &&& 63))))) 14 0 0)) (derL M1 (up2 Lc 111 x0.toNatClampNeg (Lc 111 x0.toNatClampNeg ^^^ (1 <<< ((plM M1 x0 x1 x2).toInt64 &&& 63)))))
    rw [ep, g5, cR_ 111 (by decide) (by decide) (by decide) (by decide)]
    have hP1 : RP M1 := hR.rp.c (fun k h _ _ => k1 k h) (fun j _ => by rw [k1 109 (by decide)])
    have e110 := k1 110 (by decide)
    have l7 : L1 7 = vp_updL (L 7) r' (L 7 r' ^^^ (1 <<< ((nI (cel M r' t)).toInt64 &&& 63))) := by rw [← hL1, updL_up2]
    have l8 : L1 8 = L 8 := by rw [← hL1, up2_k (by decide)]
    have rR1 : rR M1 = rR M := hR.rp.rr (fun k h _ _ => k1 k h)
    have r111 : (up2 Lc 111 r' (L 111 r' ^^^ (1 <<< ((nI t).toInt64 &&& 63)))) 111 = vp_updL (L 111) r' (L 111 r' ^^^ (1 <<< ((nI t).toInt64 &&& 63))) := by
      rw [updL_up2, cR_ 111 (by decide) (by decide) (by decide) (by decide)]
    refine fin_RI (MC := M) (LC := L1) (x := xx) (R0 := cR M) (F0 := ipc (L 7)) hP1 hS (cOK_of hR.ci hR.the hR.rul) (k1 96 (by decide)).symm (fun ρ' => by rw [rR1]; exact cR_rR hR.the hR.rul ρ') (by rw [← hx]; exact B14_one hr14) ?_ ?_ ?_ (fun _ _ => Iff.rfl) hR.c14 ?_ ?_ ?_ ?_ ?_ ?_
    · rw [l8]; exact hR.sbc
    · intro s hs hne c
      have hsr : s ≠ r' := by
        intro e
        apply hne
        rw [← hx, e, ib_one r' (by omega) r' (by omega)]
        simp
      unfold ipc
      rw [l7, updL_o hsr]
    · intro s hs c z
      exact hs z.1
    · rw [l7, r111]
      exact EQs_c e110 (hR.fct.flip hr14 g6 g7 g8)
    · rw [l8, up2_k (by decide), cR_ 112 (by decide) (by decide) (by decide) (by decide)]
      exact EQs_c e110 hR.tup
    · intro s hs c z
      rw [k1 109 (by decide)] at hs
      rw [ipr_c e110, r111] at z
      obtain ⟨n', _, _, h3, h4, h5⟩ := hR.n
      have hsn : s ≠ r' := by
        have : n = n' := (nI_eq (by omega) (by omega)).mp (g1.symm.trans h3)
        omega
      rw [ipr_r (updL_o hsn)] at z
      exact hR.emf s hs c z
    · rw [up2_k (by decide)]; exact c7
    · rw [up2_k (by decide)]; exact c8
    · rw [← hM1, up2_s]
