/-! the invariant between class and reference -/
/-- a rule of the class is the reference's rule -/
def RQ (M : mM) (i : Nat) : Prop :=
  (cRu M i = rRu M (4 * i) (rml M i)) ∧
  (rln M i + 1 = rml M i) ∧
  (cSo M i) ∧
  (cRd M i) ∧
  (rSf M (4 * i) (rml M i)) ∧
  (rhd M i < 9 → ∀ j, j < rln M i → (cLi M (15 + 6 * i + j)).1 < 9 ∧ M (15 + 6 * i + j) 3 = 0)
theorem RQ.ru {M : mM} {i : Nat} (h : RQ M i) : cRu M i = rRu M (4 * i) (rml M i) := h.1
theorem RQ.ln {M : mM} {i : Nat} (h : RQ M i) : rln M i + 1 = rml M i := h.2.1
theorem RQ.so {M : mM} {i : Nat} (h : RQ M i) : cSo M i := h.2.2.1
theorem RQ.rd {M : mM} {i : Nat} (h : RQ M i) : cRd M i := h.2.2.2.1
theorem RQ.sf {M : mM} {i : Nat} (h : RQ M i) : rSf M (4 * i) (rml M i) := h.2.2.2.2.1
theorem RQ.lb {M : mM} {i : Nat} (h : RQ M i) : rhd M i < 9 → ∀ j, j < rln M i → (cLi M (15 + 6 * i + j)).1 < 9 ∧ M (15 + 6 * i + j) 3 = 0 := h.2.2.2.2.2
theorem RQ.mk {M : mM} {i : Nat} (ru : cRu M i = rRu M (4 * i) (rml M i)) (ln : rln M i + 1 = rml M i) (so : cSo M i) (rd : cRd M i) (sf : rSf M (4 * i) (rml M i)) (lb : rhd M i < 9 → ∀ j, j < rln M i → (cLi M (15 + 6 * i + j)).1 < 9 ∧ M (15 + 6 * i + j) 3 = 0) : RQ M i := ⟨ru, ln, so, rd, sf, lb⟩
def LQ (M : mM) (k i : Nat) : Prop := M k 0 = M 118 i ∧ cLi M k = rLi M i ∧ M k 3 = M 121 i
def RI (M : mM) (L : mL) : Prop :=
  (CI M) ∧
  (PI M) ∧
  (M 109 0 = M 5 4) ∧
  (∀ r, r < 14 → nI r < M 5 4 → M 6 r = M 110 r ∧ (M 110 r = 1 ∨ M 110 r = 2)) ∧
  (∀ r, r < 9 → M 110 r = 2) ∧
  (M 109 8 = M 10 4) ∧
  (∀ j, j < 4 → nI j < M 10 4 → LQ M (99 + j) (56 + j)) ∧
  (¬ M 10 4 = 0 → M 121 56 = 0 ∧ 9 ≤ M 118 56) ∧
  (∀ i, i < 14 → M (12 + 6 * i) 4 = M 116 i) ∧
  (∀ i, i < 14 → ¬ M 116 i = 0 → RQ M i) ∧
  (∀ r, r < 14 → M 96 r = M 114 r ∧ ∃ a, a < 6 ∧ M 114 r = nI a) ∧
  (Sf (rR M) (fun r => (M 114 r).toNatClampNeg)) ∧
  (EQs M (L 7) (L 111)) ∧
  (EQs M (L 8) (L 112)) ∧
  (∀ r, (M 109 0).toNatClampNeg ≤ r → ∀ c, ¬ ipr M (L 111) r c) ∧
  (∀ r, (M 109 0).toNatClampNeg ≤ r → ∀ c, ¬ ipr M (L 112) r c) ∧
  (Sb (rR M) (ipr M (L 111)) (ipr M (L 112))) ∧
  (∀ l, l < 12 → M 2 l = M 122 l ∧ M 3 l = M 123 l ∧ M 4 l = M 124 l) ∧
  (M 105 3 = M 109 19) ∧
  (∀ j, j < 6 → M 106 j = M 125 j) ∧
  (∀ j, j < 20 → M 107 j = M 126 j) ∧
  (∀ j, j < 40 → M 108 j = M 127 j ∧ hok (M 108 j)) ∧
  (M 0 5 = M 109 7)
theorem RI.ci {M : mM} {L : mL} (h : RI M L) : CI M := h.1
theorem RI.pi {M : mM} {L : mL} (h : RI M L) : PI M := h.2.1
theorem RI.cnt {M : mM} {L : mL} (h : RI M L) : M 109 0 = M 5 4 := h.2.2.1
theorem RI.ari {M : mM} {L : mL} (h : RI M L) : ∀ r, r < 14 → nI r < M 5 4 → M 6 r = M 110 r ∧ (M 110 r = 1 ∨ M 110 r = 2) := h.2.2.2.1
theorem RI.ar9 {M : mM} {L : mL} (h : RI M L) : ∀ r, r < 9 → M 110 r = 2 := h.2.2.2.2.1
theorem RI.gvn {M : mM} {L : mL} (h : RI M L) : M 109 8 = M 10 4 := h.2.2.2.2.2.1
theorem RI.giv {M : mM} {L : mL} (h : RI M L) : ∀ j, j < 4 → nI j < M 10 4 → LQ M (99 + j) (56 + j) := h.2.2.2.2.2.2.1
theorem RI.gv0 {M : mM} {L : mL} (h : RI M L) : ¬ M 10 4 = 0 → M 121 56 = 0 ∧ 9 ≤ M 118 56 := h.2.2.2.2.2.2.2.1
theorem RI.the {M : mM} {L : mL} (h : RI M L) : ∀ i, i < 14 → M (12 + 6 * i) 4 = M 116 i := h.2.2.2.2.2.2.2.2.1
theorem RI.rul {M : mM} {L : mL} (h : RI M L) : ∀ i, i < 14 → ¬ M 116 i = 0 → RQ M i := h.2.2.2.2.2.2.2.2.2.1
theorem RI.str {M : mM} {L : mL} (h : RI M L) : ∀ r, r < 14 → M 96 r = M 114 r ∧ ∃ a, a < 6 ∧ M 114 r = nI a := h.2.2.2.2.2.2.2.2.2.2.1
theorem RI.sfr {M : mM} {L : mL} (h : RI M L) : Sf (rR M) (fun r => (M 114 r).toNatClampNeg) := h.2.2.2.2.2.2.2.2.2.2.2.1
theorem RI.fct {M : mM} {L : mL} (h : RI M L) : EQs M (L 7) (L 111) := h.2.2.2.2.2.2.2.2.2.2.2.2.1
theorem RI.tup {M : mM} {L : mL} (h : RI M L) : EQs M (L 8) (L 112) := h.2.2.2.2.2.2.2.2.2.2.2.2.2.1
theorem RI.emf {M : mM} {L : mL} (h : RI M L) : ∀ r, (M 109 0).toNatClampNeg ≤ r → ∀ c, ¬ ipr M (L 111) r c := h.2.2.2.2.2.2.2.2.2.2.2.2.2.2.1
theorem RI.emt {M : mM} {L : mL} (h : RI M L) : ∀ r, (M 109 0).toNatClampNeg ≤ r → ∀ c, ¬ ipr M (L 112) r c := h.2.2.2.2.2.2.2.2.2.2.2.2.2.2.2.1
theorem RI.sbl {M : mM} {L : mL} (h : RI M L) : Sb (rR M) (ipr M (L 111)) (ipr M (L 112)) := h.2.2.2.2.2.2.2.2.2.2.2.2.2.2.2.2.1
theorem RI.lin {M : mM} {L : mL} (h : RI M L) : ∀ l, l < 12 → M 2 l = M 122 l ∧ M 3 l = M 123 l ∧ M 4 l = M 124 l := h.2.2.2.2.2.2.2.2.2.2.2.2.2.2.2.2.2.1
theorem RI.mad {M : mM} {L : mL} (h : RI M L) : M 105 3 = M 109 19 := h.2.2.2.2.2.2.2.2.2.2.2.2.2.2.2.2.2.2.1
theorem RI.hel {M : mM} {L : mL} (h : RI M L) : ∀ j, j < 6 → M 106 j = M 125 j := h.2.2.2.2.2.2.2.2.2.2.2.2.2.2.2.2.2.2.2.1
theorem RI.sit {M : mM} {L : mL} (h : RI M L) : ∀ j, j < 20 → M 107 j = M 126 j := h.2.2.2.2.2.2.2.2.2.2.2.2.2.2.2.2.2.2.2.2.1
theorem RI.fie {M : mM} {L : mL} (h : RI M L) : ∀ j, j < 40 → M 108 j = M 127 j ∧ hok (M 108 j) := h.2.2.2.2.2.2.2.2.2.2.2.2.2.2.2.2.2.2.2.2.2.1
theorem RI.cha {M : mM} {L : mL} (h : RI M L) : M 0 5 = M 109 7 := h.2.2.2.2.2.2.2.2.2.2.2.2.2.2.2.2.2.2.2.2.2.2
theorem RI.mk {M : mM} {L : mL} (ci : CI M) (pi : PI M) (cnt : M 109 0 = M 5 4) (ari : ∀ r, r < 14 → nI r < M 5 4 → M 6 r = M 110 r ∧ (M 110 r = 1 ∨ M 110 r = 2)) (ar9 : ∀ r, r < 9 → M 110 r = 2) (gvn : M 109 8 = M 10 4) (giv : ∀ j, j < 4 → nI j < M 10 4 → LQ M (99 + j) (56 + j)) (gv0 : ¬ M 10 4 = 0 → M 121 56 = 0 ∧ 9 ≤ M 118 56) (the : ∀ i, i < 14 → M (12 + 6 * i) 4 = M 116 i) (rul : ∀ i, i < 14 → ¬ M 116 i = 0 → RQ M i) (str : ∀ r, r < 14 → M 96 r = M 114 r ∧ ∃ a, a < 6 ∧ M 114 r = nI a) (sfr : Sf (rR M) (fun r => (M 114 r).toNatClampNeg)) (fct : EQs M (L 7) (L 111)) (tup : EQs M (L 8) (L 112)) (emf : ∀ r, (M 109 0).toNatClampNeg ≤ r → ∀ c, ¬ ipr M (L 111) r c) (emt : ∀ r, (M 109 0).toNatClampNeg ≤ r → ∀ c, ¬ ipr M (L 112) r c) (sbl : Sb (rR M) (ipr M (L 111)) (ipr M (L 112))) (lin : ∀ l, l < 12 → M 2 l = M 122 l ∧ M 3 l = M 123 l ∧ M 4 l = M 124 l) (mad : M 105 3 = M 109 19) (hel : ∀ j, j < 6 → M 106 j = M 125 j) (sit : ∀ j, j < 20 → M 107 j = M 126 j) (fie : ∀ j, j < 40 → M 108 j = M 127 j ∧ hok (M 108 j)) (cha : M 0 5 = M 109 7) : RI M L := ⟨ci, pi, cnt, ari, ar9, gvn, giv, gv0, the, rul, str, sfr, fct, tup, emf, emt, sbl, lin, mad, hel, sit, fie, cha⟩
theorem RQ.S {M : mM} {i : Nat} (h : RQ M i) : cSf M i := by
  have h1 := h.sf
  have e := h.ru
  have e1 : cLi M (13 + 6 * i) = rLi M (4 * i) := congrArg (fun x : Ru => x.1) e
  have e2 : cPos M i = rPs M (4 * i) (rml M i) (rml M i - 1) := congrArg (fun x : Ru => x.2.1) e
  have e3 : cNeg M i = rNs M (4 * i) (rml M i) := congrArg (fun x : Ru => x.2.2) e
  unfold cSf
  rw [e1, e2, e3]
  exact h1
theorem cR_rR {M : mM} (ht : ∀ i, i < 14 → M (12 + 6 * i) 4 = M 116 i) (hr : ∀ i, i < 14 → ¬ M 116 i = 0 → RQ M i) (ρ : Ru) : cR M ρ ↔ rR M ρ := by
  constructor
  · rintro ⟨i, hi, hH, rfl⟩
    rw [ht i hi] at hH
    exact ⟨i, hi, hH, (hr i hi hH).ru⟩
  · rintro ⟨i, hi, hH, rfl⟩
    exact ⟨i, hi, by rw [ht i hi]; exact hH, (hr i hi hH).ru.symm⟩
theorem cOK_of {M : mM} (hc : CI M) (ht : ∀ i, i < 14 → M (12 + 6 * i) 4 = M 116 i) (hr : ∀ i, i < 14 → ¬ M 116 i = 0 → RQ M i) : cOK M := ⟨hc.1.1, hc.2.1, fun i hi hH => by
  rw [ht i hi] at hH
  have h := hr i hi hH
  exact ⟨cSf_S h.S, h.rd⟩⟩
theorem rOK_of {M : mM} (hp : PI M) (hc : ∀ i, i < 14 → rln M i ≤ 3) (hr : ∀ i, i < 14 → ¬ M 116 i = 0 → RQ M i) : rOK M := ⟨fun i hi => (hp.2.2.2.2.2.1 i hi).1, fun j hj hu => by
  have h := hr j hj hu
  have := h.ln
  have := hc j hj
  exact ⟨by omega, h.sf⟩⟩
theorem Cok_of {M : mM} (hW : ∀ i, i < 14 → wR M i) (hr : ∀ i, i < 14 → ¬ M (12 + 6 * i) 4 = 0 → rhd M i < 9 → ∀ j, j < rln M i → (cLi M (15 + 6 * i + j)).1 < 9 ∧ M (15 + 6 * i + j) 3 = 0) : Cok (cC M) := by
  rintro h b n ⟨i, hi, hH, rfl, j, hj, rfl, rfl⟩
  have h3 := rln_3 (hW i hi)
  refine ⟨(rhd_14 (hW i hi)).1, rel_14 (hW i hi) (by omega), by unfold ng1; split <;> omega, fun h9 => ?_⟩
  obtain ⟨g1, g2⟩ := hr i hi hH h9 j hj
  refine ⟨g1, ?_⟩
  unfold ng1
  rw [if_pos g2]
/-- rankings are strata -/
theorem Rkg_Sf {M : mM} {s : Nat → Nat} : Rkg (cC M) s ↔ Sf (cR M) s := by
  constructor
  · intro h ρ hρ
    obtain ⟨i, hi, hH, rfl⟩ := hρ
    refine ⟨fun p hp => ?_, fun p hp => ?_⟩
    · obtain ⟨j, hj, h0, rfl⟩ := cPos_mem.mp hp
      have := h (rhd M i) _ _ ⟨i, hi, hH, rfl, j, hj, rfl, rfl⟩
      exact Nat.le_trans (Nat.le_add_right _ _) this
    · obtain ⟨j, hj, h0, rfl⟩ := cNeg_mem.mp hp
      have := h (rhd M i) _ _ ⟨i, hi, hH, rfl, j, hj, rfl, rfl⟩
      have e : ng1 (M (15 + 6 * i + j) 3) = 1 := if_neg h0
      rw [e] at this
      exact this
  · rintro h a b n ⟨i, hi, hH, rfl, j, hj, rfl, rfl⟩
    obtain ⟨h1, h2⟩ := h _ ⟨i, hi, hH, rfl⟩
    unfold ng1
    by_cases h0 : M (15 + 6 * i + j) 3 = 0
    · rw [if_pos h0]
      exact h1 _ (cPos_mem.mpr ⟨j, hj, h0, rfl⟩)
    · rw [if_neg h0]
      exact h2 _ (cNeg_mem.mpr ⟨j, hj, h0, rfl⟩)
theorem ip_eq {M : mM} {X Y : Nat → Int64} (h : EQs M X Y) : ipc X = ipr M Y := by
  funext r c
  exact propext (h.1 r c)
/-- what holds of relations that are not there -/
theorem Sb_emp {R : Ru → Prop} {F I : Ip} {P : Nat → Prop} (h : Sb R F I) (hF : ∀ r c, F r c → P r) (hR : ∀ ρ, R ρ → P ρ.1.1) : ∀ r c, I r c → P r :=
  h.2.2 (fun r _ => P r) hF (fun ρ hρ _ _ => hR ρ hρ)
/-- follow and derive come to the same sets, and count the same changes -/
theorem fd {MC MR : mM} {LC LR : mL} {x : Int32} {R0 : Ru → Prop} {F0 : Ip} {cnt : Nat} (hM : cOK MC) (h96 : ∀ r, r < 14 → ∃ a, a < 6 ∧ MC 96 r = nI a) (hs : Sf (cR MC) (fun r => (MC 96 r).toNatClampNeg)) (hB : B14 x) (hI : Sb R0 F0 (ipc (LC 8))) (hF : ∀ r, r < 14 → ¬ ib x r = true → ∀ c, ipc (LC 7) r c ↔ F0 r c) (hF14 : ∀ r, ¬ r < 14 → ∀ c, ¬ F0 r c) (hR : ∀ ρ, ¬ ib x ρ.1.1 = true → (cR MC ρ ↔ R0 ρ)) (hR14 : ∀ ρ, R0 ρ → ρ.1.1 < 14)
    (hMR : rOK MR) (h114 : ∀ r, r < 14 → ∃ a, a < 6 ∧ MR 114 r = nI a) (hsR : Sf (rR MR) (fun r => (MR 114 r).toNatClampNeg)) (hRR : ∀ ρ, cR MC ρ ↔ rR MR ρ) (hEF : EQs MR (LC 7) (LR 111)) (hET : EQs MR (LC 8) (LR 112)) (hcnt : (MR 109 0).toNatClampNeg = cnt) (hem : ∀ r, cnt ≤ r → ∀ c, ¬ ipr MR (LR 111) r c) (hhd : ∀ ρ, rR MR ρ → ρ.1.1 < cnt) :
    EQs MR (fll MC LC x) (derL MR LR 112) ∧ Sb (rR MR) (ipr MR (LR 111)) (ipr MR (derL MR LR 112)) ∧ (∀ r, cnt ≤ r → ∀ c, ¬ ipr MR (derL MR LR 112) r c) ∧ cch (upr (upr LC 9 (LC 8)) 8 (fll MC LC x)) 14 = dct (derL MR LR) 14 0 0 ∧ ∀ i, i ≠ 112 → i ≠ 113 → derL MR LR i = LR i := by
  have hC := fll_Sb (L := LC) hM h96 hs hB hI hF hF14 hR hR14
  subst hcnt
  obtain ⟨d1, d2, d3, d4⟩ := der_Sb (L := LR) hMR h114 hsR hem hEF.2
  have e1 : cR MC = rR MR := by
    funext ρ
    exact propext (hRR ρ)
  rw [e1, ip_eq hEF] at hC
  have hU := Sb.uq hsR hC d1
  have hE : EQs MR (fll MC LC x) (derL MR LR 112) := ⟨hU, d2⟩
  refine ⟨hE, d1, fun r hr c z => ?_, ?_, d3⟩
  · have := Sb_emp (P := fun r => r < (MR 109 0).toNatClampNeg) d1 (fun r c z => Nat.not_le.mp fun y => hem r y c z) hhd r c z
    omega
  · have h9 : EQs MR ((upr (upr LC 9 (LC 8)) 8 (fll MC LC x)) 9) (derL MR LR 113) := by
      rw [upr_k (by decide), upr_s]
      refine ⟨fun r c => ?_, fun r hr t ht hb => ?_⟩
      · rw [hET.1 r c]
        constructor
        · rintro ⟨hr, t, h1, h2, h3⟩
          exact ⟨hr, t, h1, by rw [d4 r hr]; exact h2, h3⟩
        · rintro ⟨hr, t, h1, h2, h3⟩
          exact ⟨hr, t, h1, by rw [← d4 r hr]; exact h2, h3⟩
      · rw [d4 r hr] at hb
        exact hET.2 r hr t ht hb
    have h8 : EQs MR ((upr (upr LC 9 (LC 8)) 8 (fll MC LC x)) 8) (derL MR LR 112) := by
      rw [upr_s]; exact hE
    have := cch_dct h9 h8 14 0 (by decide)
    exact this.symm
