/-- the same memory but for the reference's bound, saved and choice -/
def Sm (M M' : mM) : Prop := (∀ a, a ≠ 128 → a ≠ 129 → a ≠ 130 → M' a = M a) ∧ (∀ j, 4 ≤ j → M' 128 j = M 128 j)
def Lo (d : Nat) (M M' : mM) : Prop := ∀ e, e < d → M' 130 e = M 130 e ∧ ∀ j, j < 4 → M' 129 (4 * e + j) = M 129 (4 * e + j)
theorem Sm.tr {M M' M'' : mM} (h : Sm M M') (h' : Sm M' M'') : Sm M M'' := ⟨fun a h1 h2 h3 => (h'.1 a h1 h2 h3).trans (h.1 a h1 h2 h3), fun j hj => (h'.2 j hj).trans (h.2 j hj)⟩
theorem Lo.tr {d : Nat} {M M' M'' : mM} (h : Lo d M M') (h' : Lo d M' M'') : Lo d M M'' := fun e he => ⟨(h' e he).1.trans (h e he).1, fun j hj => ((h' e he).2 j hj).trans ((h e he).2 j hj)⟩
theorem Lo.mono {d d' : Nat} {M M' : mM} (h : Lo d M M') (hd : d' ≤ d) : Lo d' M M' := fun e he => h e (by omega)
theorem Sm.e {M M' : mM} (h : Sm M M') : M' 110 = M 110 ∧ M' 118 = M 118 ∧ M' 119 = M 119 ∧ M' 120 = M 120 ∧ M' 121 = M 121 := ⟨h.1 110 (by decide) (by decide) (by decide), h.1 118 (by decide) (by decide) (by decide), h.1 119 (by decide) (by decide) (by decide), h.1 120 (by decide) (by decide) (by decide), h.1 121 (by decide) (by decide) (by decide)⟩
theorem tpo_c {M M' : mM} (h : Sm M M') (v : Nat → Int32) (i : Nat) : tpo M' v i = tpo M v i := by
  obtain ⟨e0, e1, e2, e3, e4⟩ := h.e
  simp only [tpo, una, e0, e1, e2, e3]
theorem agv_c {M M' : mM} (h : Sm M M') (v : Nat → Int32) (i : Nat) (x : Int32) : agv M' v i x = agv M v i x := by
  obtain ⟨e0, e1, e2, e3, e4⟩ := h.e
  simp only [agv, una, e0, e1, e2, e3]
theorem rok_c {M M' : mM} (h : Sm M M') {i : Nat} (hr : rok M i) : rok M' i := by
  obtain ⟨e0, e1, e2, e3, e4⟩ := h.e
  unfold rok
  rw [e0, e1, e2, e3, e4]
  exact hr
theorem ngl_c {M M' : mM} (h : Sm M M') (L : mL) (v : Nat → Int32) : ∀ n i, ngl M' L v n i = ngl M L v n i
  | 0, _ => rfl
  | n + 1, i => by
    obtain ⟨e0, e1, e2, e3, e4⟩ := h.e
    simp only [ngl, tpo_c h, e1, e4, ngl_c h L v n (i + 1)]
theorem fnd_c {M M' : mM} (h : Sm M M') (t : Int64) (v : Nat → Int32) (i : Nat) : ∀ n c, fnd M' t v i n c = fnd M t v i n c
  | 0, _ => rfl
  | n + 1, c => by
    obtain ⟨e0, e1, e2, e3, e4⟩ := h.e
    simp only [fnd, agk, una, e0, e1, e2, e3, fnd_c h t v i n (c + 1)]
def ril (g : (Nat → Int32) → Int32 × mL → Int32 × mL) (M : mM) (i : Nat) (v : Nat → Int32) : Nat → Nat → Int32 × mL → Int32 × mL
  | 0, _, s => s
  | n + 1, c, s => if sb (s.2 112 (M 118 i).toNatClampNeg) (nI c) = 1 ∧ agk M v i (nI c) then ril g M i v n (c + 1) (g (agv M v i (nI c)) s) else ril g M i v n (c + 1) s
/-- what a full match of a body adds: to the number asked for, and to the head's set -/
def rlf (M : mM) (a m : Nat) (q : Int32) (v : Nat → Int32) (s : Int32 × mL) : Int32 × mL := (s.1 + b2 (ngl M s.2 v (m - 1) (a + 1) = true ∧ tpo M v a = q), if ngl M s.2 v (m - 1) (a + 1) = true ∧ q < 0 then up2 s.2 112 (M 118 a).toNatClampNeg (s.2 112 (M 118 a).toNatClampNeg ||| (1 <<< ((tpo M v a).toInt64 &&& 63))) else s.2)
/-- the reference's matches of a body's last D literals -/
def rin (M : mM) (a m : Nat) (q : Int32) : Nat → (Nat → Int32) → Int32 × mL → Int32 × mL
  | 0, v, s => rlf M a m q v s
  | D + 1, v, s => if M 121 (a + (m - (D + 1))) = 0 then ril (rin M a m q D) M (a + (m - (D + 1))) v 36 0 s else rin M a m q D v s
def rst (M : mM) (a m : Nat) (q : Int32) (D : Nat) (v : Nat → Int32) (c : Nat) (s : Int32 × mL) : Int32 × mL := if M 121 (a + (m - (D + 1))) = 0 then ril (rin M a m q D) M (a + (m - (D + 1))) v (36 - c) c s else if c = 0 then rin M a m q D v s else s
theorem ril_s {g : (Nat → Int32) → Int32 × mL → Int32 × mL} {M : mM} {i : Nat} {v : Nat → Int32} (n c : Nat) (s : Int32 × mL) : ril g M i v (n + 1) c s = if sb (s.2 112 (M 118 i).toNatClampNeg) (nI c) = 1 ∧ agk M v i (nI c) then ril g M i v n (c + 1) (g (agv M v i (nI c)) s) else ril g M i v n (c + 1) s := rfl
theorem ril_no {g : (Nat → Int32) → Int32 × mL → Int32 × mL} {M : mM} {i : Nat} {v : Nat → Int32} : ∀ n c s, fnd M (s.2 112 (M 118 i).toNatClampNeg) v i n c = none → ril g M i v n c s = s
  | 0, _, _, _ => rfl
  | n + 1, c, s, h => by
    unfold fnd at h
    rw [ril_s n c s]
    split at h
    · exact absurd h (by simp)
    · rename_i h1
      rw [if_neg h1]
      exact ril_no n (c + 1) s h
theorem ril_yes {g : (Nat → Int32) → Int32 × mL → Int32 × mL} {M : mM} {i : Nat} {v : Nat → Int32} {c' : Nat} : ∀ n c s, fnd M (s.2 112 (M 118 i).toNatClampNeg) v i n c = some c' → c ≤ c' ∧ c' < c + n ∧ ril g M i v n c s = ril g M i v (n + c - (c' + 1)) (c' + 1) (g (agv M v i (nI c')) s)
  | 0, _, _, h => absurd h (by simp [fnd])
  | n + 1, c, s, h => by
    unfold fnd at h
    rw [ril_s n c s]
    split at h
    · rename_i h1
      injection h with h
      subst h
      rw [if_pos h1, show n + 1 + c - (c + 1) = n by omega]
      exact ⟨by omega, by omega, rfl⟩
    · rename_i h1
      rw [if_neg h1]
      obtain ⟨z1, z2, z3⟩ := ril_yes n (c + 1) s h
      rw [z3, show n + (c + 1) - (c' + 1) = n + 1 + c - (c' + 1) by omega]
      exact ⟨by omega, by omega, rfl⟩
/-- the memory at the next depth -/
theorem dpr_f {M' : mM} {d : Nat} {v : Nat → Int32} {y : Int32} (hd : d < 4) (hv : ∀ j, 4 ≤ j → v j = M' 128 j) : Sm M' (dpr (up2 (upr M' 128 v) 130 d y) d) ∧ Lo d M' (dpr (up2 (upr M' 128 v) 130 d y) d) ∧ dpr (up2 (upr M' 128 v) 130 d y) d 128 = v ∧ dpr (up2 (upr M' 128 v) 130 d y) d 130 d = y ∧ (∀ j, j < 4 → dpr (up2 (upr M' 128 v) 130 d y) d 129 (4 * d + j) = M' 129 (4 * d + j)) ∧ (d < 3 → dpr (up2 (upr M' 128 v) 130 d y) d 130 (d + 1) = 0 ∧ ∀ j, j < 4 → dpr (up2 (upr M' 128 v) 130 d y) d 129 (4 * (d + 1) + j) = v j) := by
  unfold dpr
  by_cases h : d < 3
  · rw [if_pos h]
    refine ⟨⟨fun a h1 h2 h3 => ?_, fun j hj => ?_⟩, fun e he => ⟨?_, fun j hj => ?_⟩, ?_, ?_, fun j hj => ?_, fun _ => ⟨up2_s, fun j hj => ?_⟩⟩
    · rw [up2_k h3, upr_k h2, up2_k h3, upr_k h1]
    · show v j = _
      exact hv j hj
    · rw [up2_j (by omega), upr_k (by decide), up2_j (by omega), upr_k (by decide)]
    · show kpv _ (d + 1) 4 (4 * e + j) = _
      unfold kpv
      rw [if_neg (by omega)]
      rfl
    · rw [up2_k (by decide), upr_k (by decide), up2_k (by decide), upr_s]
    · rw [up2_j (by omega), upr_k (by decide), up2_s]
    · show kpv _ (d + 1) 4 (4 * d + j) = _
      unfold kpv
      rw [if_neg (by omega)]
      rfl
    · show kpv _ (d + 1) 4 (4 * (d + 1) + j) = _
      unfold kpv
      rw [if_pos (by omega), show 4 * (d + 1) + j - 4 * (d + 1) = j by omega]
      rfl
  · rw [if_neg h]
    refine ⟨⟨fun a h1 h2 h3 => ?_, fun j hj => ?_⟩, fun e he => ⟨?_, fun j hj => ?_⟩, ?_, ?_, fun j hj => ?_, fun z => absurd z h⟩
    · rw [up2_k h3, upr_k h1]
    · show v j = _
      exact hv j hj
    · rw [up2_j (by omega), upr_k (by decide)]
    · rfl
    · rw [up2_k (by decide), upr_s]
    · rw [up2_s]
    · rfl
def rW (M : mM) (a m : Nat) (q : Int32) (D : Nat) (v : Nat → Int32) (c : Nat) (s : Int32 × mL) : Int32 × mL := match D with
  | 0 => rlf M a m q v s
  | D + 1 => rst M a m q D v c s
theorem rW_0 {M : mM} {a m : Nat} {q : Int32} {D : Nat} {v : Nat → Int32} {s : Int32 × mL} : rW M a m q D v 0 s = rin M a m q D v s := by
  cases D with
  | zero => rfl
  | succ D =>
    show (if M 121 (a + (m - (D + 1))) = 0 then ril (rin M a m q D) M (a + (m - (D + 1))) v (36 - 0) 0 s else if 0 = 0 then rin M a m q D v s else s) = (if M 121 (a + (m - (D + 1))) = 0 then ril (rin M a m q D) M (a + (m - (D + 1))) v 36 0 s else rin M a m q D v s)
    rw [if_pos (rfl : (0 : Nat) = 0)]
def bnl (M : mM) (n : Nat) : Nat → Int32 := fun j => if j < n then -1 else M 128 j
theorem rsv_e {M : mM} {d : Nat} {v : Nat → Int32} (h : ∀ j, j < 4 → M 129 (4 * d + j) = v j) (h' : ∀ j, 4 ≤ j → v j = M 128 j) : rsv M d 4 = v := by
  funext j
  unfold rsv
  by_cases hj : j < 4
  · rw [if_pos hj, h j hj]
  · rw [if_neg hj, h' j (by omega)]
