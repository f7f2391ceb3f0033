theorem ril_c {M M' : mM} {g g' : (Nat → Int32) → Int32 × mL → Int32 × mL} {i : Nat} {v : Nat → Int32} (hS : Sm M M') (hg : ∀ v s, g' v s = g v s) : ∀ n c s, ril g' M' i v n c s = ril g M i v n c s
  | 0, _, _ => rfl
  | n + 1, c, s => by
    obtain ⟨e0, e1, e2, e3, e4⟩ := hS.e
    simp only [ril_s, agk, una, e0, e1, e2, e3, agv_c hS, hg, ril_c hS hg n]
theorem rin_c {M M' : mM} {a m : Nat} {q : Int32} (hS : Sm M M') : ∀ D v s, rin M' a m q D v s = rin M a m q D v s
  | 0, v, s => by
    obtain ⟨e0, e1, e2, e3, e4⟩ := hS.e
    show rlf M' a m q v s = rlf M a m q v s
    simp only [rlf, ngl_c hS, tpo_c hS, e1]
  | D + 1, v, s => by
    obtain ⟨e0, e1, e2, e3, e4⟩ := hS.e
    show (if M' 121 _ = 0 then _ else _) = (if M 121 _ = 0 then _ else _)
    rw [e4, ril_c hS (fun v s => rin_c hS D v s), rin_c hS D v s]
theorem bnl_c {M M' : mM} (hS : Sm M M') : bnl M' 4 = bnl M 4 := by
  funext j
  unfold bnl
  by_cases h : j < 4
  · rw [if_pos h, if_pos h]
  · rw [if_neg h, if_neg h]
    exact hS.2 j (by omega)
theorem ril_P {M : mM} {g : (Nat → Int32) → Int32 × mL → Int32 × mL} {i : Nat} {v : Nat → Int32} {P : Int32 × mL → Prop} (hg : ∀ v s, P s → P (g v s)) : ∀ n c s, P s → P (ril g M i v n c s)
  | 0, _, _, h => h
  | n + 1, c, s, h => by
    rw [ril_s]
    split
    · exact ril_P hg n _ _ (hg _ _ h)
    · exact ril_P hg n _ _ h
theorem rin_P {M : mM} {a m : Nat} {q : Int32} {P : Int32 × mL → Prop} (hg : ∀ v s, P s → P (rlf M a m q v s)) : ∀ D v s, P s → P (rin M a m q D v s)
  | 0, v, s, h => hg v s h
  | D + 1, v, s, h => by
    show P (if M 121 _ = 0 then _ else _)
    split
    · exact ril_P (fun v s => rin_P hg D v s) _ _ _ h
    · exact rin_P hg D v s h
theorem rin_q {M : mM} {a m : Nat} {q : Int32} {L : mL} (hq : ¬ q < 0) (D : Nat) (v : Nat → Int32) (n : Int32) : (rin M a m q D v (n, L)).2 = L := by
  refine rin_P (P := fun s => s.2 = L) (fun v s h => ?_) D v (n, L) rfl
  show (if _ then _ else s.2) = L
  rw [if_neg (fun z => hq z.2)]
  exact h
theorem or_or {a b c : Int64} : (a ||| b) ||| c = a ||| (b ||| c) := Int64.or_assoc a b c
/-- the sets grow -/
def Gr (L L' : mL) : Prop := (∀ k, k ≠ 112 → L' k = L k) ∧ (∀ r, ∃ z, L' 112 r = L 112 r ||| z)
theorem Gr.rfl' {L : mL} : Gr L L := ⟨fun _ _ => rfl, fun r => ⟨0, (Int64.or_zero).symm⟩⟩
theorem Gr.tr {L L' L'' : mL} (h : Gr L L') (h' : Gr L' L'') : Gr L L'' := ⟨fun k hk => (h'.1 k hk).trans (h.1 k hk), fun r => by
  obtain ⟨z, e⟩ := h.2 r
  obtain ⟨z', e'⟩ := h'.2 r
  exact ⟨z ||| z', by rw [e', e, or_or]⟩⟩
theorem rin_G {M : mM} {a m : Nat} {q : Int32} {L : mL} (D : Nat) (v : Nat → Int32) (n : Int32) : Gr L (rin M a m q D v (n, L)).2 := by
  refine rin_P (P := fun s => Gr L s.2) (fun v s h => ?_) D v (n, L) Gr.rfl'
  show Gr L (if _ then _ else s.2)
  split
  · refine h.tr ⟨fun k hk => up2_k hk, fun r => ?_⟩
    by_cases hr : r = (M 118 a).toNatClampNeg
    · subst hr
      exact ⟨_, up2_s⟩
    · exact ⟨0, by rw [up2_j hr, Int64.or_zero]⟩
  · exact h
theorem or_ge {x z : Int64} : x.toBitVec.toNat ≤ (x ||| z).toBitVec.toNat := by
  rw [Int64.toBitVec_or, BitVec.toNat_or]
  exact Nat.left_le_or
/-- how many steps the sets can still grow -/
def phi (L : mL) : Nat → Nat
  | 0 => 0
  | n + 1 => phi L n + (2 ^ 64 - (L 112 n).toBitVec.toNat)
theorem phi_le {L L' : mL} (h : Gr L L') : ∀ n, phi L' n ≤ phi L n
  | 0 => Nat.le_refl _
  | n + 1 => by
    have h1 := phi_le h n
    obtain ⟨z, e⟩ := h.2 n
    have h2 : (L 112 n).toBitVec.toNat ≤ (L' 112 n).toBitVec.toNat := by rw [e]; exact or_ge
    show phi L' n + _ ≤ phi L n + _
    omega
theorem phi_lt {L L' : mL} (h : Gr L L') {r : Nat} (hr : ¬ L 112 r = L' 112 r) : ∀ n, r < n → phi L' n < phi L n
  | 0, h => absurd h (by omega)
  | n + 1, hn => by
    obtain ⟨z, e⟩ := h.2 n
    have h2 : (L 112 n).toBitVec.toNat ≤ (L' 112 n).toBitVec.toNat := by rw [e]; exact or_ge
    have h3 := (L' 112 n).toBitVec.isLt
    show phi L' n + _ < phi L n + _
    by_cases hrn : r = n
    · subst hrn
      have h1 := phi_le h r
      have h4 : (L 112 r).toBitVec.toNat ≠ (L' 112 r).toBitVec.toNat := fun q => hr (Int64.toBitVec_inj.mp (BitVec.eq_of_toNat_eq q))
      omega
    · have h1 := phi_lt h hr n (by omega)
      omega
def stg {α : Type} (f g : Nat → α) (n : Nat) : Nat → α := fun j => if j < n then g j else f j
theorem stg_s {α : Type} {f g : Nat → α} {N : Nat → Nat → α} {k c : Nat} : upr N k (stg f g (c + 1)) = up2 (upr N k (stg f g c)) k c (g c) := by
  funext x y
  unfold up2 upr stg
  by_cases hx : x = k
  · subst hx
    by_cases hy : y = c
    · subst hy
      simp
    · have : (y < c + 1) ↔ (y < c) := by omega
      simp only [this, hy, and_false, if_false, if_true]
  · simp [hx]
theorem stg_0 {α : Type} {f g : Nat → α} : stg f g 0 = f := by
  funext j
  exact if_neg (by omega)
theorem uprL_id {N : mL} {k : Nat} : upr N k (N k) = N := by
  funext a b
  unfold upr
  by_cases h : a = k
  · subst h; simp
  · simp [h]
theorem uprL_c {N : mL} {k k' : Nat} {f g : Nat → Int64} (h : k ≠ k') : upr (upr N k f) k' g = upr (upr N k' g) k f := by
  funext a b
  unfold upr
  by_cases h1 : a = k
  · subst h1
    simp [h]
  · simp [h1]
theorem uprL_up2 {N : mL} {k k' j : Nat} {f : Nat → Int64} {x : Int64} (h : k ≠ k') : up2 (upr N k f) k' j x = upr (up2 N k' j x) k f := by
  funext a b
  unfold upr up2
  by_cases h1 : a = k
  · subst h1
    simp [h]
  · simp [h1]
