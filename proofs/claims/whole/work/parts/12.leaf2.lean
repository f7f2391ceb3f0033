def vbt (t : Int32) : Int32 := if t < 10 then 0 else 1 <<< (t &&& 31)
def ibt (s r : Int32) : Int32 := s >>> (r &&& 31) &&& 1
def ush (x : Int64) (k : Int32) : Int64 := (x.toUInt64 >>> (k.toInt64.toUInt64 &&& Int64.toUInt64 63)).toInt64
def bcA (x : Int64) : Int64 := x - (ush x 1 &&& 6148914691236517205)
def bcB (x : Int64) : Int64 := (x &&& 3689348814741910323) + (ush x 2 &&& 3689348814741910323)
def bcC (x : Int64) : Int64 := (x + ush x 4) &&& 1085102592571150095
def bcS (k : Int32) (x : Int64) : Int64 := x + ush x k
def bc (x : Int64) : Int32 := (bcS 32 (bcS 16 (bcS 8 (bcC (bcB (bcA x)))))).toInt32 &&& 127
def rtf (L : Nat → Nat → Int64) (s : Int32) (n : Nat) : Nat → Nat → Int64 := upr L 8 (fun r => if r < n ∧ ¬ ibt s (nI r) = 0 then L 7 r else L 8 r)
theorem rtf_y {L : Nat → Nat → Int64} {s : Int32} {n : Nat} (h : ¬ ibt s (nI n) = 0) : up2 (rtf L s n) 8 n (rtf L s n 7 n) = rtf L s (n + 1) := by
  funext a b
  unfold rtf up2 upr
  by_cases ha : a = 8
  · subst ha
    by_cases hb : b = n
    · subst hb
      simp [h]
    · have : (b < n + 1) ↔ b < n := by omega
      simp [hb, this]
  · simp [ha]
theorem rtf_n {L : Nat → Nat → Int64} {s : Int32} {n : Nat} (h : ibt s (nI n) = 0) : rtf L s n = rtf L s (n + 1) := by
  funext a b
  unfold rtf upr
  by_cases ha : a = 8
  · subst ha
    by_cases hb : b = n
    · subst hb
      simp [h]
    · have : (b < n + 1) ↔ b < n := by omega
      simp [this]
  · simp [ha]
theorem rtf_0 {L : Nat → Nat → Int64} {s : Int32} : rtf L s 0 = L := by
  funext a b
  unfold rtf upr
  by_cases ha : a = 8
  · subst ha; simp
  · simp [ha]
def cch (L : Nat → Nat → Int64) : Nat → Int32
  | 0 => 0
  | n + 1 => cch L n + bc (L 9 n ^^^ L 8 n)
def fo (M : Nat → Nat → Int32) (x : Int32) : Nat → Int64
  | 0 => 0
  | n + 1 => if M 2 n = x then fo M x n ||| (1 <<< ((M 3 n * 6 + M 4 n).toInt64 &&& 63)) else fo M x n
def cst (M : Nat → Nat → Int32) : Nat → Int32
  | 0 => 0
  | n + 1 => if M 2 n = -1 then cst M n else cst M n + 1
def ll (M : Nat → Nat → Int32) (x a b : Int32) : Nat → Nat → Int32
  | 0, _ => -1
  | n + 1, i => if M 2 i = x ∧ M 3 i = a ∧ M 4 i = b then nI i else ll M x a b n (i + 1)
def flI (μ : Mm) (k : Nat) (v : Int32) : Mm := match μ with | (n, f, g, z) => (n, upr f k (fun j => if j < (kd k).2 then v else f k j), g, z)
theorem fil_s {f : Nat → Nat → Int32} {k i : Nat} {v : Int32} : up2 (upr f k (fun j => if j < i then v else f k j)) k i v = upr f k (fun j => if j < i + 1 then v else f k j) := by
  funext a b
  unfold up2 upr
  by_cases ha : a = k
  · subst ha
    by_cases hb : b = i
    · subst hb; simp
    · have : (b < i + 1) ↔ b < i := by omega
      simp [hb, this]
  · simp [ha]
theorem fil_0 {f : Nat → Nat → Int32} {k : Nat} {v : Int32} : upr f k (fun j => if j < 0 then v else f k j) = f := by
  funext a b
  unfold upr
  by_cases ha : a = k
  · subst ha; simp
  · simp [ha]

theorem dn_PF_isIn : y_PF_isIn.cls ≠ "java/lang/invoke/MethodHandle" ∧ y_PF_isIn.cls ≠ "java/lang/invoke/VarHandle" ∧ (parseMethodDescriptor y_PF_isIn.desc).map (fun d => d.parameters.length) = some 2 := by decide +kernel
abbrev pr_PF_isIn : List Value → Mm → Prop := a_II (fun x0 x1 μ => FM μ ∧ (True))
abbrev po_PF_isIn : List Value → Mm → Option Value → Mm → Prop := b_II (fun x0 x1 μ r μ' => r = some (.int (b2 (¬ ibt x1 x0 = 0))) ∧ μ' = μ)
theorem ft_PF_isIn : ∀ as μ, pr_PF_isIn as μ → μ.1 + 0 ≤ 131 ∧ cz μ.1 + 0 ≤ cz 131 := hf_S (n := 131) (Nat.le_refl _) (fun as μ h => by
  obtain ⟨x0, x1, rfl, h⟩ := a_II_e h
  exact h.1.1)
theorem nc_PF_isIn : ∀ x ∈ k_PF_isIn, isInv x.2.1 = false := by decide +kernel
set_option maxRecDepth 100000 in
set_option maxHeartbeats 4000000 in
theorem c_PF_isIn : Cn y_PF_isIn b_PF_isIn 2 (some .boolean) (rmm 0 0 0) 2 0 0 pr_PF_isIn po_PF_isIn := cn_II (f := fun x0 x1 μ => FM μ ∧ (True)) (g := fun x0 x1 μ r μ' => r = some (.int (b2 (¬ ibt x1 x0 = 0))) ∧ μ' = μ) fun l x0 x1 μ h => by
  obtain ⟨hm, h⟩ := h
  obtain ⟨M, L, rfl⟩ := hm.e
  refine ky_met (own := R_PF) (ini := 0) (rb := 1) (nE := 131) (cd := k_PF_isIn) (C := (fun _ _ _ _ => False)) (by decide) rfl (fun h => by cases h) (Nat.le_of_ble_eq_true rfl) ⟨rfl, rfl⟩ (Or.inr (Or.inl ⟨rfl, rfl⟩)) rfl rfl (by decide) ok_PF_isIn (fun x hx => CS.no (nc_PF_isIn x hx)) rt_PF_isIn (fun K hs => ?_)
  refine hs.go [] 30 _ _ _ _ ⟨fun h1 => ⟨rfl, fun _ => Or.inl rfl, ?_, rfl⟩, fun h1 => ⟨rfl, fun _ => Or.inr rfl, ?_, rfl⟩⟩
  · exact vb_f (fun z => z h1)
  · exact vb_t h1

theorem dn_PF_isTerm : y_PF_isTerm.cls ≠ "java/lang/invoke/MethodHandle" ∧ y_PF_isTerm.cls ≠ "java/lang/invoke/VarHandle" ∧ (parseMethodDescriptor y_PF_isTerm.desc).map (fun d => d.parameters.length) = some 1 := by decide +kernel
abbrev pr_PF_isTerm : List Value → Mm → Prop := a_I (fun x0 μ => FM μ ∧ (True))
abbrev po_PF_isTerm : List Value → Mm → Option Value → Mm → Prop := b_I (fun x0 μ r μ' => r = some (.int (b2 ((0 ≤ x0 ∧ x0 < 6) ∨ (10 ≤ x0 ∧ x0 ≤ 13)))) ∧ μ' = μ)
theorem ft_PF_isTerm : ∀ as μ, pr_PF_isTerm as μ → μ.1 + 0 ≤ 131 ∧ cz μ.1 + 0 ≤ cz 131 := hf_S (n := 131) (Nat.le_refl _) (fun as μ h => by
  obtain ⟨x0, rfl, h⟩ := a_I_e h
  exact h.1.1)
def C_PF_isTerm : Cf := fun id => match id with
  | 0 => trF 1 pr_PF_isValue po_PF_isValue
  | _ => fun _ _ _ => False
set_option maxRecDepth 100000 in
theorem cs_PF_isTerm (l : Launch) : ∀ x ∈ k_PF_isTerm, CS l R_PF b_PF_isTerm 1 (rmm 1 0 0) 131 131 C_PF_isTerm x := fc (CS.no rfl) (fc (CS.S c_PF_isValue wk_PF_isValue wl_PF_116 wt_PF_isValue wi_PF dn_PF_isValue ⟨rfl, rfl⟩ ⟨by decide, by decide⟩ ft_PF_isValue rfl (e_PF_isTerm_1).1) (fc (CS.no rfl) (fc (CS.no rfl) (fc (CS.no rfl) (fc (CS.no rfl) (fc (CS.no rfl) (fc (CS.no rfl) (fc (CS.no rfl) (fc (CS.no rfl) (fc (CS.no rfl) (fc (CS.no rfl) (fc (CS.no rfl) (fun _ h => absurd h List.not_mem_nil)))))))))))))
set_option maxRecDepth 100000 in
set_option maxHeartbeats 4000000 in
theorem c_PF_isTerm : Cn y_PF_isTerm b_PF_isTerm 1 (some .boolean) (rmm 1 0 0) 1 0 0 pr_PF_isTerm po_PF_isTerm := cn_I (f := fun x0 μ => FM μ ∧ (True)) (g := fun x0 μ r μ' => r = some (.int (b2 ((0 ≤ x0 ∧ x0 < 6) ∨ (10 ≤ x0 ∧ x0 ≤ 13)))) ∧ μ' = μ) fun l x0 μ h => by
  obtain ⟨hm, h⟩ := h
  obtain ⟨M, L, rfl⟩ := hm.e
  refine ky_met (own := R_PF) (ini := 0) (rb := 1) (nE := 131) (cd := k_PF_isTerm) (C := C_PF_isTerm) (by decide) rfl (fun h => by cases h) (Nat.le_of_ble_eq_true rfl) ⟨rfl, rfl⟩ (Or.inr (Or.inl ⟨rfl, rfl⟩)) rfl rfl (by decide) ok_PF_isTerm (cs_PF_isTerm l) rt_PF_isTerm (fun K hs => ?_)
  refine hs.go [] 30 _ _ _ _ ⟨⟨⟨rfl, rfl⟩, trivial⟩, rfl, rfl, ?_⟩
  rintro _ _ ⟨rfl, rfl⟩
  by_cases h1 : 0 ≤ x0 ∧ x0 < 6
  · rw [show b2 (0 ≤ x0 ∧ x0 < 6) = 1 from b2_t h1]
    exact ⟨fun _ => ⟨rfl, fun _ => Or.inr rfl, vb_t (Or.inl h1), rfl⟩, fun z => absurd z (by decide)⟩
  · rw [show b2 (0 ≤ x0 ∧ x0 < 6) = 0 from b2_f h1]
    refine ⟨fun z => absurd rfl z, fun _ => ⟨fun h2 => ⟨rfl, fun _ => Or.inl rfl, ?_, rfl⟩, fun h2 => ⟨fun h3 => ⟨rfl, fun _ => Or.inl rfl, ?_, rfl⟩, fun h3 => ⟨rfl, fun _ => Or.inr rfl, ?_, rfl⟩⟩⟩⟩
    · exact vb_f (fun z => z.elim h1 (fun z => Int32.not_lt.mpr z.1 h2))
    · exact vb_f (fun z => z.elim h1 (fun z => Int32.not_lt.mpr z.2 h3))
    · exact vb_t (Or.inr ⟨Int32.not_lt.mp h2, Int32.not_lt.mp h3⟩)

theorem dn_LG_bitCount : y_LG_bitCount.cls ≠ "java/lang/invoke/MethodHandle" ∧ y_LG_bitCount.cls ≠ "java/lang/invoke/VarHandle" ∧ (parseMethodDescriptor y_LG_bitCount.desc).map (fun d => d.parameters.length) = some 1 := by decide +kernel
abbrev pr_LG_bitCount : List Value → Mm → Prop := a_J (fun x0 μ => FM μ ∧ (True))
abbrev po_LG_bitCount : List Value → Mm → Option Value → Mm → Prop := b_J (fun x0 μ r μ' => r = some (.int (bc x0)) ∧ μ' = μ)
theorem ft_LG_bitCount : ∀ as μ, pr_LG_bitCount as μ → μ.1 + 0 ≤ 131 ∧ cz μ.1 + 0 ≤ cz 131 := hf_S (n := 131) (Nat.le_refl _) (fun as μ h => by
  obtain ⟨x0, rfl, h⟩ := a_J_e h
  exact h.1.1)
theorem nc_LG_bitCount : ∀ x ∈ k_LG_bitCount, isInv x.2.1 = false := by decide +kernel
set_option maxRecDepth 100000 in
set_option maxHeartbeats 4000000 in
theorem c_LG_bitCount : Cn y_LG_bitCount b_LG_bitCount 2 (some .int) (rmm 0 0 0) 1 0 0 pr_LG_bitCount po_LG_bitCount := cn_J (f := fun x0 μ => FM μ ∧ (True)) (g := fun x0 μ r μ' => r = some (.int (bc x0)) ∧ μ' = μ) fun l x0 μ h => by
  obtain ⟨hm, h⟩ := h
  obtain ⟨M, L, rfl⟩ := hm.e
  refine ky_met (own := R_LG) (ini := 0) (rb := 0) (nE := 131) (cd := k_LG_bitCount) (C := (fun _ _ _ _ => False)) (by decide) rfl (fun h => by cases h) (Nat.le_of_ble_eq_true rfl) ⟨rfl, rfl⟩ (Or.inl ⟨rfl, rfl⟩) rfl rfl (by decide) ok_LG_bitCount (fun x hx => CS.no (nc_LG_bitCount x hx)) rt_LG_bitCount (fun K hs => ?_)
  exact hs.go [] 60 _ _ _ _ ⟨rfl, rfl, rfl, rfl, rfl, rfl, rfl, fun z => (by cases z), rfl, rfl⟩

theorem dn_RS_returnToFacts : y_RS_returnToFacts.cls ≠ "java/lang/invoke/MethodHandle" ∧ y_RS_returnToFacts.cls ≠ "java/lang/invoke/VarHandle" ∧ (parseMethodDescriptor y_RS_returnToFacts.desc).map (fun d => d.parameters.length) = some 1 := by decide +kernel
abbrev pr_RS_returnToFacts : List Value → Mm → Prop := preV 2 (fun k => a_I (fun x0 μ => FM μ ∧ (k = 5)))
abbrev po_RS_returnToFacts : List Value → Mm → Option Value → Mm → Prop := qV (fun k => b_I (fun x0 μ r μ' => r = none ∧ μ' = (131, μ.2.1, rtf μ.2.2.1 x0 14, TT)))
theorem ft_RS_returnToFacts : ∀ as μ, pr_RS_returnToFacts as μ → μ.1 + 0 ≤ 131 ∧ cz μ.1 + 0 ≤ cz 131 := hf_S (n := 131) (Nat.le_refl _) (fun as μ h => by
  obtain ⟨k, r, rfl, hk, h⟩ := preV_e h
  obtain ⟨x0, rfl, h⟩ := a_I_e h
  exact h.1.1)
def C_RS_returnToFacts : Cf := fun id => match id with
  | 0 => trF 2 pr_PF_isIn po_PF_isIn
  | _ => fun _ _ _ => False
set_option maxRecDepth 100000 in
theorem cs_RS_returnToFacts (l : Launch) : ∀ x ∈ k_RS_returnToFacts, CS l R_RS b_RS_returnToFacts 3 (rmm 1 0 0) 131 131 C_RS_returnToFacts x := fc (CS.no rfl) (fc (CS.no rfl) (fc (CS.no rfl) (fc (CS.no rfl) (fc (CS.no rfl) (fc (CS.no rfl) (fc (CS.no rfl) (fc (CS.SN c_PF_isIn wk_PF_isIn (host := R_PF) (List.mem_of_getElem? (i := 4) rfl) wt_PF_isIn wi_PF dn_PF_isIn ⟨rfl, rfl⟩ ⟨by decide, by decide⟩ ft_PF_isIn rfl (e_RS_returnToFacts_10).1) (fc (CS.no rfl) (fc (CS.no rfl) (fc (CS.no rfl) (fc (CS.no rfl) (fc (CS.no rfl) (fc (CS.no rfl) (fc (CS.no rfl) (fc (CS.no rfl) (fc (CS.no rfl) (fc (CS.no rfl) (fc (CS.no rfl) (fc (CS.no rfl) (fun _ h => absurd h List.not_mem_nil))))))))))))))))))))
set_option maxRecDepth 100000 in
set_option maxHeartbeats 4000000 in
theorem c_RS_returnToFacts : Cn y_RS_returnToFacts b_RS_returnToFacts 3 none (rmm 1 0 0) (1 + 1) 0 0 pr_RS_returnToFacts po_RS_returnToFacts := cv_I (ci := 2) (f := fun k => fun x0 μ => FM μ ∧ (k = 5)) (g := fun k => fun x0 μ r μ' => r = none ∧ μ' = (131, μ.2.1, rtf μ.2.2.1 x0 14, TT)) fun l k x0 μ hk h => by
  obtain ⟨hm, h⟩ := h
  obtain ⟨M, L, rfl⟩ := hm.e
  refine ky_met (own := R_RS) (ini := 0) (rb := 3) (nE := 131) (cd := k_RS_returnToFacts) (C := C_RS_returnToFacts) (by decide) rfl (fun h => by cases h) (Nat.le_of_ble_eq_true rfl) ⟨rfl, rfl⟩ (Or.inr (Or.inr (Or.inr ⟨rfl, rfl⟩))) rfl rfl (by decide) ok_RS_returnToFacts (cs_RS_returnToFacts l) rt_RS_returnToFacts (fun K hs => ?_)
  subst h
  have loop : ∀ (n c : Nat), c + n = 14 → K 2 [some (.ref 5), some (.int x0), some (.int (nI c))] [] (131, M, rtf L x0 c, TT) := by
    intro n
    induction n with
    | zero =>
      intro c hc
      rw [show c = 14 by omega]
      exact hs.go [2] 30 _ _ _ _ ⟨fun _ => ⟨rfl, rfl, rfl⟩, fun z => absurd (Int32.le_refl _) z⟩
    | succ n ih =>
      intro c hc
      have h9 := ih (c + 1) (by omega)
      rw [nI_succ] at h9
      refine hs.go [2] 30 _ _ _ _ ⟨fun z => absurd z (nI_ge (a := c) (b := 14) (by omega) (by decide)), fun _ => ⟨⟨⟨rfl, rfl⟩, trivial⟩, rfl, rfl, ?_⟩⟩
      rintro _ _ ⟨rfl, rfl⟩
      by_cases hb : ibt x0 (nI c) = 0
      · rw [show b2 (¬ ibt x0 (nI c) = 0) = 0 from b2_f (fun z => z hb)]
        rw [← rtf_n hb] at h9
        exact ⟨fun _ => h9, fun z => absurd rfl z⟩
      · rw [show b2 (¬ ibt x0 (nI c) = 0) = 1 from b2_t hb]
        have hin : vp_in (nI c) 14 := vp_in_nI (by omega) (by decide)
        refine ⟨fun z => absurd z (by decide), fun _ => ⟨rfl, _, rfl, rfl, _, rfl, rfl, hin, rfl, hin, ?_⟩⟩
        rw [← rtf_y hb] at h9
        rw [← nI_clamp (n := c) (by omega)] at h9
        rw [nI_clamp (n := c) (by omega)] at h9
        show K 2 _ _ (131, M, up2 (rtf L x0 c) 8 (nI c).toNatClampNeg (rtf L x0 c 7 (nI c).toNatClampNeg), TT)
        rw [nI_clamp (n := c) (by omega)]
        exact h9
  have h0 := loop 14 0 rfl
  rw [rtf_0] at h0
  exact hs.go [2] 30 _ _ _ _ h0

theorem dn_RS_countChanges : y_RS_countChanges.cls ≠ "java/lang/invoke/MethodHandle" ∧ y_RS_countChanges.cls ≠ "java/lang/invoke/VarHandle" ∧ (parseMethodDescriptor y_RS_countChanges.desc).map (fun d => d.parameters.length) = some 0 := by decide +kernel
abbrev pr_RS_countChanges : List Value → Mm → Prop := preV 2 (fun k => a_0 (fun μ => FM μ ∧ (k = 5)))
abbrev po_RS_countChanges : List Value → Mm → Option Value → Mm → Prop := qV (fun k => b_0 (fun μ r μ' => r = some (.int (cch μ.2.2.1 14)) ∧ μ' = μ))
theorem ft_RS_countChanges : ∀ as μ, pr_RS_countChanges as μ → μ.1 + 0 ≤ 131 ∧ cz μ.1 + 0 ≤ cz 131 := hf_S (n := 131) (Nat.le_refl _) (fun as μ h => by
  obtain ⟨k, r, rfl, hk, h⟩ := preV_e h
  obtain ⟨rfl, h⟩ := a_0_e h
  exact h.1.1)
def C_RS_countChanges : Cf := fun id => match id with
  | 0 => trF 1 pr_LG_bitCount po_LG_bitCount
  | _ => fun _ _ _ => False
set_option maxRecDepth 100000 in
theorem cs_RS_countChanges (l : Launch) : ∀ x ∈ k_RS_countChanges, CS l R_RS b_RS_countChanges 3 (rmm 1 0 0) 131 131 C_RS_countChanges x := fc (CS.no rfl) (fc (CS.no rfl) (fc (CS.no rfl) (fc (CS.no rfl) (fc (CS.no rfl) (fc (CS.no rfl) (fc (CS.no rfl) (fc (CS.no rfl) (fc (CS.no rfl) (fc (CS.no rfl) (fc (CS.no rfl) (fc (CS.no rfl) (fc (CS.no rfl) (fc (CS.no rfl) (fc (CS.no rfl) (fc (CS.no rfl) (fc (CS.no rfl) (fc (CS.S c_LG_bitCount wk_LG_bitCount wl_RS_62 wt_LG_bitCount wi_LG dn_LG_bitCount ⟨rfl, rfl⟩ ⟨by decide, by decide⟩ ft_LG_bitCount rfl (e_RS_countChanges_24).1) (fc (CS.no rfl) (fc (CS.no rfl) (fc (CS.no rfl) (fc (CS.no rfl) (fc (CS.no rfl) (fc (CS.no rfl) (fun _ h => absurd h List.not_mem_nil))))))))))))))))))))))))
set_option maxRecDepth 100000 in
set_option maxHeartbeats 4000000 in
theorem c_RS_countChanges : Cn y_RS_countChanges b_RS_countChanges 3 (some .int) (rmm 1 0 0) (0 + 1) 0 0 pr_RS_countChanges po_RS_countChanges := cv_0 (ci := 2) (f := fun k => fun μ => FM μ ∧ (k = 5)) (g := fun k => fun μ r μ' => r = some (.int (cch μ.2.2.1 14)) ∧ μ' = μ) fun l k  μ hk h => by
  obtain ⟨hm, h⟩ := h
  obtain ⟨M, L, rfl⟩ := hm.e
  refine ky_met (own := R_RS) (ini := 0) (rb := 0) (nE := 131) (cd := k_RS_countChanges) (C := C_RS_countChanges) (by decide) rfl (fun h => by cases h) (Nat.le_of_ble_eq_true rfl) ⟨rfl, rfl⟩ (Or.inl ⟨rfl, rfl⟩) rfl rfl (by decide) ok_RS_countChanges (cs_RS_countChanges l) rt_RS_countChanges (fun K hs => ?_)
  subst h
  have loop : ∀ (n c : Nat), c + n = 14 → K 4 [some (.ref 5), some (.int (cch L c)), some (.int (nI c))] [] (131, M, L, TT) := by
    intro n
    induction n with
    | zero =>
      intro c hc
      rw [show c = 14 by omega]
      exact hs.go [4] 30 _ _ _ _ ⟨fun _ => ⟨rfl, fun z => (by cases z), rfl, rfl⟩, fun z => absurd (Int32.le_refl _) z⟩
    | succ n ih =>
      intro c hc
      have h9 := ih (c + 1) (by omega)
      rw [nI_succ] at h9
      have hin : vp_in (nI c) 14 := vp_in_nI (by omega) (by decide)
      refine hs.go [4] 30 _ _ _ _ ⟨fun z => absurd z (nI_ge (a := c) (b := 14) (by omega) (by decide)), fun _ => ⟨rfl, _, rfl, rfl, hin, rfl, _, rfl, rfl, hin, ⟨⟨rfl, rfl⟩, trivial⟩, rfl, rfl, ?_⟩⟩
      rintro _ _ ⟨rfl, rfl⟩
      show K 4 [some (.ref 5), some (.int (cch L c + bc (L 9 (nI c).toNatClampNeg ^^^ L 8 (nI c).toNatClampNeg))), some (.int (nI c + 1))] [] (131, M, L, TT)
      rw [nI_clamp (n := c) (by omega)]
      exact h9
  exact hs.go [4] 30 _ _ _ _ (loop 14 0 rfl)

theorem dn_PG_write : y_PG_write.cls ≠ "java/lang/invoke/MethodHandle" ∧ y_PG_write.cls ≠ "java/lang/invoke/VarHandle" ∧ (parseMethodDescriptor y_PG_write.desc).map (fun d => d.parameters.length) = some 4 := by decide +kernel
abbrev pr_PG_write : List Value → Mm → Prop := preV 1 (fun k => a_IIII (fun x0 x1 x2 x3 μ => FM μ ∧ (k = 1 ∧ vp_in x0 12)))
abbrev po_PG_write : List Value → Mm → Option Value → Mm → Prop := qV (fun k => b_IIII (fun x0 x1 x2 x3 μ r μ' => r = none ∧ μ' = sI (sI (sI μ 2 x0.toNatClampNeg x1) 3 x0.toNatClampNeg x2) 4 x0.toNatClampNeg x3))
theorem ft_PG_write : ∀ as μ, pr_PG_write as μ → μ.1 + 0 ≤ 131 ∧ cz μ.1 + 0 ≤ cz 131 := hf_S (n := 131) (Nat.le_refl _) (fun as μ h => by
  obtain ⟨k, r, rfl, hk, h⟩ := preV_e h
  obtain ⟨x0, x1, x2, x3, rfl, h⟩ := a_IIII_e h
  exact h.1.1)
theorem nc_PG_write : ∀ x ∈ k_PG_write, isInv x.2.1 = false := by decide +kernel
set_option maxRecDepth 100000 in
set_option maxHeartbeats 4000000 in
theorem c_PG_write : Cn y_PG_write b_PG_write 5 none (rmm 0 0 0) (4 + 1) 0 0 pr_PG_write po_PG_write := cv_IIII (ci := 1) (f := fun k => fun x0 x1 x2 x3 μ => FM μ ∧ (k = 1 ∧ vp_in x0 12)) (g := fun k => fun x0 x1 x2 x3 μ r μ' => r = none ∧ μ' = sI (sI (sI μ 2 x0.toNatClampNeg x1) 3 x0.toNatClampNeg x2) 4 x0.toNatClampNeg x3) fun l k x0 x1 x2 x3 μ hk h => by
  obtain ⟨hm, h⟩ := h
  obtain ⟨M, L, rfl⟩ := hm.e
  refine ky_met (own := R_PG) (ini := 0) (rb := 3) (nE := 131) (cd := k_PG_write) (C := (fun _ _ _ _ => False)) (by decide) rfl (fun h => by cases h) (Nat.le_of_ble_eq_true rfl) ⟨rfl, rfl⟩ (Or.inr (Or.inr (Or.inr ⟨rfl, rfl⟩))) rfl rfl (by decide) ok_PG_write (fun x hx => CS.no (nc_PG_write x hx)) rt_PG_write (fun K hs => ?_)
  obtain ⟨rfl, hx⟩ := h
  exact hs.go [] 30 _ _ _ _ ⟨rfl, _, rfl, rfl, hx, rfl, _, rfl, rfl, hx, rfl, _, rfl, rfl, hx, rfl, rfl, rfl⟩

theorem dn_PG_factsOf : y_PG_factsOf.cls ≠ "java/lang/invoke/MethodHandle" ∧ y_PG_factsOf.cls ≠ "java/lang/invoke/VarHandle" ∧ (parseMethodDescriptor y_PG_factsOf.desc).map (fun d => d.parameters.length) = some 1 := by decide +kernel
abbrev pr_PG_factsOf : List Value → Mm → Prop := preV 1 (fun k => a_I (fun x0 μ => FM μ ∧ (k = 1)))
abbrev po_PG_factsOf : List Value → Mm → Option Value → Mm → Prop := qV (fun k => b_I (fun x0 μ r μ' => r = some (.long (fo μ.2.1 x0 12)) ∧ μ' = μ))
theorem ft_PG_factsOf : ∀ as μ, pr_PG_factsOf as μ → μ.1 + 0 ≤ 131 ∧ cz μ.1 + 0 ≤ cz 131 := hf_S (n := 131) (Nat.le_refl _) (fun as μ h => by
  obtain ⟨k, r, rfl, hk, h⟩ := preV_e h
  obtain ⟨x0, rfl, h⟩ := a_I_e h
  exact h.1.1)
def C_PG_factsOf : Cf := fun id => match id with
  | 0 => trF 2 pr_PF_cell po_PF_cell
  | _ => fun _ _ _ => False
set_option maxRecDepth 100000 in
theorem cs_PG_factsOf (l : Launch) : ∀ x ∈ k_PG_factsOf, CS l R_PG b_PG_factsOf 5 (rmm 1 0 0) 131 131 C_PG_factsOf x := fc (CS.no rfl) (fc (CS.no rfl) (fc (CS.no rfl) (fc (CS.no rfl) (fc (CS.no rfl) (fc (CS.no rfl) (fc (CS.no rfl) (fc (CS.no rfl) (fc (CS.no rfl) (fc (CS.no rfl) (fc (CS.no rfl) (fc (CS.no rfl) (fc (CS.no rfl) (fc (CS.no rfl) (fc (CS.no rfl) (fc (CS.no rfl) (fc (CS.no rfl) (fc (CS.no rfl) (fc (CS.no rfl) (fc (CS.no rfl) (fc (CS.no rfl) (fc (CS.no rfl) (fc (CS.no rfl) (fc (CS.SN c_PF_cell wk_PF_cell (host := R_PF) (List.mem_of_getElem? (i := 7) rfl) wt_PF_cell wi_PF dn_PF_cell ⟨rfl, rfl⟩ ⟨by decide, by decide⟩ ft_PF_cell rfl (e_PG_factsOf_39).1) (fc (CS.no rfl) (fc (CS.no rfl) (fc (CS.no rfl) (fc (CS.no rfl) (fc (CS.no rfl) (fc (CS.no rfl) (fc (CS.no rfl) (fun _ h => absurd h List.not_mem_nil)))))))))))))))))))))))))))))))
set_option maxRecDepth 100000 in
set_option maxHeartbeats 4000000 in
theorem c_PG_factsOf : Cn y_PG_factsOf b_PG_factsOf 5 (some .long) (rmm 1 0 0) (1 + 1) 0 0 pr_PG_factsOf po_PG_factsOf := cv_I (ci := 1) (f := fun k => fun x0 μ => FM μ ∧ (k = 1)) (g := fun k => fun x0 μ r μ' => r = some (.long (fo μ.2.1 x0 12)) ∧ μ' = μ) fun l k x0 μ hk h => by
  obtain ⟨hm, h⟩ := h
  obtain ⟨M, L, rfl⟩ := hm.e
  refine ky_met (own := R_PG) (ini := 0) (rb := 2) (nE := 131) (cd := k_PG_factsOf) (C := C_PG_factsOf) (by decide) rfl (fun h => by cases h) (Nat.le_of_ble_eq_true rfl) ⟨rfl, rfl⟩ (Or.inr (Or.inr (Or.inl ⟨rfl, rfl⟩))) rfl rfl (by decide) ok_PG_factsOf (cs_PG_factsOf l) rt_PG_factsOf (fun K hs => ?_)
  subst h
  have loop : ∀ (n c : Nat), c + n = 12 → K 5 [some (.ref 1), some (.int x0), some (.long (fo M x0 c)), none, some (.int (nI c))] [] (131, M, L, TT) := by
    intro n
    induction n with
    | zero =>
      intro c hc
      rw [show c = 12 by omega]
      exact hs.go [5] 30 _ _ _ _ ⟨fun _ => ⟨rfl, rfl, rfl⟩, fun z => absurd (Int32.le_refl _) z⟩
    | succ n ih =>
      intro c hc
      have h9 := ih (c + 1) (by omega)
      rw [nI_succ] at h9
      have hin : vp_in (nI c) 12 := vp_in_nI (by omega) (by decide)
      have hcl : (nI c).toNatClampNeg = c := nI_clamp (n := c) (by omega)
      refine hs.go [5] 30 _ _ _ _ ⟨fun z => absurd z (nI_ge (a := c) (b := 12) (by omega) (by decide)), fun _ => ⟨rfl, _, rfl, rfl, hin, fun hb => ?_, fun hb => ⟨rfl, _, rfl, rfl, hin, rfl, _, rfl, rfl, hin, ⟨⟨rfl, rfl⟩, trivial⟩, rfl, rfl, ?_⟩⟩⟩
      · have hb : ¬ M 2 (nI c).toNatClampNeg = x0 := hb
        rw [hcl] at hb
        simp only [fo, if_neg hb] at h9
        exact h9
      · have hb : M 2 (nI c).toNatClampNeg = x0 := hb
        rw [hcl] at hb
        simp only [fo, if_pos hb] at h9
        rintro _ _ ⟨rfl, rfl⟩
        refine ⟨rfl, ?_⟩
        show K 5 [some (.ref 1), some (.int x0), some (.long (fo M x0 c ||| (1 <<< ((M 3 (nI c).toNatClampNeg * 6 + M 4 (nI c).toNatClampNeg).toInt64 &&& 63)))), none, some (.int (nI c + 1))] [] (131, M, L, TT)
        rw [hcl]
        exact h9
  exact hs.go [5] 30 _ _ _ _ ⟨rfl, loop 12 0 rfl⟩

theorem dn_PG_countStatements : y_PG_countStatements.cls ≠ "java/lang/invoke/MethodHandle" ∧ y_PG_countStatements.cls ≠ "java/lang/invoke/VarHandle" ∧ (parseMethodDescriptor y_PG_countStatements.desc).map (fun d => d.parameters.length) = some 0 := by decide +kernel
abbrev pr_PG_countStatements : List Value → Mm → Prop := preV 1 (fun k => a_0 (fun μ => FM μ ∧ (k = 1)))
abbrev po_PG_countStatements : List Value → Mm → Option Value → Mm → Prop := qV (fun k => b_0 (fun μ r μ' => r = some (.int (cst μ.2.1 12)) ∧ μ' = μ))
theorem ft_PG_countStatements : ∀ as μ, pr_PG_countStatements as μ → μ.1 + 0 ≤ 131 ∧ cz μ.1 + 0 ≤ cz 131 := hf_S (n := 131) (Nat.le_refl _) (fun as μ h => by
  obtain ⟨k, r, rfl, hk, h⟩ := preV_e h
  obtain ⟨rfl, h⟩ := a_0_e h
  exact h.1.1)
theorem nc_PG_countStatements : ∀ x ∈ k_PG_countStatements, isInv x.2.1 = false := by decide +kernel
set_option maxRecDepth 100000 in
set_option maxHeartbeats 4000000 in
theorem c_PG_countStatements : Cn y_PG_countStatements b_PG_countStatements 3 (some .int) (rmm 0 0 0) (0 + 1) 0 0 pr_PG_countStatements po_PG_countStatements := cv_0 (ci := 1) (f := fun k => fun μ => FM μ ∧ (k = 1)) (g := fun k => fun μ r μ' => r = some (.int (cst μ.2.1 12)) ∧ μ' = μ) fun l k  μ hk h => by
  obtain ⟨hm, h⟩ := h
  obtain ⟨M, L, rfl⟩ := hm.e
  refine ky_met (own := R_PG) (ini := 0) (rb := 0) (nE := 131) (cd := k_PG_countStatements) (C := (fun _ _ _ _ => False)) (by decide) rfl (fun h => by cases h) (Nat.le_of_ble_eq_true rfl) ⟨rfl, rfl⟩ (Or.inl ⟨rfl, rfl⟩) rfl rfl (by decide) ok_PG_countStatements (fun x hx => CS.no (nc_PG_countStatements x hx)) rt_PG_countStatements (fun K hs => ?_)
  subst h
  have loop : ∀ (n c : Nat), c + n = 12 → K 4 [some (.ref 1), some (.int (cst M c)), some (.int (nI c))] [] (131, M, L, TT) := by
    intro n
    induction n with
    | zero =>
      intro c hc
      rw [show c = 12 by omega]
      exact hs.go [4] 30 _ _ _ _ ⟨fun _ => ⟨rfl, fun z => (by cases z), rfl, rfl⟩, fun z => absurd (Int32.le_refl _) z⟩
    | succ n ih =>
      intro c hc
      have h9 := ih (c + 1) (by omega)
      rw [nI_succ] at h9
      have hin : vp_in (nI c) 12 := vp_in_nI (by omega) (by decide)
      have hcl : (nI c).toNatClampNeg = c := nI_clamp (n := c) (by omega)
      refine hs.go [4] 30 _ _ _ _ ⟨fun z => absurd z (nI_ge (a := c) (b := 12) (by omega) (by decide)), fun _ => ⟨rfl, _, rfl, rfl, hin, fun hb => ?_, fun hb => ?_⟩⟩
      · have hb : M 2 (nI c).toNatClampNeg = -1 := hb
        rw [hcl] at hb
        simp only [cst, if_pos hb] at h9
        exact h9
      · have hb : ¬ M 2 (nI c).toNatClampNeg = -1 := hb
        rw [hcl] at hb
        simp only [cst, if_neg hb] at h9
        exact h9
  exact hs.go [4] 30 _ _ _ _ (loop 12 0 rfl)

theorem dn_PG_leastLine : y_PG_leastLine.cls ≠ "java/lang/invoke/MethodHandle" ∧ y_PG_leastLine.cls ≠ "java/lang/invoke/VarHandle" ∧ (parseMethodDescriptor y_PG_leastLine.desc).map (fun d => d.parameters.length) = some 3 := by decide +kernel
abbrev pr_PG_leastLine : List Value → Mm → Prop := preV 1 (fun k => a_III (fun x0 x1 x2 μ => FM μ ∧ (k = 1)))
abbrev po_PG_leastLine : List Value → Mm → Option Value → Mm → Prop := qV (fun k => b_III (fun x0 x1 x2 μ r μ' => r = some (.int (ll μ.2.1 x0 x1 x2 12 0)) ∧ μ' = μ))
theorem ft_PG_leastLine : ∀ as μ, pr_PG_leastLine as μ → μ.1 + 0 ≤ 131 ∧ cz μ.1 + 0 ≤ cz 131 := hf_S (n := 131) (Nat.le_refl _) (fun as μ h => by
  obtain ⟨k, r, rfl, hk, h⟩ := preV_e h
  obtain ⟨x0, x1, x2, rfl, h⟩ := a_III_e h
  exact h.1.1)
theorem nc_PG_leastLine : ∀ x ∈ k_PG_leastLine, isInv x.2.1 = false := by decide +kernel
set_option maxRecDepth 100000 in
set_option maxHeartbeats 4000000 in
theorem c_PG_leastLine : Cn y_PG_leastLine b_PG_leastLine 5 (some .int) (rmm 0 0 0) (3 + 1) 0 0 pr_PG_leastLine po_PG_leastLine := cv_III (ci := 1) (f := fun k => fun x0 x1 x2 μ => FM μ ∧ (k = 1)) (g := fun k => fun x0 x1 x2 μ r μ' => r = some (.int (ll μ.2.1 x0 x1 x2 12 0)) ∧ μ' = μ) fun l k x0 x1 x2 μ hk h => by
  obtain ⟨hm, h⟩ := h
  obtain ⟨M, L, rfl⟩ := hm.e
  refine ky_met (own := R_PG) (ini := 0) (rb := 0) (nE := 131) (cd := k_PG_leastLine) (C := (fun _ _ _ _ => False)) (by decide) rfl (fun h => by cases h) (Nat.le_of_ble_eq_true rfl) ⟨rfl, rfl⟩ (Or.inl ⟨rfl, rfl⟩) rfl rfl (by decide) ok_PG_leastLine (fun x hx => CS.no (nc_PG_leastLine x hx)) rt_PG_leastLine (fun K hs => ?_)
  subst h
  have loop : ∀ (n c : Nat), c + n = 12 → ll M x0 x1 x2 n c = ll M x0 x1 x2 12 0 → K 3 [some (.ref 1), some (.int x0), some (.int x1), some (.int x2), some (.int (nI c))] [] (131, M, L, TT) := by
    intro n
    induction n with
    | zero =>
      intro c hc hr
      rw [show c = 12 by omega] at hr ⊢
      exact hs.go [3] 40 _ _ _ _ ⟨fun _ => ⟨rfl, fun z => (by cases z), by rw [← hr]; rfl, rfl⟩, fun z => absurd (Int32.le_refl _) z⟩
    | succ n ih =>
      intro c hc hr
      have hin : vp_in (nI c) 12 := vp_in_nI (by omega) (by decide)
      have hcl : (nI c).toNatClampNeg = c := nI_clamp (n := c) (by omega)
      have no : ¬ (M 2 c = x0 ∧ M 3 c = x1 ∧ M 4 c = x2) → K 3 [some (.ref 1), some (.int x0), some (.int x1), some (.int x2), some (.int (nI c + 1))] [] (131, M, L, TT) := by
        intro hb
        have h9 := ih (c + 1) (by omega) (by rw [← hr]; simp only [ll, if_neg hb])
        rw [nI_succ] at h9
        exact h9
      refine hs.go [3] 40 _ _ _ _ ⟨fun z => absurd z (nI_ge (a := c) (b := 12) (by omega) (by decide)), fun _ => ⟨rfl, _, rfl, rfl, hin, fun hb => ?_, fun hb => ⟨rfl, _, rfl, rfl, hin, fun hb2 => ?_, fun hb2 => ⟨rfl, _, rfl, rfl, hin, fun hb3 => ?_, fun hb3 => ⟨rfl, fun z => (by cases z), ?_, rfl⟩⟩⟩⟩⟩
      · have hb : ¬ M 2 (nI c).toNatClampNeg = x0 := hb
        rw [hcl] at hb
        exact no (fun z => hb z.1)
      · have hb2 : ¬ M 3 (nI c).toNatClampNeg = x1 := hb2
        rw [hcl] at hb2
        exact no (fun z => hb2 z.2.1)
      · have hb3 : ¬ M 4 (nI c).toNatClampNeg = x2 := hb3
        rw [hcl] at hb3
        exact no (fun z => hb3 z.2.2)
      · have hb : M 2 (nI c).toNatClampNeg = x0 := hb
        have hb2 : M 3 (nI c).toNatClampNeg = x1 := hb2
        have hb3 : M 4 (nI c).toNatClampNeg = x2 := hb3
        rw [hcl] at hb hb2 hb3
        rw [← hr]
        simp only [ll, if_pos (show M 2 c = x0 ∧ M 3 c = x1 ∧ M 4 c = x2 from ⟨hb, hb2, hb3⟩)]
  exact hs.go [3] 40 _ _ _ _ (loop 12 0 rfl rfl)

theorem dn_LI_become : y_LI_become.cls ≠ "java/lang/invoke/MethodHandle" ∧ y_LI_become.cls ≠ "java/lang/invoke/VarHandle" ∧ (parseMethodDescriptor y_LI_become.desc).map (fun d => d.parameters.length) = some 4 := by decide +kernel
abbrev pr_LI_become : List Value → Mm → Prop := preV 5 (fun k => a_IIII (fun x0 x1 x2 x3 μ => FM μ ∧ (x3 = 0 ∨ x3 = 1)))
abbrev po_LI_become : List Value → Mm → Option Value → Mm → Prop := qV (fun k => b_IIII (fun x0 x1 x2 x3 μ r μ' => r = none ∧ μ' = sI (sI (sI (sI μ k 0 x0) k 1 x1) k 2 x2) k 3 x3))
theorem ft_LI_become : ∀ as μ, pr_LI_become as μ → μ.1 + 0 ≤ 131 ∧ cz μ.1 + 0 ≤ cz 131 := hf_S (n := 131) (Nat.le_refl _) (fun as μ h => by
  obtain ⟨k, r, rfl, hk, h⟩ := preV_e h
  obtain ⟨x0, x1, x2, x3, rfl, h⟩ := a_IIII_e h
  exact h.1.1)
theorem nc_LI_become : ∀ x ∈ k_LI_become, isInv x.2.1 = false := by decide +kernel
set_option maxRecDepth 100000 in
set_option maxHeartbeats 4000000 in
theorem c_LI_become : Cn y_LI_become b_LI_become 5 none (rmm 0 0 0) (4 + 1) 0 0 pr_LI_become po_LI_become := cv_IIII (ci := 5) (f := fun k => fun x0 x1 x2 x3 μ => FM μ ∧ (x3 = 0 ∨ x3 = 1)) (g := fun k => fun x0 x1 x2 x3 μ r μ' => r = none ∧ μ' = sI (sI (sI (sI μ k 0 x0) k 1 x1) k 2 x2) k 3 x3) fun l k x0 x1 x2 x3 μ hk h => by
  obtain ⟨hm, h⟩ := h
  obtain ⟨M, L, rfl⟩ := hm.e
  refine ky_met (own := R_LI) (ini := 0) (rb := 3) (nE := 131) (cd := k_LI_become) (C := (fun _ _ _ _ => False)) (by decide) rfl (fun h => by cases h) (Nat.le_of_ble_eq_true rfl) ⟨rfl, rfl⟩ (Or.inr (Or.inr (Or.inr ⟨rfl, rfl⟩))) rfl rfl (by decide) ok_LI_become (fun x hx => CS.no (nc_LI_become x hx)) rt_LI_become (fun K hs => ?_)
  exact hs.go [] 30 _ _ _ _ ⟨hk, hk, hk, hk, h, rfl, rfl, rfl⟩

theorem dn_LI_copyOf : y_LI_copyOf.cls ≠ "java/lang/invoke/MethodHandle" ∧ y_LI_copyOf.cls ≠ "java/lang/invoke/VarHandle" ∧ (parseMethodDescriptor y_LI_copyOf.desc).map (fun d => d.parameters.length) = some 1 := by decide +kernel
abbrev pr_LI_copyOf : List Value → Mm → Prop := preV 5 (fun k => a_R (fun x0 μ => FM μ ∧ (isO μ x0 5 = true ∧ (μ.2.1 x0 3 = 0 ∨ μ.2.1 x0 3 = 1))))
abbrev po_LI_copyOf : List Value → Mm → Option Value → Mm → Prop := qV (fun k => b_R (fun x0 μ r μ' => r = none ∧ μ' = sI (sI (sI (sI μ k 0 (μ.2.1 x0 0)) k 1 (μ.2.1 x0 1)) k 2 (μ.2.1 x0 2)) k 3 (μ.2.1 x0 3)))
theorem ft_LI_copyOf : ∀ as μ, pr_LI_copyOf as μ → μ.1 + 0 ≤ 131 ∧ cz μ.1 + 0 ≤ cz 131 := hf_S (n := 131) (Nat.le_refl _) (fun as μ h => by
  obtain ⟨k, r, rfl, hk, h⟩ := preV_e h
  obtain ⟨x0, rfl, h⟩ := a_R_e h
  exact h.1.1)
def C_LI_copyOf : Cf := fun id => match id with
  | 0 => trF (4 + 1) pr_LI_become po_LI_become
  | _ => fun _ _ _ => False
set_option maxRecDepth 100000 in
theorem cs_LI_copyOf (l : Launch) : ∀ x ∈ k_LI_copyOf, CS l R_LI b_LI_copyOf 2 (rmm 1 0 0) 131 131 C_LI_copyOf x := fc (CS.no rfl) (fc (CS.no rfl) (fc (CS.no rfl) (fc (CS.no rfl) (fc (CS.no rfl) (fc (CS.no rfl) (fc (CS.no rfl) (fc (CS.no rfl) (fc (CS.no rfl) (fc (CS.V c_LI_become wk_LI_become wl_LI_25 wm_LI_become we_LI_become rfl rfl wi_LI dn_LI_become ⟨rfl, rfl⟩ ⟨by decide, by decide⟩ ft_LI_become rfl (e_LI_copyOf_17).1) (fc (CS.no rfl) (fun _ h => absurd h List.not_mem_nil)))))))))))
set_option maxRecDepth 100000 in
set_option maxHeartbeats 4000000 in
theorem c_LI_copyOf : Cn y_LI_copyOf b_LI_copyOf 2 none (rmm 1 0 0) (1 + 1) 0 0 pr_LI_copyOf po_LI_copyOf := cv_R (ci := 5) (f := fun k => fun x0 μ => FM μ ∧ (isO μ x0 5 = true ∧ (μ.2.1 x0 3 = 0 ∨ μ.2.1 x0 3 = 1))) (g := fun k => fun x0 μ r μ' => r = none ∧ μ' = sI (sI (sI (sI μ k 0 (μ.2.1 x0 0)) k 1 (μ.2.1 x0 1)) k 2 (μ.2.1 x0 2)) k 3 (μ.2.1 x0 3)) fun l k x0 μ hk h => by
  obtain ⟨hm, h⟩ := h
  obtain ⟨M, L, rfl⟩ := hm.e
  refine ky_met (own := R_LI) (ini := 0) (rb := 3) (nE := 131) (cd := k_LI_copyOf) (C := C_LI_copyOf) (by decide) rfl (fun h => by cases h) (Nat.le_of_ble_eq_true rfl) ⟨rfl, rfl⟩ (Or.inr (Or.inr (Or.inr ⟨rfl, rfl⟩))) rfl rfl (by decide) ok_LI_copyOf (cs_LI_copyOf l) rt_LI_copyOf (fun K hs => ?_)
  obtain ⟨hx, h01⟩ := h
  refine hs.go [] 30 _ _ _ _ ⟨hx, hx, hx, hx, ⟨hk, ⟨rfl, rfl⟩, h01⟩, rfl, rfl, ?_⟩
  rintro _ _ ⟨rfl, rfl⟩
  exact ⟨rfl, rfl, rfl⟩

theorem dn_LI_variables : y_LI_variables.cls ≠ "java/lang/invoke/MethodHandle" ∧ y_LI_variables.cls ≠ "java/lang/invoke/VarHandle" ∧ (parseMethodDescriptor y_LI_variables.desc).map (fun d => d.parameters.length) = some 0 := by decide +kernel
abbrev pr_LI_variables : List Value → Mm → Prop := preV 5 (fun k => a_0 (fun μ => FM μ ∧ (True)))
abbrev po_LI_variables : List Value → Mm → Option Value → Mm → Prop := qV (fun k => b_0 (fun μ r μ' => r = some (.int (vbt (μ.2.1 k 1) ||| vbt (μ.2.1 k 2))) ∧ μ' = μ))
theorem ft_LI_variables : ∀ as μ, pr_LI_variables as μ → μ.1 + 0 ≤ 131 ∧ cz μ.1 + 0 ≤ cz 131 := hf_S (n := 131) (Nat.le_refl _) (fun as μ h => by
  obtain ⟨k, r, rfl, hk, h⟩ := preV_e h
  obtain ⟨rfl, h⟩ := a_0_e h
  exact h.1.1)
theorem nc_LI_variables : ∀ x ∈ k_LI_variables, isInv x.2.1 = false := by decide +kernel
set_option maxRecDepth 100000 in
set_option maxHeartbeats 4000000 in
theorem c_LI_variables : Cn y_LI_variables b_LI_variables 1 (some .int) (rmm 0 0 0) (0 + 1) 0 0 pr_LI_variables po_LI_variables := cv_0 (ci := 5) (f := fun k => fun μ => FM μ ∧ (True)) (g := fun k => fun μ r μ' => r = some (.int (vbt (μ.2.1 k 1) ||| vbt (μ.2.1 k 2))) ∧ μ' = μ) fun l k  μ hk h => by
  obtain ⟨hm, h⟩ := h
  obtain ⟨M, L, rfl⟩ := hm.e
  refine ky_met (own := R_LI) (ini := 0) (rb := 0) (nE := 131) (cd := k_LI_variables) (C := (fun _ _ _ _ => False)) (by decide) rfl (fun h => by cases h) (Nat.le_of_ble_eq_true rfl) ⟨rfl, rfl⟩ (Or.inl ⟨rfl, rfl⟩) rfl rfl (by decide) ok_LI_variables (fun x hx => CS.no (nc_LI_variables x hx)) rt_LI_variables (fun K hs => ?_)
  refine hs.go [] 40 _ _ _ _ ⟨hk, fun h1 => ⟨hk, fun h2 => ⟨rfl, fun z => (by cases z), ?_, rfl⟩, fun h2 => ⟨hk, rfl, fun z => (by cases z), ?_, rfl⟩⟩, fun h1 => ⟨hk, hk, fun h2 => ⟨rfl, fun z => (by cases z), ?_, rfl⟩, fun h2 => ⟨hk, rfl, fun z => (by cases z), ?_, rfl⟩⟩⟩
  · have h1 : M k 1 < 10 := h1
    have h2 : M k 2 < 10 := h2
    show _ = some (Value.int (vbt (M k 1) ||| vbt (M k 2)))
    unfold vbt
    rw [if_pos h1, if_pos h2]
  · have h1 : M k 1 < 10 := h1
    have h2 : ¬ M k 2 < 10 := h2
    show _ = some (Value.int (vbt (M k 1) ||| vbt (M k 2)))
    unfold vbt
    rw [if_pos h1, if_neg h2]
  · have h1 : ¬ M k 1 < 10 := h1
    have h2 : M k 2 < 10 := h2
    show _ = some (Value.int (vbt (M k 1) ||| vbt (M k 2)))
    unfold vbt
    rw [if_neg h1, if_pos h2]
  · have h1 : ¬ M k 1 < 10 := h1
    have h2 : ¬ M k 2 < 10 := h2
    show _ = some (Value.int (vbt (M k 1) ||| vbt (M k 2)))
    unfold vbt
    rw [if_neg h1, if_neg h2]
