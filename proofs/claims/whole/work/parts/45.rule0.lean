def zr {α : Type} (z : α) (f : Nat → Nat → α) (a m : Nat) : Nat → Nat → α := fun k => if a ≤ k ∧ k < a + m then (fun _ => z) else f k
theorem zr_s {α : Type} {z : α} {f : Nat → Nat → α} {a m : Nat} : upr (zr z f a m) (a + m) (fun _ => z) = zr z f a (m + 1) := by
  funext k
  unfold upr zr
  by_cases h : k = a + m
  · subst h
    rw [if_pos rfl, if_pos (by omega)]
  · rw [if_neg h]
    by_cases h2 : a ≤ k ∧ k < a + m
    · rw [if_pos h2, if_pos (by omega)]
    · rw [if_neg h2, if_neg (by omega)]
theorem zr_0 {α : Type} {z : α} {f : Nat → Nat → α} {a : Nat} : zr z f a 0 = f := by
  funext k
  unfold zr
  exact if_neg (by omega)

theorem dn_LI_init : y_LI_init.cls ≠ "java/lang/invoke/MethodHandle" ∧ y_LI_init.cls ≠ "java/lang/invoke/VarHandle" ∧ (parseMethodDescriptor y_LI_init.desc).map (fun d => d.parameters.length) = some 0 := by decide +kernel
abbrev pr_LI_init (N : Nat) : List Value → Mm → Prop := preV 5 (fun k => a_0 (fun μ => μ.1 ≤ N))
abbrev po_LI_init : List Value → Mm → Option Value → Mm → Prop := qV (fun k => b_0 (fun μ r μ' => r = none ∧ μ' = μ))
theorem ft_LI_init (N : Nat) : ∀ as μ, pr_LI_init N as μ → μ.1 + 0 ≤ N ∧ cz μ.1 + 0 ≤ cz N := by
  intro as μ h
  obtain ⟨k, r, rfl, hk, h⟩ := preV_e h
  obtain ⟨rfl, h⟩ := a_0_e h
  exact ⟨h, cz_mono h⟩
def C_LI_init : Cf := fun id => match id with
  | 0 => trO
  | _ => fun _ _ _ => False
theorem cs_LI_init (n : Nat) (l : Launch) : ∀ x ∈ k_LI_init, CS l R_LI b_LI_init 1 (rmm 1 0 0) n n C_LI_init x := fc (CS.no rfl) (fc (CS.O wl_LI_3 ⟨by decide, by decide⟩ rfl (e_LI_init_1).1) (fc (CS.no rfl) (fun _ h => absurd h List.not_mem_nil)))
set_option maxRecDepth 100000 in
theorem c_LI_init (N : Nat) (hN : N ≤ 900) : Cn y_LI_init b_LI_init 1 none (rmm 1 0 0) (0 + 1) 0 0 (pr_LI_init N) po_LI_init := cv_0 (ci := 5) (f := fun k => fun μ => μ.1 ≤ N) (g := fun k => fun μ r μ' => r = none ∧ μ' = μ) fun l k μ hk h => by
  refine ky_met (own := R_LI) (ini := 1) (rb := 3) (nE := μ.1) (cd := k_LI_init) (C := C_LI_init) (by decide) rfl (fun _ => rfl) (Nat.le_of_ble_eq_true rfl) ⟨rfl, rfl⟩ (Or.inr (Or.inr (Or.inr ⟨rfl, rfl⟩))) rfl rfl (Nat.le_trans h hN) ok_LI_init (cs_LI_init μ.1 l) rt_LI_init (fun K hs => ?_)
  exact hs.go [] 10 _ _ _ _ ⟨rfl, rfl, rfl, rfl⟩
theorem TTz : ∀ i, i < 14 → ∀ c, c < 3 → ∀ j, j < 4 → TT (15 + 6 * i + c) j = none := by decide +kernel
theorem TTz1 : ∀ i, i < 14 → ∀ j, j < 4 → TT (13 + 6 * i) j = none := by decide +kernel
theorem TTr0 : ∀ i, i < 14 → TT (12 + 6 * i) 0 = some (13 + 6 * i) ∧ TT (12 + 6 * i) 1 = some (14 + 6 * i) ∧ TT (12 + 6 * i) 2 = none ∧ TT (12 + 6 * i) 3 = none ∧ TT (12 + 6 * i) 4 = none := by decide +kernel
theorem TTr2 : ∀ i, i < 14 → ∀ j, j < 3 → TT (14 + 6 * i) j = some (15 + 6 * i + j) := by decide +kernel
theorem kdLn : ∀ i, i < 14 → ∀ c, c < 3 → kd (15 + 6 * i + c) = (10, 0) := by decide +kernel
theorem kdr : ∀ i, i < 14 → kd (12 + 6 * i) = (9, 0) ∧ kd (13 + 6 * i) = (10, 0) ∧ kd (14 + 6 * i) = (3, 3) := by decide +kernel
theorem czr : ∀ i, i < 14 → cz (18 + 6 * i) = cz (13 + 6 * i) + 19 := by decide +kernel
/-- the references while a rule's body is being filled: c of its literals stand -/
def rlT (T : mT) (i c : Nat) : mT := fun k j => if k < 12 + 6 * i then T k j else if k = 14 + 6 * i ∧ c ≤ j then none else TT k j

theorem dn_RL_init : y_RL_init.cls ≠ "java/lang/invoke/MethodHandle" ∧ y_RL_init.cls ≠ "java/lang/invoke/VarHandle" ∧ (parseMethodDescriptor y_RL_init.desc).map (fun d => d.parameters.length) = some 0 := by decide +kernel
abbrev f_RLi (i k : Nat) : Mm → Prop := fun μ => k = 12 + 6 * i ∧ ∃ M L T, μ = (13 + 6 * i, M, L, upr T (12 + 6 * i) (fun _ => none))
abbrev g_RLi (i k : Nat) : Mm → Option Value → Mm → Prop := fun μ r μ' => r = none ∧ μ' = (18 + 6 * i, zr 0 μ.2.1 (13 + 6 * i) 5, zr 0 μ.2.2.1 (13 + 6 * i) 5, mx μ.2.2.2 (12 + 6 * i))
abbrev pr_RL_init : List Value → Mm → Prop := preV 4 (fun k => a_0 (fun μ => ∃ i, i < 14 ∧ f_RLi i k μ))
abbrev po_RL_init : List Value → Mm → Option Value → Mm → Prop := qV (fun k => b_0 (fun μ r μ' => ∀ i, i < 14 → k = 12 + 6 * i → g_RLi i k μ r μ'))
theorem ft_RL_init (N : Nat) (hN : 96 ≤ N) : ∀ as μ, pr_RL_init as μ → μ.1 + 5 ≤ N ∧ cz μ.1 + 19 ≤ cz N := by
  intro as μ h
  obtain ⟨k, r, rfl, hk, h⟩ := preV_e h
  obtain ⟨rfl, h⟩ := a_0_e h
  obtain ⟨i, hi, rfl, M, L, T, rfl⟩ := h
  have := czr i hi
  have h2 := cz_mono (show 18 + 6 * i ≤ N by omega)
  refine ⟨?_, ?_⟩
  · show 13 + 6 * i + 5 ≤ N
    omega
  · show cz (13 + 6 * i) + 19 ≤ cz N
    omega
def C_RL_init (i : Nat) : Cf := fun id => match id with
  | 0 => trO
  | 1 => trF (0 + 1) (pr_LI_init (18 + 6 * i)) po_LI_init
  | _ => fun _ _ _ => False
set_option maxRecDepth 100000 in
theorem cs_RL_init (i : Nat) (hi : i < 14) (l : Launch) : ∀ x ∈ k_RL_init, CS l R_RL b_RL_init 2 (rmm 2 5 19) (13 + 6 * i) (18 + 6 * i) (C_RL_init i) x := fc (CS.no rfl) (fc (CS.O wl_RL_3 ⟨by decide, by decide⟩ rfl (e_RL_init_1).1) (fc (CS.no rfl) (fc (CS.no rfl) (fc (CS.no rfl) (fc (CS.IN (c_LI_init (18 + 6 * i) (by omega)) wk_LI_init (host := R_PF) (List.mem_of_getElem? (i := 0) rfl) wm_LI_init rfl rfl wi_LI dn_LI_init ⟨rfl, rfl⟩ ⟨by decide, by decide⟩ (ft_LI_init (18 + 6 * i)) rfl (e_RL_init_9).1) (fc (CS.no rfl) (fc (CS.no rfl) (fc (CS.no rfl) (fc (CS.no rfl) (fc (CS.no rfl) (fc (CS.no rfl) (fc (CS.no rfl) (fc (CS.no rfl) (fc (CS.no rfl) (fc (CS.no rfl) (fc (CS.no rfl) (fc (CS.no rfl) (fc (CS.no rfl) (fc (CS.no rfl) (fc (CS.no rfl) (fc (CS.IN (c_LI_init (18 + 6 * i) (by omega)) wk_LI_init (host := R_PF) (List.mem_of_getElem? (i := 0) rfl) wm_LI_init rfl rfl wi_LI dn_LI_init ⟨rfl, rfl⟩ ⟨by decide, by decide⟩ (ft_LI_init (18 + 6 * i)) rfl (e_RL_init_39).1) (fc (CS.no rfl) (fc (CS.no rfl) (fc (CS.no rfl) (fc (CS.no rfl) (fun _ h => absurd h List.not_mem_nil))))))))))))))))))))))))))
theorem isO_k {n k ci : Nat} {M : mM} {L : mL} {T : mT} (h : (kd k).1 = ci + 5) (hk : k < n) : isO (n, M, L, T) k ci = true := by
  unfold isO
  rw [h]
  show (Nat.beq (ci + 5) (ci + 5) && Nat.ble (k + 1) n) = true
  rw [Nat.ble_eq_true_of_le hk]
  simp
theorem isA_k {n k t : Nat} {M : mM} {L : mL} {T : mT} (h : (kd k).1 = t) (hk : k < n) : isA (n, M, L, T) k t = true := by
  unfold isA
  rw [h]
  show (Nat.beq t t && Nat.ble (k + 1) n) = true
  rw [Nat.ble_eq_true_of_le hk]
  simp
set_option maxRecDepth 100000 in
set_option maxHeartbeats 4000000 in
theorem c_RL_init : Cn y_RL_init b_RL_init 2 none (rmm 2 5 19) (0 + 1) 5 19 pr_RL_init po_RL_init := cv_0 (ci := 4) (f := fun k => fun μ => ∃ i, i < 14 ∧ f_RLi i k μ) (g := fun k => fun μ r μ' => ∀ i, i < 14 → k = 12 + 6 * i → g_RLi i k μ r μ') fun l k μ hk h => by
  obtain ⟨i, hi, rfl, M, L, T, rfl⟩ := h
  obtain ⟨kd0, kd1, kd2⟩ := kdr i hi
  refine ky_metC (own := R_RL) (ini := 1) (rb := 3) (nE := 18 + 6 * i) (cd := k_RL_init) (C := C_RL_init i) (by decide) rfl (fun _ => rfl) (Nat.le_of_ble_eq_true rfl) ⟨rfl, rfl⟩ (Or.inr (Or.inr (Or.inr ⟨rfl, rfl⟩))) (by show 18 + 6 * i = 13 + 6 * i + 5; omega) (czr i hi) (by omega) ok_RL_init (cs_RL_init i hi l) rt_RL_init (fun K hs hcv => ?_)
  have loop : ∀ (n c : Nat), c + n = 3 → K 25 [some (.ref (12 + 6 * i)), some (.int (nI c))] [] (15 + 6 * i + c, zr 0 M (13 + 6 * i) (2 + c), zr 0 L (13 + 6 * i) (2 + c), rlT T i c) := by
    intro n
    induction n with
    | zero =>
      intro c hc
      have hc : c = 3 := by omega
      subst hc
      have h9 : K 25 [some (.ref (12 + 6 * i)), some (.int (nI 3))] [] (18 + 6 * i, zr 0 M (13 + 6 * i) 5, zr 0 L (13 + 6 * i) 5, mx (upr T (12 + 6 * i) (fun _ => none)) (12 + 6 * i)) := hs.go [25] 10 _ _ _ _ ⟨fun _ => ⟨rfl, fun i' _ hi' => by
        have : i' = i := by omega
        subst this
        exact ⟨rfl, rfl⟩⟩, fun z => absurd (Int32.le_refl _) z⟩
      rw [show 15 + 6 * i + 3 = 18 + 6 * i by omega]
      refine hcv 25 _ _ (18 + 6 * i) _ _ _ _ _ _ (fun k hk => ⟨rfl, rfl, fun j hj => ?_⟩) h9
      unfold rlT mx
      by_cases h00 : k < 12 + 6 * i
      · rw [if_pos h00, if_pos h00, upr_k (by omega)]
      rw [if_neg h00, if_neg h00]
      by_cases h : k = 14 + 6 * i ∧ 3 ≤ j
      · rw [h.1, kd2] at hj
        have hj : j < 3 := hj
        omega
      · rw [if_neg h]
    | succ n ih =>
      intro c hc
      have ic : vp_in (nI c) 3 := vp_in_nI (by omega) (by decide)
      have ec : (nI c).toNatClampNeg = c := nI_clamp (n := c) (by omega)
      have h9 := ih (c + 1) (by omega)
      rw [nI_succ] at h9
      have kdc := kdLn i hi c (by omega)
      have hb : Nat.beq (kd (15 + 6 * i + c)).1 10 = true := by rw [kdc]; rfl
      have g1 : rlT T i c (12 + 6 * i) 1 = some (14 + 6 * i) := (if_neg (by omega)).trans ((if_neg (fun z => absurd z.1 (by omega))).trans (TTr0 i hi).2.1)
      have e15 : 15 + 6 * i + c = 13 + 6 * i + (2 + c) := by omega
      have eM : upr (zr 0 M (13 + 6 * i) (2 + c)) (15 + 6 * i + c) (fun _ => 0) = zr 0 M (13 + 6 * i) (2 + (c + 1)) := by
        rw [e15]; exact zr_s
      have eL : upr (zr 0 L (13 + 6 * i) (2 + c)) (15 + 6 * i + c) (fun _ => 0) = zr 0 L (13 + 6 * i) (2 + (c + 1)) := by
        rw [e15]; exact zr_s
      have hA : isA (15 + 6 * i + c + 1, upr (zr 0 M (13 + 6 * i) (2 + c)) (15 + 6 * i + c) (fun _ => 0), upr (zr 0 L (13 + 6 * i) (2 + c)) (15 + 6 * i + c) (fun _ => 0), upr (rlT T i c) (15 + 6 * i + c) (fun _ => none)) (14 + 6 * i) 3 = true := isA_k (by rw [kd2]) (by omega)
      have hO : isO (15 + 6 * i + c + 1, upr (zr 0 M (13 + 6 * i) (2 + c)) (15 + 6 * i + c) (fun _ => 0), upr (zr 0 L (13 + 6 * i) (2 + c)) (15 + 6 * i + c) (fun _ => 0), upr (rlT T i c) (15 + 6 * i + c) (fun _ => none)) (15 + 6 * i + c) 5 = true := isO_k (by rw [kdc]) (by omega)
      have hv : vp_in (nI c) (kd (14 + 6 * i)).2 := by rw [kd2]; exact ic
      refine hs.go [25] 60 _ _ _ _ ⟨fun z => absurd z (nI_ge (a := c) (b := 3) (by omega) (by decide)), fun _ => ⟨isO_k (by rw [kd0]) (by omega), _, g1, (show 15 + 6 * i + c < 18 + 6 * i by omega), hb, ⟨hO, (show 15 + 6 * i + c + 1 ≤ 18 + 6 * i by omega)⟩, rfl, rfl, ?_⟩⟩
      rintro _ _ ⟨rfl, rfl⟩
      refine ⟨hA, hO, hv, ?_⟩
      refine hcv 25 _ _ (15 + 6 * i + c + 1) _ _ _ _ _ _ (fun k hk => ⟨?_, ?_, fun j hj => ?_⟩) h9
      · exact (congrFun eM k).symm
      · exact (congrFun eL k).symm
      · show rlT T i (c + 1) k j = up2 (upr (rlT T i c) (15 + 6 * i + c) (fun _ => none)) (14 + 6 * i) (nI c).toNatClampNeg (some (15 + 6 * i + c)) k j
        rw [ec]
        by_cases h00 : k < 12 + 6 * i
        · rw [up2_k (by omega), upr_k (by omega)]
          unfold rlT
          rw [if_pos h00, if_pos h00]
        by_cases h1 : k = 14 + 6 * i
        · subst h1
          rw [kd2] at hj
          have hj : j < 3 := hj
          by_cases h2 : j = c
          · subst h2
            rw [up2_s]
            exact (if_neg (by omega)).trans ((if_neg (fun z => absurd z.2 (by omega))).trans (TTr2 i hi j hj))
          · rw [up2_j h2, upr_k (by omega)]
            unfold rlT
            rw [if_neg h00, if_neg h00]
            by_cases h3 : c ≤ j
            · rw [if_pos ⟨rfl, by omega⟩, if_pos ⟨rfl, h3⟩]
            · rw [if_neg (fun z => h3 (by omega)), if_neg (fun z => h3 z.2)]
        · rw [up2_k h1]
          by_cases h2 : k = 15 + 6 * i + c
          · subst h2
            rw [upr_s, kdc] at *
            have hj : j < 4 := hj
            exact (if_neg (by omega)).trans ((if_neg (fun z => h1 z.1)).trans (TTz i hi c (by omega) j hj))
          · rw [upr_k h2]
            unfold rlT
            rw [if_neg h00, if_neg h00, if_neg (fun z => h1 z.1), if_neg (fun z => h1 z.1)]
  have h0 := loop 3 0 rfl
  have e1 : upr M (13 + 6 * i) (fun _ => (0 : Int32)) = zr 0 M (13 + 6 * i) 1 := by
    have := zr_s (z := (0 : Int32)) (f := M) (a := 13 + 6 * i) (m := 0)
    rw [zr_0] at this
    exact this
  have e2 : upr (upr M (13 + 6 * i) (fun _ => (0 : Int32))) (13 + 6 * i + 1) (fun _ => 0) = zr 0 M (13 + 6 * i) (2 + 0) := by
    rw [e1]; exact zr_s
  have e3 : upr L (13 + 6 * i) (fun _ => (0 : Int64)) = zr 0 L (13 + 6 * i) 1 := by
    have := zr_s (z := (0 : Int64)) (f := L) (a := 13 + 6 * i) (m := 0)
    rw [zr_0] at this
    exact this
  have e4 : upr (upr L (13 + 6 * i) (fun _ => (0 : Int64))) (13 + 6 * i + 1) (fun _ => 0) = zr 0 L (13 + 6 * i) (2 + 0) := by
    rw [e3]; exact zr_s
  have hb : Nat.beq (kd (13 + 6 * i)).1 10 = true := by rw [kd1]; rfl
  have e14 : 13 + 6 * i + 1 = 14 + 6 * i := by omega
  have hk2 : kd (13 + 6 * i + 1) = (3, (3 : Int32).toNatClampNeg) := by rw [e14, kd2]; rfl
  refine hs.go [25] 60 _ _ _ _ ⟨rfl, (show 13 + 6 * i < 18 + 6 * i by omega), hb, ⟨isO_k (by rw [kd1]) (by omega), (show 13 + 6 * i + 1 ≤ 18 + 6 * i by omega)⟩, rfl, rfl, ?_⟩
  rintro _ _ ⟨rfl, rfl⟩
  refine ⟨isO_k (by rw [kd0]) (by omega), (show 13 + 6 * i + 1 < 18 + 6 * i by omega), hk2, (by decide), (by decide), isO_k (by rw [kd0]) (by omega), ?_⟩
  show K 25 [some (.ref (12 + 6 * i)), some (.int (nI 0))] [] (13 + 6 * i + 1 + 1, upr (upr M (13 + 6 * i) (fun _ => 0)) (13 + 6 * i + 1) (fun _ => 0), upr (upr L (13 + 6 * i) (fun _ => 0)) (13 + 6 * i + 1) (fun _ => 0), up2 (upr (up2 (upr (upr T (12 + 6 * i) (fun _ => none)) (13 + 6 * i) (fun _ => none)) (12 + 6 * i) 0 (some (13 + 6 * i))) (13 + 6 * i + 1) (fun _ => none)) (12 + 6 * i) 1 (some (13 + 6 * i + 1)))
  rw [show 13 + 6 * i + 1 + 1 = 15 + 6 * i + 0 by omega, e14]
  refine hcv 25 _ _ (15 + 6 * i + 0) _ _ _ _ _ _ (fun k hk => ⟨?_, ?_, fun j hj => ?_⟩) h0
  · rw [e14] at e2
    exact (congrFun e2 k).symm
  · rw [e14] at e4
    exact (congrFun e4 k).symm
  · by_cases h00 : k < 12 + 6 * i
    · rw [up2_k (by omega), upr_k (by omega), up2_k (by omega), upr_k (by omega), upr_k (by omega)]
      exact if_pos h00
    by_cases h1 : k = 12 + 6 * i
    · subst h1
      obtain ⟨t0, t1, t2, t3, t4⟩ := TTr0 i hi
      rw [kd0] at hj
      have hj : j < 5 := hj
      have eL : rlT T i 0 (12 + 6 * i) j = TT (12 + 6 * i) j := (if_neg (by omega)).trans (if_neg (fun z => absurd z.1 (by omega)))
      rw [eL]
      rcases (show j = 0 ∨ j = 1 ∨ j = 2 ∨ j = 3 ∨ j = 4 by omega) with rfl | rfl | rfl | rfl | rfl
      · rw [up2_j (by decide), upr_k (by omega), up2_s, t0]
      · rw [up2_s, t1]
      · rw [up2_j (by decide), upr_k (by omega), up2_j (by decide), upr_k (by omega), t2]
        show none = upr T (12 + 6 * i) (fun _ => none) (12 + 6 * i) _
        rw [upr_s]
      · rw [up2_j (by decide), upr_k (by omega), up2_j (by decide), upr_k (by omega), t3]
        show none = upr T (12 + 6 * i) (fun _ => none) (12 + 6 * i) _
        rw [upr_s]
      · rw [up2_j (by decide), upr_k (by omega), up2_j (by decide), upr_k (by omega), t4]
        show none = upr T (12 + 6 * i) (fun _ => none) (12 + 6 * i) _
        rw [upr_s]
    · rw [up2_k h1]
      by_cases h2 : k = 14 + 6 * i
      · subst h2
        rw [upr_s]
        exact (if_neg (by omega)).trans (if_pos ⟨rfl, Nat.zero_le _⟩)
      · rw [upr_k h2, up2_k h1]
        have eL : rlT T i 0 k j = TT k j := (if_neg h00).trans (if_neg (fun z => h2 z.1))
        rw [eL]
        by_cases h3 : k = 13 + 6 * i
        · subst h3
          rw [kd1] at hj
          rw [upr_s, TTz1 i hi j hj]
        · exact absurd hk (by omega)

