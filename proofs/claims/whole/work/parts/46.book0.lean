theorem dn_RB_init : y_RB_init.cls ≠ "java/lang/invoke/MethodHandle" ∧ y_RB_init.cls ≠ "java/lang/invoke/VarHandle" ∧ (parseMethodDescriptor y_RB_init.desc).map (fun d => d.parameters.length) = some 0 := by decide +kernel
theorem zr_zr {α : Type} {z : α} {f : Nat → Nat → α} {a m m' : Nat} : zr z (zr z f a m) (a + m) m' = zr z f a (m + m') := by
  funext k
  unfold zr
  by_cases h : a + m ≤ k ∧ k < a + m + m'
  · rw [if_pos h, if_pos (by omega)]
  · rw [if_neg h]
    by_cases h2 : a ≤ k ∧ k < a + m
    · rw [if_pos h2, if_pos (by omega)]
    · rw [if_neg h2, if_neg (by omega)]
/-- the references while the book's rules are being made: c of them stand -/
def rbT (T : mT) (c : Nat) : mT := fun k j => if k < 10 then T k j else if (k = 10 ∧ 1 ≤ j) ∨ (k = 11 ∧ c ≤ j) then none else TT k j
def rbU (T : mT) (c : Nat) : mT := fun k j => if k < 10 then T k j else if k = 98 ∧ c ≤ j then none else TT k j
abbrev f_RBi (k : Nat) : Mm → Prop := fun μ => k = 10 ∧ ∃ M L T, μ = (11, M, L, nT T 10)
abbrev g_RBi (k : Nat) : Mm → Option Value → Mm → Prop := fun μ r μ' => r = none ∧ μ' = (103, zr 0 μ.2.1 11 92, zr 0 μ.2.2.1 11 92, mx μ.2.2.2 10)
abbrev pr_RB_init : List Value → Mm → Prop := preV 3 (fun k => a_0 (f_RBi k))
abbrev po_RB_init : List Value → Mm → Option Value → Mm → Prop := qV (fun k => b_0 (g_RBi k))
theorem ft_RB_init : ∀ as μ, pr_RB_init as μ → μ.1 + 92 ≤ 103 ∧ cz μ.1 + 398 ≤ cz 103 := by
  intro as μ h
  obtain ⟨k, r, rfl, hk, h⟩ := preV_e h
  obtain ⟨rfl, h⟩ := a_0_e h
  obtain ⟨rfl, M, L, T, rfl⟩ := h
  exact ⟨Nat.le_of_ble_eq_true rfl, Nat.le_of_ble_eq_true rfl⟩
def C_RB_init : Cf := fun id => match id with
  | 0 => trO
  | 1 => trF (0 + 1) pr_RL_init po_RL_init
  | 2 => trF (0 + 1) (pr_LI_init 103) po_LI_init
  | _ => fun _ _ _ => False
set_option maxRecDepth 100000 in
theorem cs_RB_init (l : Launch) : ∀ x ∈ k_RB_init, CS l R_RB b_RB_init 2 (rmm 3 92 398) 11 103 C_RB_init x := fc (CS.no rfl) (fc (CS.O wl_RB_3 ⟨by decide, by decide⟩ rfl (e_RB_init_1).1) (fc (CS.no rfl) (fc (CS.no rfl) (fc (CS.no rfl) (fc (CS.no rfl) (fc (CS.no rfl) (fc (CS.no rfl) (fc (CS.no rfl) (fc (CS.no rfl) (fc (CS.no rfl) (fc (CS.no rfl) (fc (CS.no rfl) (fc (CS.no rfl) (fc (CS.no rfl) (fc (CS.no rfl) (fc (CS.I c_RL_init wk_RL_init wl_RB_17 wm_RL_init rfl rfl wi_RL dn_RL_init ⟨rfl, rfl⟩ ⟨by decide, by decide⟩ (ft_RL_init 103 (by decide)) rfl (e_RB_init_30).1) (fc (CS.no rfl) (fc (CS.no rfl) (fc (CS.no rfl) (fc (CS.no rfl) (fc (CS.no rfl) (fc (CS.no rfl) (fc (CS.no rfl) (fc (CS.no rfl) (fc (CS.no rfl) (fc (CS.no rfl) (fc (CS.no rfl) (fc (CS.no rfl) (fc (CS.no rfl) (fc (CS.no rfl) (fc (CS.no rfl) (fc (CS.no rfl) (fc (CS.no rfl) (fc (CS.no rfl) (fc (CS.no rfl) (fc (CS.no rfl) (fc (CS.no rfl) (fc (CS.no rfl) (fc (CS.no rfl) (fc (CS.no rfl) (fc (CS.no rfl) (fc (CS.IN (c_LI_init 103 (by decide)) wk_LI_init (host := R_PF) (List.mem_of_getElem? (i := 1) rfl) wm_LI_init rfl rfl wi_LI dn_LI_init ⟨rfl, rfl⟩ ⟨by decide, by decide⟩ (ft_LI_init 103) rfl (e_RB_init_80).1) (fc (CS.no rfl) (fc (CS.no rfl) (fc (CS.no rfl) (fc (CS.no rfl) (fun _ h => absurd h List.not_mem_nil)))))))))))))))))))))))))))))))))))))))))))))))
set_option maxRecDepth 100000 in
set_option maxHeartbeats 4000000 in
theorem c_RB_init : Cn y_RB_init b_RB_init 2 none (rmm 3 92 398) (0 + 1) 92 398 pr_RB_init po_RB_init := cv_0 (ci := 3) (f := f_RBi) (g := g_RBi) fun l k μ hk h => by
  obtain ⟨rfl, M, L, T, rfl⟩ := h
  refine ky_metC (own := R_RB) (ini := 1) (rb := 3) (nE := 103) (cd := k_RB_init) (C := C_RB_init) (by decide) rfl (fun _ => rfl) (Nat.le_of_ble_eq_true rfl) ⟨rfl, rfl⟩ (Or.inr (Or.inr (Or.inr ⟨rfl, rfl⟩))) rfl rfl (by decide) ok_RB_init (cs_RB_init l) rt_RB_init (fun K hs hcv => ?_)
  have two : ∀ (n c : Nat), c + n = 4 → K 66 [some (.ref 10), some (.int (nI c))] [] (99 + c, zr 0 M 11 (88 + c), zr 0 L 11 (88 + c), rbU T c) := by
    intro n
    induction n with
    | zero =>
      intro c hc
      have hc : c = 4 := by omega
      subst hc
      have h9 : K 66 [some (.ref 10), some (.int (nI 4))] [] (103, zr 0 M 11 92, zr 0 L 11 92, mx (nT T 10) 10) := hs.go [66] 10 _ _ _ _ ⟨fun _ => ⟨rfl, rfl, rfl⟩, fun z => absurd (Int32.le_refl _) z⟩
      refine hcv 66 _ _ 103 _ _ _ _ _ _ (fun k hk => ⟨rfl, rfl, fun j hj => ?_⟩) h9
      unfold rbU mx
      by_cases h00 : k < 10
      · rw [if_pos h00, if_pos h00]
        exact congrFun (upr_k (by omega)) j
      · rw [if_neg h00, if_neg h00]
        by_cases h : k = 98 ∧ 4 ≤ j
        · rw [h.1] at hj
          have hj : j < 4 := hj
          omega
        · rw [if_neg h]
    | succ n ih =>
      intro c hc
      have ic : vp_in (nI c) 4 := vp_in_nI (by omega) (by decide)
      have ec : (nI c).toNatClampNeg = c := nI_clamp (n := c) (by omega)
      have h9 := ih (c + 1) (by omega)
      rw [nI_succ] at h9
      have kdc : kd (99 + c) = (10, 0) := (show ∀ c, c < 4 → kd (99 + c) = (10, 0) by decide) c (by omega)
      have hb : Nat.beq (kd (99 + c)).1 10 = true := by rw [kdc]; rfl
      have g1 : rbU T c 10 3 = some 98 := (if_neg (by decide)).trans ((if_neg (by omega)).trans rfl)
      have e11 : 99 + c = 11 + (88 + c) := by omega
      have eM : upr (zr 0 M 11 (88 + c)) (99 + c) (fun _ => 0) = zr 0 M 11 (88 + (c + 1)) := by
        rw [e11]; exact zr_s
      have eL : upr (zr 0 L 11 (88 + c)) (99 + c) (fun _ => 0) = zr 0 L 11 (88 + (c + 1)) := by
        rw [e11]; exact zr_s
      refine hs.go [66] 60 _ _ _ _ ⟨fun z => absurd z (nI_ge (a := c) (b := 4) (by omega) (by decide)), fun _ => ⟨isO_k rfl (by omega), _, g1, (show 99 + c < 103 by omega), hb, ⟨isO_k (by rw [kdc]) (by omega), (show 99 + c + 1 ≤ 103 by omega)⟩, rfl, rfl, ?_⟩⟩
      rintro _ _ ⟨rfl, rfl⟩
      refine ⟨isA_k rfl (by omega), isO_k (by rw [kdc]) (by omega), ic, ?_⟩
      refine hcv 66 _ _ (99 + c + 1) _ _ _ _ _ _ (fun k hk => ⟨(congrFun eM k).symm, (congrFun eL k).symm, fun j hj => ?_⟩) h9
      show rbU T (c + 1) k j = up2 (upr (rbU T c) (99 + c) (fun _ => none)) 98 (nI c).toNatClampNeg (some (99 + c)) k j
      rw [ec]
      by_cases h1 : k = 98
      · subst h1
        by_cases h2 : j = c
        · subst h2
          rw [up2_s]
          exact (if_neg (by decide)).trans ((if_neg (by omega)).trans rfl)
        · rw [up2_j h2, upr_k (by omega)]
          unfold rbU
          rw [if_neg (show ¬ 98 < 10 by decide), if_neg (show ¬ 98 < 10 by decide)]
          by_cases h3 : c ≤ j
          · rw [if_pos ⟨rfl, by omega⟩, if_pos ⟨rfl, h3⟩]
          · rw [if_neg (by omega), if_neg (by omega)]
      · rw [up2_k h1]
        by_cases h2 : k = 99 + c
        · subst h2
          rw [kdc] at hj
          have hj : j < 4 := hj
          rw [upr_s]
          exact (if_neg (by omega)).trans ((if_neg (fun z => h1 z.1)).trans ((show ∀ c, c < 4 → ∀ j, j < 4 → TT (99 + c) j = none by decide) c (by omega) j hj))
        · rw [upr_k h2]
          unfold rbU
          by_cases h00 : k < 10
          · rw [if_pos h00, if_pos h00]
          · rw [if_neg h00, if_neg h00, if_neg (show ¬ (k = 98 ∧ c + 1 ≤ j) from fun z => h1 z.1), if_neg (show ¬ (k = 98 ∧ c ≤ j) from fun z => h1 z.1)]
  have one : ∀ (n c : Nat), c + n = 14 → K 15 [some (.ref 10), some (.int (nI c))] [] (12 + 6 * c, zr 0 M 11 (1 + 6 * c), zr 0 L 11 (1 + 6 * c), rbT T c) := by
    intro n
    induction n with
    | zero =>
      intro c hc
      have hc : c = 14 := by omega
      subst hc
      have h0 := two 4 0 rfl
      have eM : upr (upr (upr (zr 0 M 11 85) 96 (fun _ => (0 : Int32))) 97 (fun _ => 0)) 98 (fun _ => 0) = zr 0 M 11 88 := by
        rw [show upr (zr 0 M 11 85) 96 (fun _ => (0 : Int32)) = zr 0 M 11 86 from zr_s, show upr (zr 0 M 11 86) 97 (fun _ => (0 : Int32)) = zr 0 M 11 87 from zr_s]
        exact zr_s
      have eL : upr (upr (upr (zr 0 L 11 85) 96 (fun _ => (0 : Int64))) 97 (fun _ => 0)) 98 (fun _ => 0) = zr 0 L 11 88 := by
        rw [show upr (zr 0 L 11 85) 96 (fun _ => (0 : Int64)) = zr 0 L 11 86 from zr_s, show upr (zr 0 L 11 86) 97 (fun _ => (0 : Int64)) = zr 0 L 11 87 from zr_s]
        exact zr_s
      refine hs.go [15, 66] 60 _ _ _ _ ⟨fun _ => ⟨Nat.le_of_ble_eq_true rfl, rfl, (by decide), Nat.le_of_ble_eq_true rfl, rfl, Nat.le_of_ble_eq_true rfl, rfl, (by decide), Nat.le_of_ble_eq_true rfl, rfl, Nat.le_of_ble_eq_true rfl, rfl, (by decide), Nat.le_of_ble_eq_true rfl, rfl, ?_⟩, fun z => absurd (Int32.le_refl _) z⟩
      refine hcv 66 _ _ 99 _ _ _ _ _ _ (fun k hk => ⟨(congrFun eM k).symm, (congrFun eL k).symm, fun j hj => ?_⟩) h0
      show rbU T 0 k j = up2 (upr (up2 (upr (up2 (upr (rbT T 14) 96 (fun _ => none)) 10 1 (some 96)) 97 (fun _ => none)) 10 2 (some 97)) 98 (fun _ => none)) 10 3 (some 98) k j
      by_cases h1 : k = 10
      · subst h1
        have hj : j < 5 := hj
        rcases (show j = 0 ∨ j = 1 ∨ j = 2 ∨ j = 3 ∨ j = 4 by omega) with rfl | rfl | rfl | rfl | rfl <;> rfl
      rw [up2_k h1]
      by_cases h2 : k = 98
      · subst h2
        rw [upr_s]
        exact (if_neg (by decide)).trans (if_pos ⟨rfl, Nat.zero_le _⟩)
      rw [upr_k h2, up2_k h1]
      by_cases h3 : k = 97
      · subst h3
        have hj : j < 14 := hj
        rw [upr_s]
        exact (if_neg (by decide)).trans ((if_neg (by omega)).trans ((show ∀ j, j < 14 → TT 97 j = none by decide) j hj))
      rw [upr_k h3, up2_k h1]
      by_cases h4 : k = 96
      · subst h4
        have hj : j < 14 := hj
        rw [upr_s]
        exact (if_neg (by decide)).trans ((if_neg (by omega)).trans ((show ∀ j, j < 14 → TT 96 j = none by decide) j hj))
      rw [upr_k h4]
      unfold rbU rbT
      by_cases h5 : k < 10
      · rw [if_pos h5, if_pos h5]
      · rw [if_neg h5, if_neg h5, if_neg (fun z => h2 z.1)]
        by_cases h6 : k = 11
        · subst h6
          have hj : j < 14 := hj
          rw [if_neg (by omega)]
        · rw [if_neg (by omega)]
    | succ n ih =>
      intro c hc
      have ic : vp_in (nI c) 14 := vp_in_nI (by omega) (by decide)
      have ec : (nI c).toNatClampNeg = c := nI_clamp (n := c) (by omega)
      have h9 := ih (c + 1) (by omega)
      rw [nI_succ, show 12 + 6 * (c + 1) = 18 + 6 * c by omega] at h9
      obtain ⟨kd0, -, -⟩ := kdr c (by omega)
      have hb : Nat.beq (kd (12 + 6 * c)).1 9 = true := by rw [kd0]; rfl
      have g1 : rbT T c 10 0 = some 11 := (if_neg (by decide)).trans ((if_neg (by omega)).trans rfl)
      have eM : zr 0 (upr (zr 0 M 11 (1 + 6 * c)) (12 + 6 * c) (fun _ => 0)) (13 + 6 * c) 5 = zr 0 M 11 (1 + 6 * (c + 1)) := by
        rw [show 12 + 6 * c = 11 + (1 + 6 * c) by omega, zr_s, show 13 + 6 * c = 11 + (1 + 6 * c + 1) by omega, zr_zr, show 1 + 6 * c + 1 + 5 = 1 + 6 * (c + 1) by omega]
      have eL : zr 0 (upr (zr 0 L 11 (1 + 6 * c)) (12 + 6 * c) (fun _ => 0)) (13 + 6 * c) 5 = zr 0 L 11 (1 + 6 * (c + 1)) := by
        rw [show 12 + 6 * c = 11 + (1 + 6 * c) by omega, zr_s, show 13 + 6 * c = 11 + (1 + 6 * c + 1) by omega, zr_zr, show 1 + 6 * c + 1 + 5 = 1 + 6 * (c + 1) by omega]
      refine hs.go [15] 60 _ _ _ _ ⟨fun z => absurd z (nI_ge (a := c) (b := 14) (by omega) (by decide)), fun _ => ⟨isO_k rfl (by omega), _, g1, (show 12 + 6 * c < 103 by omega), hb, ⟨isO_k (by rw [kd0]) (by omega), c, by omega, rfl, _, _, _, (by rw [show 13 + 6 * c = 12 + 6 * c + 1 by omega]; rfl)⟩, rfl, rfl, ?_⟩⟩
      intro r μ' hq
      obtain ⟨q1, q2⟩ := hq c (by omega) rfl
      have q2 : μ' = (18 + 6 * c, zr 0 (upr (zr 0 M 11 (1 + 6 * c)) (12 + 6 * c) (fun _ => 0)) (13 + 6 * c) 5, zr 0 (upr (zr 0 L 11 (1 + 6 * c)) (12 + 6 * c) (fun _ => 0)) (13 + 6 * c) 5, mx (upr (rbT T c) (12 + 6 * c) (fun _ => none)) (12 + 6 * c)) := q2
      rw [eM, eL] at q2
      rw [q1, q2]
      refine ⟨isA_k rfl (by omega), isO_k (by rw [kd0]) (by omega), ic, ?_⟩
      refine hcv 15 _ _ (18 + 6 * c) _ _ _ _ _ _ (fun k hk => ⟨rfl, rfl, fun j hj => ?_⟩) h9
      show rbT T (c + 1) k j = up2 (mx (upr (rbT T c) (12 + 6 * c) (fun _ => none)) (12 + 6 * c)) 11 (nI c).toNatClampNeg (some (12 + 6 * c)) k j
      rw [ec]
      by_cases h1 : k = 11
      · subst h1
        by_cases h2 : j = c
        · subst h2
          rw [up2_s]
          exact (if_neg (by decide)).trans ((if_neg (by omega)).trans rfl)
        · rw [up2_j h2]
          unfold mx
          rw [if_pos (by omega), upr_k (by omega)]
          unfold rbT
          rw [if_neg (show ¬ 11 < 10 by decide), if_neg (show ¬ 11 < 10 by decide)]
          by_cases h3 : c ≤ j
          · rw [if_pos (Or.inr ⟨rfl, by omega⟩), if_pos (Or.inr ⟨rfl, h3⟩)]
          · rw [if_neg (by omega), if_neg (by omega)]
      · rw [up2_k h1]
        unfold mx
        by_cases h2 : k < 12 + 6 * c
        · rw [if_pos h2, upr_k (by omega)]
          unfold rbT
          by_cases h3 : k < 10
          · rw [if_pos h3, if_pos h3]
          · rw [if_neg h3, if_neg h3]
            by_cases h4 : k = 10 ∧ 1 ≤ j
            · rw [if_pos (Or.inl h4), if_pos (Or.inl h4)]
            · rw [if_neg (fun z => z.elim h4 (fun q => h1 q.1)), if_neg (fun z => z.elim h4 (fun q => h1 q.1))]
        · rw [if_neg h2]
          unfold rbT
          rw [if_neg (by omega), if_neg (by omega)]
  have h0 := one 14 0 rfl
  have eM : upr M 11 (fun _ => (0 : Int32)) = zr 0 M 11 1 := by
    have := zr_s (z := (0 : Int32)) (f := M) (a := 11) (m := 0)
    rw [zr_0] at this
    exact this
  have eL : upr L 11 (fun _ => (0 : Int64)) = zr 0 L 11 1 := by
    have := zr_s (z := (0 : Int64)) (f := L) (a := 11) (m := 0)
    rw [zr_0] at this
    exact this
  refine hs.go [15] 60 _ _ _ _ ⟨rfl, Nat.le_of_ble_eq_true rfl, rfl, (by decide), Nat.le_of_ble_eq_true rfl, rfl, ?_⟩
  refine hcv 15 _ _ 12 _ _ _ _ _ _ (fun k hk => ⟨(congrFun eM k).symm, (congrFun eL k).symm, fun j hj => ?_⟩) h0
  show rbT T 0 k j = up2 (upr (nT T 10) 11 (fun _ => none)) 10 0 (some 11) k j
  by_cases h1 : k = 10
  · subst h1
    have hj : j < 5 := hj
    rcases (show j = 0 ∨ j = 1 ∨ j = 2 ∨ j = 3 ∨ j = 4 by omega) with rfl | rfl | rfl | rfl | rfl <;> rfl
  rw [up2_k h1]
  by_cases h2 : k = 11
  · subst h2
    rw [upr_s]
    exact (if_neg (by decide)).trans (if_pos (Or.inr ⟨rfl, Nat.zero_le _⟩))
  rw [upr_k h2]
  exact (if_pos (by omega)).trans (congrFun (upr_k h1) j).symm

