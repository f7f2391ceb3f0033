def c0v (v : Nat → Int32) (f : Nat) : Nat := if v f = -1 then 0 else (v f).toNatClampNeg * 6
def cnv (v : Nat → Int32) (f : Nat) : Nat := if v f = -1 then 36 else 6
def hld (M : mM) (L : mL) (k : Nat) : Int64 := if M k 3 = 0 then L 8 (M k 0).toNatClampNeg else L 8 (M k 0).toNatClampNeg ^^^ (-1)
def tmn (M : mM) (k j : Nat) : Nat := (M k j).toNatClampNeg
def c6 (c : Nat) : Int32 := nI c / 6
def r6 (c : Nat) : Int32 := nI c - nI c / 6 * 6
def b6 (v : Nat → Int32) (f s c : Nat) : Nat → Int32 := bdv (bdv v f (c6 c)) s (r6 c)
def mml (g : (Nat → Int32) → Int64 → Int32 × Int64) (h : Int64) (v : Nat → Int32) (f s : Nat) : Nat → Nat → Int32 × Int64 → Int32 × Int64
  | 0, _, a => a
  | n + 1, c, a => mml g h v f s n (c + 1) (if ub h (nI c) = 0 then a else if bdv v f (c6 c) f = c6 c then (if b6 v f s c s = r6 c then (a.1 + (g (b6 v f s c) a.2).1, (g (b6 v f s c) a.2).2) else a) else a)
/-- the matches of a rule's body from its last d literals on: their number, and the heads reached -/
def mmt (M : mM) (L : mL) (i len : Nat) : Nat → (Nat → Int32) → Int64 → Int32 × Int64
  | 0, v, ρ => (1, ρ ||| (1 <<< ((v (tmn M (13 + 6 * i) 1) * 6 + v (tmn M (13 + 6 * i) 2)).toInt64 &&& 63)))
  | d + 1, v, ρ => mml (mmt M L i len d) (hld M L (15 + 6 * i + (len - (d + 1)))) v (tmn M (15 + 6 * i + (len - (d + 1))) 1) (tmn M (15 + 6 * i + (len - (d + 1))) 2) (cnv v (tmn M (15 + 6 * i + (len - (d + 1))) 1)) (c0v v (tmn M (15 + 6 * i + (len - (d + 1))) 1)) (0, ρ)
theorem mml_cg {g g' : (Nat → Int32) → Int64 → Int32 × Int64} {h : Int64} {v : Nat → Int32} {f s : Nat} (hg : ∀ v ρ, g v ρ = g' v ρ) : ∀ n c a, mml g h v f s n c a = mml g' h v f s n c a
  | 0, _, _ => rfl
  | n + 1, c, a => by
    simp only [mml, hg]
    exact mml_cg hg n (c + 1) _
theorem mmt_cg {M M' : mM} {L L' : mL} {i len : Nat} (hM : ∀ k, k < 96 → M' k = M k) (hL : L' 8 = L 8) (hi : i < 14) (hl : len ≤ 3) : ∀ d, d ≤ len → ∀ v ρ, mmt M' L' i len d v ρ = mmt M L i len d v ρ := by
  intro d
  induction d with
  | zero =>
    intro _ v ρ
    simp only [mmt, tmn, hM (13 + 6 * i) (by omega)]
  | succ d ih =>
    intro hd v ρ
    have e : M' (15 + 6 * i + (len - (d + 1))) = M (15 + 6 * i + (len - (d + 1))) := hM _ (by omega)
    simp only [mmt, tmn, hld, e, hL]
    exact mml_cg (ih (by omega)) _ _ _
def vok (v : Nat → Int32) : Prop := ∀ t, (t < 6 ∨ (10 ≤ t ∧ t ≤ 13)) → v t = -1 ∨ ∃ a, a < 6 ∧ v t = nI a
theorem c6_e {c : Nat} (h : c < 36) : c6 c = nI (c / 6) := pk_div (a := c) (d := 6) (by omega) (by decide) (by decide)
theorem r6_e {c : Nat} (h : c < 36) : r6 c = nI (c % 6) := pk_rem (a := c) (d := 6) (by omega) (by decide) (by decide)
theorem bdv_ok {v : Nat → Int32} {t : Nat} {x : Int32} (h : vok v) (hx : ∃ a, a < 6 ∧ x = nI a) : vok (bdv v t x) := by
  intro u hu
  unfold bdv
  split
  · by_cases e : u = t
    · subst e
      rw [pk_us]
      exact Or.inr hx
    · rw [pk_un e]
      exact h u hu
  · exact h u hu
theorem bdv_ne {v : Nat → Int32} {t u : Nat} {x : Int32} (h : u ≠ t) : bdv v t x u = v u := by
  unfold bdv
  split
  · exact pk_un h
  · rfl
theorem res1 {v : Nat → Int32} {f s : Nat} {x : Int32} : upd (upd (bdv v f x) f (v f)) s (v s) = v := by
  funext u
  by_cases h1 : u = s
  · subst h1; exact pk_us
  · rw [pk_un h1]
    by_cases h2 : u = f
    · subst h2; exact pk_us
    · rw [pk_un h2, bdv_ne h2]
theorem res2 {v : Nat → Int32} {f s : Nat} {x y : Int32} : upd (upd (bdv (bdv v f x) s y) f (v f)) s (v s) = v := by
  funext u
  by_cases h1 : u = s
  · subst h1; exact pk_us
  · rw [pk_un h1]
    by_cases h2 : u = f
    · subst h2; exact pk_us
    · rw [pk_un h2, bdv_ne h1, bdv_ne h2]
theorem tm_in {t : Int32} (h : tmok t) : vp_in t 14 ∧ (t.toNatClampNeg < 6 ∨ (10 ≤ t.toNatClampNeg ∧ t.toNatClampNeg ≤ 13)) := by
  obtain ⟨n, rfl, hn⟩ := h
  rw [nI_clamp (n := n) (by omega)]
  exact ⟨vp_in_nI (by omega) (by decide), hn⟩
theorem up2L_8 {L : mL} {x : Int64} : up2 L 103 1 x 8 = L 8 := up2_k (by decide)
theorem up2_up2 {α : Type} {f : Nat → Nat → α} {k j : Nat} {x y : α} : up2 (up2 f k j x) k j y = up2 f k j y := by
  funext a b
  unfold up2
  split <;> rfl
theorem up2_id {α : Type} {f : Nat → Nat → α} {k j : Nat} : up2 f k j (f k j) = f := by
  funext a b
  unfold up2
  split
  · rename_i h
    rw [h.1, h.2]
  · rfl

theorem dn_DV_matchFrom : y_DV_matchFrom.cls ≠ "java/lang/invoke/MethodHandle" ∧ y_DV_matchFrom.cls ≠ "java/lang/invoke/VarHandle" ∧ (parseMethodDescriptor y_DV_matchFrom.desc).map (fun d => d.parameters.length) = some 3 := by decide +kernel
theorem dn_DV_matchLiteral : y_DV_matchLiteral.cls ≠ "java/lang/invoke/MethodHandle" ∧ y_DV_matchLiteral.cls ≠ "java/lang/invoke/VarHandle" ∧ (parseMethodDescriptor y_DV_matchLiteral.desc).map (fun d => d.parameters.length) = some 3 := by decide +kernel
abbrev f_mf (d : Nat) (k : Nat) : Nat → Nat → Int32 → Mm → Prop := fun x0 x1 x2 μ => FM μ ∧ (k = 103 ∧ x0 = 5 ∧ vok (μ.2.1 104) ∧ ∃ i len p, i < 14 ∧ x1 = 12 + 6 * i ∧ wR μ.2.1 i ∧ rln μ.2.1 i = len ∧ p + d = len ∧ x2 = nI p)
abbrev g_mf (d : Nat) (k : Nat) : Nat → Nat → Int32 → Mm → Option Value → Mm → Prop := fun x0 x1 x2 μ r μ' => ∀ i, i < 14 → x1 = 12 + 6 * i → r = some (.int (mmt μ.2.1 μ.2.2.1 i (rln μ.2.1 i) d (μ.2.1 104) (μ.2.2.1 103 1)).1) ∧ μ' = (131, μ.2.1, up2 μ.2.2.1 103 1 (mmt μ.2.1 μ.2.2.1 i (rln μ.2.1 i) d (μ.2.1 104) (μ.2.2.1 103 1)).2, TT)
abbrev pr_mf (d : Nat) : List Value → Mm → Prop := preV 6 (fun k => a_RRI (f_mf d k))
abbrev po_mf (d : Nat) : List Value → Mm → Option Value → Mm → Prop := qV (fun k => b_RRI (g_mf d k))
theorem ft_mf (d : Nat) : ∀ as μ, pr_mf d as μ → μ.1 + 0 ≤ 131 ∧ cz μ.1 + 0 ≤ cz 131 := hf_S (n := 131) (Nat.le_refl _) (fun as μ h => by
  obtain ⟨k, r, rfl, hk, h⟩ := preV_e h
  obtain ⟨x0, x1, x2, rfl, h⟩ := a_RRI_e h
  exact h.1.1)
abbrev f_ml (d : Nat) (k : Nat) : Nat → Nat → Int32 → Mm → Prop := fun x0 x1 x2 μ => FM μ ∧ (k = 103 ∧ x0 = 5 ∧ vok (μ.2.1 104) ∧ ∃ i len p, i < 14 ∧ x1 = 12 + 6 * i ∧ wR μ.2.1 i ∧ rln μ.2.1 i = len ∧ p + (d + 1) = len ∧ x2 = nI p)
abbrev g_ml (d : Nat) (k : Nat) : Nat → Nat → Int32 → Mm → Option Value → Mm → Prop := fun x0 x1 x2 μ r μ' => ∀ i, i < 14 → x1 = 12 + 6 * i → r = some (.int (mmt μ.2.1 μ.2.2.1 i (rln μ.2.1 i) (d + 1) (μ.2.1 104) (μ.2.2.1 103 1)).1) ∧ μ' = (131, μ.2.1, up2 μ.2.2.1 103 1 (mmt μ.2.1 μ.2.2.1 i (rln μ.2.1 i) (d + 1) (μ.2.1 104) (μ.2.2.1 103 1)).2, TT)
abbrev pr_ml (d : Nat) : List Value → Mm → Prop := preV 6 (fun k => a_RRI (f_ml d k))
abbrev po_ml (d : Nat) : List Value → Mm → Option Value → Mm → Prop := qV (fun k => b_RRI (g_ml d k))
theorem ft_ml (d : Nat) : ∀ as μ, pr_ml d as μ → μ.1 + 0 ≤ 131 ∧ cz μ.1 + 0 ≤ cz 131 := hf_S (n := 131) (Nat.le_refl _) (fun as μ h => by
  obtain ⟨k, r, rfl, hk, h⟩ := preV_e h
  obtain ⟨x0, x1, x2, rfl, h⟩ := a_RRI_e h
  exact h.1.1)
theorem CS.F {l : Launch} {own : String} {cc : ByteArray} {nL : Nat} {R : Room} {n0 nE : Nat} {C : Cf} {x : Nat × En} (h : C x.2.2.2.2.2.1 = fun _ _ _ => False) : CS l own cc nL R n0 nE C x := by
  intro _ p e s m args below meth c q D G Q _ _ _ lv st μ P _ hc
  rw [h] at hc
  exact hc.elim
def C_mf0 : Cf := fun id => match id with
  | 1 => trF 2 pr_PF_cell po_PF_cell
  | _ => fun _ _ _ => False
def C_mfS (d : Nat) : Cf := fun id => match id with
  | 0 => trF (3 + 1) (pr_ml d) (po_ml d)
  | 1 => trF 2 pr_PF_cell po_PF_cell
  | _ => fun _ _ _ => False
def C_ml (d : Nat) : Cf := fun id => match id with
  | 0 => trF 2 pr_PF_cell po_PF_cell
  | 1 => trF (2 + 1) pr_DV_bind po_DV_bind
  | 2 => trF (3 + 1) (pr_mf d) (po_mf d)
  | _ => fun _ _ _ => False
set_option maxRecDepth 100000 in
theorem cs_mf0 (xr : Nat) (l : Launch) : ∀ x ∈ k_DV_matchFrom, CS l R_DV b_DV_matchFrom 4 (rmm (1 + 2 * 0 + xr) 0 0) 131 131 C_mf0 x := fc (CS.no rfl) (fc (CS.no rfl) (fc (CS.no rfl) (fc (CS.no rfl) (fc (CS.no rfl) (fc (CS.no rfl) (fc (CS.no rfl) (fc (CS.no rfl) (fc (CS.no rfl) (fc (CS.no rfl) (fc (CS.no rfl) (fc (CS.F rfl) (fc (CS.no rfl) (fc (CS.no rfl) (fc (CS.no rfl) (fc (CS.no rfl) (fc (CS.no rfl) (fc (CS.no rfl) (fc (CS.no rfl) (fc (CS.no rfl) (fc (CS.no rfl) (fc (CS.no rfl) (fc (CS.no rfl) (fc (CS.no rfl) (fc (CS.no rfl) (fc (CS.no rfl) (fc (CS.no rfl) (fc (CS.no rfl) (fc (CS.no rfl) (fc (CS.SN c_PF_cell wk_PF_cell (host := R_PF) (List.mem_of_getElem? (i := 6) rfl) wt_PF_cell wi_PF dn_PF_cell ⟨rfl, rfl⟩ ⟨by show 0 + 1 ≤ 1 + 2 * 0 + xr; omega, by show 8 + (2 + 11) + 40 * (0) ≤ 40 * (1 + 2 * 0 + xr); omega⟩ ft_PF_cell rfl (e_DV_matchFrom_51).1) (fc (CS.no rfl) (fc (CS.no rfl) (fc (CS.no rfl) (fc (CS.no rfl) (fc (CS.no rfl) (fun _ h => absurd h List.not_mem_nil)))))))))))))))))))))))))))))))))))
set_option maxRecDepth 100000 in
theorem cs_mfS (xr d : Nat) (l : Launch) (h : Cn y_DV_matchLiteral b_DV_matchLiteral 15 (some .int) (rmm (2 + 2 * d + xr) 0 0) (3 + 1) 0 0 (pr_ml d) (po_ml d)) : ∀ x ∈ k_DV_matchFrom, CS l R_DV b_DV_matchFrom 4 (rmm (1 + 2 * (d + 1) + xr) 0 0) 131 131 (C_mfS d) x := fc (CS.no rfl) (fc (CS.no rfl) (fc (CS.no rfl) (fc (CS.no rfl) (fc (CS.no rfl) (fc (CS.no rfl) (fc (CS.no rfl) (fc (CS.no rfl) (fc (CS.no rfl) (fc (CS.no rfl) (fc (CS.no rfl) (fc (CS.V h wk_DV_matchLiteral wl_DV_80 wm_DV_matchLiteral we_DV_matchLiteral rfl rfl wi_DV dn_DV_matchLiteral ⟨rfl, rfl⟩ ⟨by show 2 + 2 * d + xr + 1 ≤ 1 + 2 * (d + 1) + xr; omega, by show 8 + (15 + 11) + 40 * (2 + 2 * d + xr) ≤ 40 * (1 + 2 * (d + 1) + xr); omega⟩ (ft_ml d) rfl (e_DV_matchFrom_17).1) (fc (CS.no rfl) (fc (CS.no rfl) (fc (CS.no rfl) (fc (CS.no rfl) (fc (CS.no rfl) (fc (CS.no rfl) (fc (CS.no rfl) (fc (CS.no rfl) (fc (CS.no rfl) (fc (CS.no rfl) (fc (CS.no rfl) (fc (CS.no rfl) (fc (CS.no rfl) (fc (CS.no rfl) (fc (CS.no rfl) (fc (CS.no rfl) (fc (CS.no rfl) (fc (CS.SN c_PF_cell wk_PF_cell (host := R_PF) (List.mem_of_getElem? (i := 6) rfl) wt_PF_cell wi_PF dn_PF_cell ⟨rfl, rfl⟩ ⟨by show 0 + 1 ≤ 1 + 2 * (d + 1) + xr; omega, by show 8 + (2 + 11) + 40 * (0) ≤ 40 * (1 + 2 * (d + 1) + xr); omega⟩ ft_PF_cell rfl (e_DV_matchFrom_51).1) (fc (CS.no rfl) (fc (CS.no rfl) (fc (CS.no rfl) (fc (CS.no rfl) (fc (CS.no rfl) (fun _ h => absurd h List.not_mem_nil)))))))))))))))))))))))))))))))))))
set_option maxRecDepth 100000 in
theorem cs_ml (xr d : Nat) (l : Launch) (h : Cn y_DV_matchFrom b_DV_matchFrom 4 (some .int) (rmm (1 + 2 * d + xr) 0 0) (3 + 1) 0 0 (pr_mf d) (po_mf d)) : ∀ x ∈ k_DV_matchLiteral, CS l R_DV b_DV_matchLiteral 15 (rmm (2 + 2 * d + xr) 0 0) 131 131 (C_ml d) x := fc (CS.no rfl) (fc (CS.no rfl) (fc (CS.no rfl) (fc (CS.no rfl) (fc (CS.no rfl) (fc (CS.no rfl) (fc (CS.no rfl) (fc (CS.no rfl) (fc (CS.no rfl) (fc (CS.no rfl) (fc (CS.no rfl) (fc (CS.no rfl) (fc (CS.no rfl) (fc (CS.no rfl) (fc (CS.no rfl) (fc (CS.no rfl) (fc (CS.no rfl) (fc (CS.no rfl) (fc (CS.no rfl) (fc (CS.no rfl) (fc (CS.no rfl) (fc (CS.no rfl) (fc (CS.no rfl) (fc (CS.no rfl) (fc (CS.no rfl) (fc (CS.no rfl) (fc (CS.no rfl) (fc (CS.no rfl) (fc (CS.no rfl) (fc (CS.no rfl) (fc (CS.no rfl) (fc (CS.no rfl) (fc (CS.no rfl) (fc (CS.no rfl) (fc (CS.no rfl) (fc (CS.no rfl) (fc (CS.no rfl) (fc (CS.no rfl) (fc (CS.no rfl) (fc (CS.SN c_PF_cell wk_PF_cell (host := R_PF) (List.mem_of_getElem? (i := 6) rfl) wt_PF_cell wi_PF dn_PF_cell ⟨rfl, rfl⟩ ⟨by show 0 + 1 ≤ 2 + 2 * d + xr; omega, by show 8 + (2 + 11) + 40 * (0) ≤ 40 * (2 + 2 * d + xr); omega⟩ ft_PF_cell rfl (e_DV_matchLiteral_78).1) (fc (CS.no rfl) (fc (CS.no rfl) (fc (CS.no rfl) (fc (CS.no rfl) (fc (CS.no rfl) (fc (CS.no rfl) (fc (CS.no rfl) (fc (CS.no rfl) (fc (CS.no rfl) (fc (CS.no rfl) (fc (CS.no rfl) (fc (CS.no rfl) (fc (CS.no rfl) (fc (CS.no rfl) (fc (CS.no rfl) (fc (CS.no rfl) (fc (CS.no rfl) (fc (CS.no rfl) (fc (CS.no rfl) (fc (CS.no rfl) (fc (CS.no rfl) (fc (CS.no rfl) (fc (CS.no rfl) (fc (CS.no rfl) (fc (CS.no rfl) (fc (CS.no rfl) (fc (CS.no rfl) (fc (CS.no rfl) (fc (CS.no rfl) (fc (CS.no rfl) (fc (CS.no rfl) (fc (CS.V c_DV_bind wk_DV_bind wl_DV_34 wm_DV_bind we_DV_bind rfl rfl wi_DV dn_DV_bind ⟨rfl, rfl⟩ ⟨by show 0 + 1 ≤ 2 + 2 * d + xr; omega, by show 8 + (3 + 11) + 40 * (0) ≤ 40 * (2 + 2 * d + xr); omega⟩ ft_DV_bind rfl (e_DV_matchLiteral_138).1) (fc (CS.no rfl) (fc (CS.no rfl) (fc (CS.no rfl) (fc (CS.no rfl) (fc (CS.no rfl) (fc (CS.no rfl) (fc (CS.no rfl) (fc (CS.V c_DV_bind wk_DV_bind wl_DV_34 wm_DV_bind we_DV_bind rfl rfl wi_DV dn_DV_bind ⟨rfl, rfl⟩ ⟨by show 0 + 1 ≤ 2 + 2 * d + xr; omega, by show 8 + (3 + 11) + 40 * (0) ≤ 40 * (2 + 2 * d + xr); omega⟩ ft_DV_bind rfl (e_DV_matchLiteral_155).1) (fc (CS.no rfl) (fc (CS.no rfl) (fc (CS.no rfl) (fc (CS.no rfl) (fc (CS.no rfl) (fc (CS.no rfl) (fc (CS.no rfl) (fc (CS.no rfl) (fc (CS.V h wk_DV_matchFrom wl_DV_41 wm_DV_matchFrom we_DV_matchFrom rfl rfl wi_DV dn_DV_matchFrom ⟨rfl, rfl⟩ ⟨by show 1 + 2 * d + xr + 1 ≤ 2 + 2 * d + xr; omega, by show 8 + (4 + 11) + 40 * (1 + 2 * d + xr) ≤ 40 * (2 + 2 * d + xr); omega⟩ (ft_mf d) rfl (e_DV_matchLiteral_169).1) (fc (CS.no rfl) (fc (CS.no rfl) (fc (CS.no rfl) (fc (CS.no rfl) (fc (CS.no rfl) (fc (CS.no rfl) (fc (CS.no rfl) (fc (CS.no rfl) (fc (CS.no rfl) (fc (CS.no rfl) (fc (CS.no rfl) (fc (CS.no rfl) (fc (CS.no rfl) (fc (CS.no rfl) (fc (CS.no rfl) (fc (CS.no rfl) (fc (CS.no rfl) (fc (CS.no rfl) (fun _ h => absurd h List.not_mem_nil)))))))))))))))))))))))))))))))))))))))))))))))))))))))))))))))))))))))))))))))))))))))))))))))))))))))))))
set_option maxRecDepth 100000 in
set_option maxHeartbeats 4000000 in
theorem c_mf0 (xr : Nat) : Cn y_DV_matchFrom b_DV_matchFrom 4 (some .int) (rmm (1 + 2 * 0 + xr) 0 0) (3 + 1) 0 0 (pr_mf 0) (po_mf 0) := cv_RRI (ci := 6) (f := f_mf 0) (g := g_mf 0) fun l k x0 x1 x2 μ hk h => by
  obtain ⟨hm, h⟩ := h
  obtain ⟨M, L, rfl⟩ := hm.e
  obtain ⟨rfl, rfl, hv, i, len, p, hi, rfl, hw, hlen, hp, rfl⟩ := h
  have hv : vok (M 104) := hv
  have hw : wR M i := hw
  have hlen : rln M i = len := hlen
  have hl3 : len ≤ 3 := by rw [← hlen]; exact wR_ln hw
  obtain ⟨-, ⟨n, hn3, hne⟩, hwh, hwb⟩ := id hw
  have hnl : n = len := by rw [← hlen]; unfold rln; rw [hne]; exact (nI_clamp (n := n) (by omega)).symm
  subst hnl
  have post : ∀ (r : Option Value) (μ' : Mm), r = some (.int (mmt M L i n 0 (M 104) (L 103 1)).1) → μ' = (131, M, up2 L 103 1 (mmt M L i n 0 (M 104) (L 103 1)).2, TT) → ∀ i', i' < 14 → 12 + 6 * i = 12 + 6 * i' → r = some (.int (mmt M L i' (rln M i') 0 (M 104) (L 103 1)).1) ∧ μ' = (131, M, up2 L 103 1 (mmt M L i' (rln M i') 0 (M 104) (L 103 1)).2, TT) := by
    intro r μ' h1 h2 i' _ hi'
    have : i' = i := by omega
    subst this
    rw [hlen]
    exact ⟨h1, h2⟩
  refine ky_met (own := R_DV) (ini := 0) (rb := 0) (nE := 131) (cd := k_DV_matchFrom) (C := C_mf0) (by decide) rfl (fun h => by cases h) (Nat.le_of_ble_eq_true rfl) ⟨rfl, rfl⟩ (Or.inl ⟨rfl, rfl⟩) rfl rfl (by decide) ok_DV_matchFrom (cs_mf0 xr l) rt_DV_matchFrom (fun K hs => ?_)
  refine hs.go [] 60 _ _ _ _ ⟨ioR hi, fun _ => ⟨rfl, rfl, _, rfl, ioR hi, _, TTh i hi, ioH hi, rfl, (tm_in hwh.2.1).1, rfl, _, rfl, ioR hi, _, TTh i hi, ioH hi, rfl, (tm_in hwh.2.2.1).1, ⟨⟨rfl, rfl⟩, trivial⟩, rfl, rfl, ?_⟩, fun z => absurd (show M (12 + 6 * i) 2 ≤ nI p by rw [hne, show p = n by omega]; exact Int32.le_refl _) z⟩
  rintro _ _ ⟨rfl, rfl⟩
  exact ⟨rfl, rfl, fun z => (by cases z), post _ _ rfl rfl⟩
set_option maxRecDepth 100000 in
set_option maxHeartbeats 4000000 in
theorem c_mfS (xr d : Nat) (H : Cn y_DV_matchLiteral b_DV_matchLiteral 15 (some .int) (rmm (2 + 2 * d + xr) 0 0) (3 + 1) 0 0 (pr_ml d) (po_ml d)) : Cn y_DV_matchFrom b_DV_matchFrom 4 (some .int) (rmm (1 + 2 * (d + 1) + xr) 0 0) (3 + 1) 0 0 (pr_mf (d + 1)) (po_mf (d + 1)) := cv_RRI (ci := 6) (f := f_mf (d + 1)) (g := g_mf (d + 1)) fun l k x0 x1 x2 μ hk h => by
  obtain ⟨hm, h⟩ := h
  obtain ⟨M, L, rfl⟩ := hm.e
  obtain ⟨rfl, rfl, hv, i, len, p, hi, rfl, hw, hlen, hp, rfl⟩ := h
  have hv : vok (M 104) := hv
  have hw : wR M i := hw
  have hlen : rln M i = len := hlen
  have hl3 : len ≤ 3 := by rw [← hlen]; exact wR_ln hw
  obtain ⟨-, ⟨n, hn3, hne⟩, hwh, hwb⟩ := id hw
  have hnl : n = len := by rw [← hlen]; unfold rln; rw [hne]; exact (nI_clamp (n := n) (by omega)).symm
  subst hnl
  have post : ∀ (r : Option Value) (μ' : Mm), r = some (.int (mmt M L i n (d + 1) (M 104) (L 103 1)).1) → μ' = (131, M, up2 L 103 1 (mmt M L i n (d + 1) (M 104) (L 103 1)).2, TT) → ∀ i', i' < 14 → 12 + 6 * i = 12 + 6 * i' → r = some (.int (mmt M L i' (rln M i') (d + 1) (M 104) (L 103 1)).1) ∧ μ' = (131, M, up2 L 103 1 (mmt M L i' (rln M i') (d + 1) (M 104) (L 103 1)).2, TT) := by
    intro r μ' h1 h2 i' _ hi'
    have : i' = i := by omega
    subst this
    rw [hlen]
    exact ⟨h1, h2⟩
  refine ky_met (own := R_DV) (ini := 0) (rb := 0) (nE := 131) (cd := k_DV_matchFrom) (C := (C_mfS d)) (by decide) rfl (fun h => by cases h) (Nat.le_of_ble_eq_true rfl) ⟨rfl, rfl⟩ (Or.inl ⟨rfl, rfl⟩) rfl rfl (by decide) ok_DV_matchFrom (cs_mfS xr d l H) rt_DV_matchFrom (fun K hs => ?_)
  refine hs.go [] 60 _ _ _ _ ⟨ioR hi, fun z => absurd (show M (12 + 6 * i) 2 ≤ nI p from z) (by rw [hne]; exact nI_ge (a := p) (b := n) (by omega) (by omega)), fun _ => ⟨fun z => absurd (show nI 3 ≤ nI p from z) (nI_ge (a := p) (b := 3) (by omega) (by omega)), fun _ => ⟨⟨rfl, ⟨rfl, rfl⟩, rfl, rfl, hv, i, n, p, hi, rfl, hw, hlen, hp, rfl⟩, rfl, rfl, ?_⟩⟩⟩
  intro r μ' hq
  obtain ⟨e1, e2⟩ := hq i hi rfl
  rw [e1, e2]
  refine ⟨rfl, fun z => (by cases z), post _ _ ?_ ?_⟩
  · show some (Value.int (mmt M L i (rln M i) (d + 1) (M 104) (L 103 1)).1) = _
    rw [hlen]
  · show (131, M, up2 L 103 1 (mmt M L i (rln M i) (d + 1) (M 104) (L 103 1)).2, TT) = _
    rw [hlen]
