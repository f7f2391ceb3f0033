/-! strata: the least ranking, and how raising finds it -/
abbrev Cst : Type := Nat → Nat → Nat → Prop
/-- a ranking keeps all constraints (head, body, 0 or 1) -/
def Rkg (C : Cst) (s : Nat → Nat) : Prop := ∀ h b n, C h b n → s b + n ≤ s h
/-- constraints as rules make them: relations below 14, the library's own heads below 9 need nothing -/
def Cok (C : Cst) : Prop := ∀ h b n, C h b n → h < 14 ∧ b < 14 ∧ n ≤ 1 ∧ (h < 9 → b < 9 ∧ n = 0)
/-- a raising: all constraints of D are looked at -/
def Rp (C D : Cst) (f f' : Nat → Nat) : Prop := (∀ r, f r ≤ f' r) ∧ (∀ s, Rkg C s → (∀ r, f r ≤ s r) → ∀ r, f' r ≤ s r) ∧ (∀ h b n, D h b n → f b + n ≤ f' h) ∧ ((∀ r, r < 9 → f r = 0) → ∀ r, r < 9 → f' r = 0)
theorem Rp.refl (C : Cst) (f : Nat → Nat) : Rp C (fun _ _ _ => False) f f := ⟨fun _ => Nat.le_refl _, fun _ _ h => h, fun _ _ _ h => h.elim, fun h => h⟩
theorem Rp.comp {C D1 D2 : Cst} {f f1 f2 : Nat → Nat} (h1 : Rp C D1 f f1) (h2 : Rp C D2 f1 f2) : Rp C (fun h b n => D1 h b n ∨ D2 h b n) f f2 := by
  refine ⟨fun r => Nat.le_trans (h1.1 r) (h2.1 r), fun s hs hf => h2.2.1 s hs (h1.2.1 s hs hf), fun h b n hd => ?_, fun hz => h2.2.2.2 (h1.2.2.2 hz)⟩
  rcases hd with hd | hd
  · exact Nat.le_trans (h1.2.2.1 h b n hd) (h2.1 h)
  · have := h2.2.2.1 h b n hd
    have := h1.1 b
    omega
theorem Rp.wk {C D D' : Cst} {f f' : Nat → Nat} (h : Rp C D f f') (hd : ∀ a b n, D' a b n → D a b n) : Rp C D' f f' := ⟨h.1, h.2.1, fun a b n z => h.2.2.1 a b n (hd a b n z), h.2.2.2⟩
/-- one raising of a head -/
theorem Rp.one {C D : Cst} (hC : Cok C) {f f' : Nat → Nat} {h0 : Nat} (h1 : ∀ r, r ≠ h0 → f' r = f r) (h2 : f h0 ≤ f' h0) (hD : ∀ h b n, D h b n → h = h0 ∧ C h b n ∧ f b + n ≤ f' h0) (hm : f' h0 = f h0 ∨ ∃ b n, C h0 b n ∧ f' h0 = f b + n) : Rp C D f f' := by
  refine ⟨fun r => ?_, fun s hs hf r => ?_, fun h b n hd => ?_, fun hz r hr => ?_⟩
  · by_cases e : r = h0
    · rw [e]; exact h2
    · rw [h1 r e]; exact Nat.le_refl _
  · by_cases e : r = h0
    · subst e
      rcases hm with hm | ⟨b, n, hc, hm⟩
      · rw [hm]; exact hf r
      · rw [hm]
        have := hs r b n hc
        have := hf b
        omega
    · rw [h1 r e]; exact hf r
  · obtain ⟨rfl, _, h3⟩ := hD h b n hd
    exact h3
  · by_cases e : r = h0
    · subst e
      rcases hm with hm | ⟨b, n, hc, hm⟩
      · rw [hm]; exact hz r hr
      · obtain ⟨_, _, _, g⟩ := hC r b n hc
        obtain ⟨g1, g2⟩ := g hr
        rw [hm, hz b g1, g2]
    · rw [h1 r e]; exact hz r hr
theorem lst_n {P : Nat → Prop} (h : ∃ n, P n) : ∃ n, P n ∧ ∀ m, P m → n ≤ m := by
  obtain ⟨n, hn⟩ := h
  induction n using Nat.strongRecOn with
  | ind n ih =>
    by_cases hx : ∃ m, m < n ∧ P m
    · obtain ⟨m, hm, hp⟩ := hx
      exact ih m hm hp
    · exact ⟨n, hn, fun m hp => Nat.not_lt.mp fun z => hx ⟨m, z, hp⟩⟩
/-- where there is a ranking there is a least one -/
theorem lst_rk {C : Cst} (h : ∃ s, Rkg C s) : ∃ ρ, Rkg C ρ ∧ ∀ s, Rkg C s → ∀ r, ρ r ≤ s r := by
  have h1 : ∀ r, ∃ n, (∃ s, Rkg C s ∧ s r = n) ∧ ∀ m, (∃ s, Rkg C s ∧ s r = m) → n ≤ m := fun r => lst_n (by
    obtain ⟨s, hs⟩ := h
    exact ⟨s r, s, hs, rfl⟩)
  refine ⟨fun r => Classical.choose (h1 r), fun hd b n hc => ?_, fun s hs r => (Classical.choose_spec (h1 r)).2 _ ⟨s, hs, rfl⟩⟩
  obtain ⟨⟨s, hs, e⟩, _⟩ := Classical.choose_spec (h1 hd)
  have h3 := (Classical.choose_spec (h1 b)).2 _ ⟨s, hs, rfl⟩
  have h4 := hs hd b n hc
  show Classical.choose (h1 b) + n ≤ Classical.choose (h1 hd)
  omega
theorem lst_z {C : Cst} (hC : Cok C) {ρ : Nat → Nat} (hρ : Rkg C ρ) (hl : ∀ s, Rkg C s → ∀ r, ρ r ≤ s r) : ∀ r, (r < 9 ∨ 14 ≤ r) → ρ r = 0 := by
  intro r hr
  have : ρ r ≤ (fun r => if r < 9 ∨ 14 ≤ r then 0 else ρ r) r := by
    refine hl (fun r => if r < 9 ∨ 14 ≤ r then 0 else ρ r) (fun h b n hc => ?_) r
    obtain ⟨c1, c2, c3, c4⟩ := hC h b n hc
    have := hρ h b n hc
    show (if b < 9 ∨ 14 ≤ b then 0 else ρ b) + n ≤ (if h < 9 ∨ 14 ≤ h then 0 else ρ h)
    by_cases hh : h < 9
    · obtain ⟨g1, g2⟩ := c4 hh
      rw [if_pos (Or.inl g1), g2]
      omega
    · rw [if_neg (show ¬ (h < 9 ∨ 14 ≤ h) by omega)]
      split <;> omega
  have h2 : (fun r => if r < 9 ∨ 14 ≤ r then 0 else ρ r) r = 0 := if_pos hr
  omega
theorem lst_c {C : Cst} (hC : Cok C) {ρ : Nat → Nat} (hρ : Rkg C ρ) (hl : ∀ s, Rkg C s → ∀ r, ρ r ≤ s r) (g : Nat → Nat) : pcn (fun r => decide (g r < ρ r)) 14 ≤ 5 := by
  have e : pcn (fun r => decide (g r < ρ r)) 9 = 0 := pcn_0 9 (fun c hc => decide_eq_false (by rw [lst_z hC hρ hl c (Or.inl hc)]; omega))
  show pcn (fun r => decide (g r < ρ r)) 9 + (if decide (g 9 < ρ 9) = true then 1 else 0) + (if decide (g 10 < ρ 10) = true then 1 else 0) + (if decide (g 11 < ρ 11) = true then 1 else 0) + (if decide (g 12 < ρ 12) = true then 1 else 0) + (if decide (g 13 < ρ 13) = true then 1 else 0) ≤ 5
  rw [e]
  have : ∀ p : Prop, ∀ [Decidable p], (if p then 1 else 0) ≤ 1 := fun p _ => by split <;> omega
  have t1 := this (decide (g 9 < ρ 9) = true)
  have t2 := this (decide (g 10 < ρ 10) = true)
  have t3 := this (decide (g 11 < ρ 11) = true)
  have t4 := this (decide (g 12 < ρ 12) = true)
  have t5 := this (decide (g 13 < ρ 13) = true)
  omega
theorem lst_5 {C : Cst} (hC : Cok C) {ρ : Nat → Nat} (hρ : Rkg C ρ) (hl : ∀ s, Rkg C s → ∀ r, ρ r ≤ s r) : ∀ r, ρ r ≤ 5 := by
  intro r
  apply Classical.byContradiction
  intro hr
  have h14 : r < 14 := Nat.not_le.mp fun z => hr (by rw [lst_z hC hρ hl r (Or.inr z)]; omega)
  -- each value from 1 to 5 is taken
  have att : ∀ v, 1 ≤ v → v ≤ 5 → ∃ x, x < 14 ∧ ρ x = v := by
    intro v h1 h5
    apply Classical.byContradiction
    intro hno
    have hn : ∀ x, ρ x ≠ v := fun x e => hno ⟨x, Nat.not_le.mp fun z => by have := lst_z hC hρ hl x (Or.inr z); omega, e⟩
    have : ρ r ≤ (fun x => if v < ρ x then ρ x - 1 else ρ x) r := by
      refine hl (fun x => if v < ρ x then ρ x - 1 else ρ x) (fun h b n hc => ?_) r
      obtain ⟨c1, c2, c3, c4⟩ := hC h b n hc
      have := hρ h b n hc
      have := hn b
      have := hn h
      show (if v < ρ b then ρ b - 1 else ρ b) + n ≤ (if v < ρ h then ρ h - 1 else ρ h)
      split <;> split <;> omega
    have h2 : (fun x => if v < ρ x then ρ x - 1 else ρ x) r = ρ r - 1 := if_pos (by omega)
    omega
  have step : ∀ v, 1 ≤ v → v ≤ 5 → pcn (fun x => decide (v < ρ x)) 14 < pcn (fun x => decide (v - 1 < ρ x)) 14 := by
    intro v h1 h5
    obtain ⟨x, hx, e⟩ := att v h1 h5
    refine pcn_lt 14 (fun c _ z => decide_eq_true (by have := of_decide_eq_true z; omega)) ⟨x, hx, decide_eq_false (by omega), decide_eq_true (by omega)⟩
  have s1 : pcn (fun x => decide (1 < ρ x)) 14 < pcn (fun x => decide (0 < ρ x)) 14 := step 1 (by omega) (by omega)
  have s2 : pcn (fun x => decide (2 < ρ x)) 14 < pcn (fun x => decide (1 < ρ x)) 14 := step 2 (by omega) (by omega)
  have s3 : pcn (fun x => decide (3 < ρ x)) 14 < pcn (fun x => decide (2 < ρ x)) 14 := step 3 (by omega) (by omega)
  have s4 : pcn (fun x => decide (4 < ρ x)) 14 < pcn (fun x => decide (3 < ρ x)) 14 := step 4 (by omega) (by omega)
  have s5 : pcn (fun x => decide (5 < ρ x)) 14 < pcn (fun x => decide (4 < ρ x)) 14 := step 5 (by omega) (by omega)
  have s6 : 0 < pcn (fun x => decide (5 < ρ x)) 14 := by
    have := pcn_lt (f := fun _ => false) (g := fun x => decide (5 < ρ x)) 14 (fun _ _ z => by cases z) ⟨r, h14, rfl, decide_eq_true (by omega)⟩
    omega
  have c0 : pcn (fun x => decide (0 < ρ x)) 14 ≤ 5 := lst_c hC hρ hl (fun _ => 0)
  omega
/-- as long as something is below the least ranking, a round brings one more up to it -/
theorem rd_lt {C : Cst} (hC : Cok C) {ρ : Nat → Nat} (hρ : Rkg C ρ) (hl : ∀ s, Rkg C s → ∀ r, ρ r ≤ s r) {f f' : Nat → Nat} (hR : Rp C C f f') (hf : ∀ r, f r ≤ ρ r) (hx : ∃ r, f r < ρ r) : pcn (fun r => decide (f' r < ρ r)) 14 < pcn (fun r => decide (f r < ρ r)) 14 := by
  have hf' := hR.2.1 ρ hρ hf
  refine pcn_lt 14 (fun c _ z => decide_eq_true (by have := of_decide_eq_true z; have := hR.1 c; omega)) ?_
  apply Classical.byContradiction
  intro hno
  -- then the relations below stay below: lower them all by one
  have same : ∀ r, f r < ρ r → f' r < ρ r := by
    intro r hr
    apply Classical.byContradiction
    intro z
    have h14 : r < 14 := Nat.not_le.mp fun y => by have := lst_z hC hρ hl r (Or.inr y); omega
    exact hno ⟨r, h14, decide_eq_false z, decide_eq_true hr⟩
  obtain ⟨r, hr⟩ := hx
  have : ρ r ≤ (fun x => if f x < ρ x then ρ x - 1 else ρ x) r := by
    refine hl (fun x => if f x < ρ x then ρ x - 1 else ρ x) (fun h b n hc => ?_) r
    have h1 := hρ h b n hc
    have h2 := hR.2.2.1 h b n hc
    have h3 := hf b
    show (if f b < ρ b then ρ b - 1 else ρ b) + n ≤ (if f h < ρ h then ρ h - 1 else ρ h)
    by_cases hh : f h < ρ h
    · have h4 := same h hh
      rw [if_pos hh]
      split <;> omega
    · rw [if_neg hh]
      split <;> omega
  have h2 : (fun x => if f x < ρ x then ρ x - 1 else ρ x) r = ρ r - 1 := if_pos hr
  omega
/-- a round that raises nothing leaves a ranking -/
theorem rd_fix {C : Cst} {f : Nat → Nat} (hR : Rp C C f f) : Rkg C f := fun h b n hc => hR.2.2.1 h b n hc
def sm14 (f : Nat → Nat) : Nat → Nat
  | 0 => 0
  | n + 1 => sm14 f n + f n
theorem sm_le {f g : Nat → Nat} : ∀ n, (∀ r, r < n → f r ≤ g r) → sm14 f n ≤ sm14 g n
  | 0, _ => Nat.le_refl _
  | n + 1, h => Nat.add_le_add (sm_le n (fun r hr => h r (by omega))) (h n (by omega))
theorem sm_lt {f g : Nat → Nat} : ∀ n, (∀ r, r < n → f r ≤ g r) → (∃ r, r < n ∧ f r < g r) → sm14 f n < sm14 g n
  | 0, _, ⟨r, hr, _⟩ => absurd hr (Nat.not_lt_zero _)
  | n + 1, h, ⟨r, hr, hx⟩ => by
    have i1 := sm_le n (fun r hr => h r (by omega))
    have i2 := h n (by omega)
    unfold sm14
    by_cases e : r = n
    · subst e; omega
    · have := sm_lt n (fun r hr => h r (by omega)) ⟨r, by omega, hx⟩
      omega
theorem sm_25 {f : Nat → Nat} (hz : ∀ r, r < 9 → f r = 0) (h5 : ∀ r, r < 14 → f r ≤ 5) : sm14 f 14 ≤ 25 := by
  show 0 + f 0 + f 1 + f 2 + f 3 + f 4 + f 5 + f 6 + f 7 + f 8 + f 9 + f 10 + f 11 + f 12 + f 13 ≤ 25
  rw [hz 0 (by omega), hz 1 (by omega), hz 2 (by omega), hz 3 (by omega), hz 4 (by omega), hz 5 (by omega), hz 6 (by omega), hz 7 (by omega), hz 8 (by omega)]
  have := h5 9 (by omega)
  have := h5 10 (by omega)
  have := h5 11 (by omega)
  have := h5 12 (by omega)
  have := h5 13 (by omega)
  omega
