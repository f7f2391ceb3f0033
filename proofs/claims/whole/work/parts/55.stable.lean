/-! rules as mathematics: a literal is a relation and two terms; a rule its head, its positive and its negated literals; what follows is the one stable model -/
abbrev Li : Type := Nat × Nat × Nat
abbrev Ru : Type := Li × List Li × List Li
abbrev Ip : Type := Nat → Nat → Prop
def vl (σ : Nat → Nat) (t : Nat) : Nat := if t < 10 then t else σ t
def cv (σ : Nat → Nat) (x : Li) : Nat := 6 * vl σ x.2.1 + vl σ x.2.2
def In2 (X N : Ip) (ρ : Ru) (c : Nat) : Prop := ∃ σ : Nat → Nat, (∀ t, σ t < 6) ∧ (∀ p ∈ ρ.2.1, X p.1 (cv σ p)) ∧ (∀ n ∈ ρ.2.2, ¬ N n.1 (cv σ n)) ∧ c = cv σ ρ.1
theorem In2.mono {X X' N N' : Ip} {ρ : Ru} {c : Nat} (h : In2 X N ρ c) (h1 : ∀ p ∈ ρ.2.1, ∀ c, X p.1 c → X' p.1 c) (h2 : ∀ n ∈ ρ.2.2, ∀ c, N' n.1 c → N n.1 c) : In2 X' N' ρ c := by
  obtain ⟨σ, a, b, d, e⟩ := h
  exact ⟨σ, a, fun p hp => h1 p hp _ (b p hp), fun n hn z => d n hn (h2 n hn _ z), e⟩
def Sb (R : Ru → Prop) (F I : Ip) : Prop := (∀ r c, F r c → I r c) ∧ (∀ ρ, R ρ → ∀ c, In2 I I ρ c → I ρ.1.1 c) ∧ ∀ X : Ip, (∀ r c, F r c → X r c) → (∀ ρ, R ρ → ∀ c, In2 X I ρ c → X ρ.1.1 c) → ∀ r c, I r c → X r c
def Sf (R : Ru → Prop) (s : Nat → Nat) : Prop := ∀ ρ, R ρ → (∀ p ∈ ρ.2.1, s p.1 ≤ s ρ.1.1) ∧ (∀ n ∈ ρ.2.2, s n.1 < s ρ.1.1)
theorem Sb.le {R : Ru → Prop} {F I J : Ip} {s : Nat → Nat} (hs : Sf R s) (hI : Sb R F I) (hJ : Sb R F J) (k : Nat) (ih : ∀ r, s r < k → ∀ c, J r c → I r c) : ∀ r, s r ≤ k → ∀ c, I r c → J r c := by
  intro r hr c h
  refine hI.2.2 (fun r c => s r ≤ k → J r c) (fun r c hf _ => hJ.1 r c hf) (fun ρ hρ c hc hk => hJ.2.1 ρ hρ c ?_) r c h hr
  obtain ⟨σ, h1, h2, h3, h4⟩ := hc
  exact ⟨σ, h1, fun p hp => h2 p hp (Nat.le_trans ((hs ρ hρ).1 p hp) hk), fun n hn hjn => h3 n hn (ih n.1 (Nat.lt_of_lt_of_le ((hs ρ hρ).2 n hn) hk) _ hjn), h4⟩
theorem Sb.uq {R : Ru → Prop} {F I J : Ip} {s : Nat → Nat} (hs : Sf R s) (hI : Sb R F I) (hJ : Sb R F J) : ∀ r c, I r c ↔ J r c := by
  have key : ∀ k r, s r < k → ∀ c, I r c ↔ J r c := by
    intro k
    induction k with
    | zero => intro r h; exact absurd h (Nat.not_lt_zero _)
    | succ k ih =>
      intro r h c
      exact ⟨hI.le hs hJ k (fun r hr c h => (ih r hr c).mpr h) r (by omega) c, hJ.le hs hI k (fun r hr c h => (ih r hr c).mp h) r (by omega) c⟩
  exact fun r c => key (s r + 1) r (Nat.lt_succ_self _) c
/-- one stratum: from Y to Y', the relations in S alone -/
def Sg (R : Ru → Prop) (S : Nat → Prop) (Y Y' : Ip) : Prop := (∀ r c, Y r c → Y' r c) ∧ (∀ r, ¬ S r → ∀ c, Y' r c → Y r c) ∧ (∀ ρ, R ρ → S ρ.1.1 → ∀ c, In2 Y' Y' ρ c → Y' ρ.1.1 c) ∧ ∀ X : Ip, (∀ r c, Y r c → X r c) → (∀ ρ, R ρ → S ρ.1.1 → ∀ c, In2 X Y ρ c → X ρ.1.1 c) → ∀ r c, Y' r c → X r c
/-- all strata, one behind the other: what comes out is stable -/
theorem Sg.all {R R0 : Ru → Prop} {F F0 I : Ip} {A : Nat → Prop} {s : Nat → Nat} {Y : Nat → Ip} {n : Nat} (hs : Sf R s) (hn : ∀ r, A r → s r < n) (hY : ∀ k, k < n → Sg R (fun r => A r ∧ s r = k) (Y k) (Y (k + 1)))
    (h0 : ∀ r, A r → ∀ c, Y 0 r c ↔ F r c) (h1 : ∀ r, ¬ A r → ∀ c, Y 0 r c ↔ I r c) (hI : (∃ r, ¬ A r) → Sb R0 F0 I) (hF : ∀ r, ¬ A r → ∀ c, F r c ↔ F0 r c) (hR : ∀ ρ, ¬ A ρ.1.1 → (R ρ ↔ R0 ρ)) (hA : ∀ ρ, R ρ → ¬ A ρ.1.1 → (∀ p ∈ ρ.2.1, ¬ A p.1) ∧ (∀ q ∈ ρ.2.2, ¬ A q.1)) : Sb R F (Y n) := by
  have up : ∀ j k, j ≤ k → k ≤ n → ∀ r c, Y j r c → Y k r c := by
    intro j k hjk
    induction k with
    | zero => intro _ r c h; rw [Nat.le_zero.mp hjk] at h; exact h
    | succ k ih =>
      intro hk r c h
      rcases Nat.lt_or_ge j (k + 1) with g | g
      · exact (hY k (by omega)).1 r c (ih (by omega) (by omega) r c h)
      · rw [show j = k + 1 by omega] at h; exact h
  have dn : ∀ j k, j ≤ k → k ≤ n → ∀ r, (∀ i, j ≤ i → i < k → ¬ (A r ∧ s r = i)) → ∀ c, Y k r c → Y j r c := by
    intro j k hjk
    induction k with
    | zero => intro _ r _ c h; rw [Nat.le_zero.mp hjk]; exact h
    | succ k ih =>
      intro hk r hr c h
      rcases Nat.lt_or_ge j (k + 1) with g | g
      · exact ih (by omega) (by omega) r (fun i h1 h2 => hr i h1 (by omega)) c ((hY k (by omega)).2.1 r (hr k (by omega) (by omega)) c h)
      · rw [show j = k + 1 by omega]; exact h
  have un : ∀ r, ¬ A r → ∀ c, Y n r c ↔ I r c := fun r hr c => ⟨fun h => (h1 r hr c).mp (dn 0 n (Nat.zero_le _) (Nat.le_refl _) r (fun i _ _ z => hr z.1) c h), fun h => up 0 n (Nat.zero_le _) (Nat.le_refl _) r c ((h1 r hr c).mpr h)⟩
  refine ⟨fun r c h => ?_, fun ρ hρ c h => ?_, fun X hX hXc => ?_⟩
  · by_cases hr : A r
    · exact up 0 n (Nat.zero_le _) (Nat.le_refl _) r c ((h0 r hr c).mpr h)
    · exact (un r hr c).mpr ((hI ⟨r, hr⟩).1 r c ((hF r hr c).mp h))
  · by_cases hr : A ρ.1.1
    · have hk := hn _ hr
      refine up (s ρ.1.1 + 1) n (by omega) (Nat.le_refl _) _ c ((hY _ hk).2.2.1 ρ hρ ⟨hr, rfl⟩ c (h.mono (fun p hp c hc => ?_) (fun q hq c hc => ?_)))
      · have := (hs ρ hρ).1 p hp
        exact dn (s ρ.1.1 + 1) n (by omega) (Nat.le_refl _) p.1 (fun i h1 h2 z => by omega) c hc
      · exact up (s ρ.1.1 + 1) n (by omega) (Nat.le_refl _) q.1 c hc
    · obtain ⟨g1, g2⟩ := hA ρ hρ hr
      refine (un _ hr c).mpr ((hI ⟨_, hr⟩).2.1 ρ ((hR ρ hr).mp hρ) c (h.mono (fun p hp c hc => (un p.1 (g1 p hp) c).mp hc) (fun q hq c hc => (un q.1 (g2 q hq) c).mpr hc)))
  · have hU : ∀ r, ¬ A r → ∀ c, I r c → X r c := by
      intro r hr c h
      refine (hI ⟨r, hr⟩).2.2 (fun r c => ¬ A r → X r c) (fun r c hf hr => hX r c ((hF r hr c).mpr hf)) (fun ρ hρ c hc hr => ?_) r c h hr
      have hρ' := (hR ρ hr).mpr hρ
      obtain ⟨g1, g2⟩ := hA ρ hρ' hr
      refine hXc ρ hρ' c ?_
      obtain ⟨σ, a1, a2, a3, a4⟩ := hc
      exact ⟨σ, a1, fun p hp => a2 p hp (g1 p hp), fun q hq z => a3 q hq ((un q.1 (g2 q hq) _).mp z), a4⟩
    have all : ∀ k, k ≤ n → ∀ r c, Y k r c → X r c := by
      intro k
      induction k with
      | zero =>
        intro _ r c h
        by_cases hr : A r
        · exact hX r c ((h0 r hr c).mp h)
        · exact hU r hr c ((h1 r hr c).mp h)
      | succ k ih =>
        intro hk r c h
        refine (hY k (by omega)).2.2.2 X (ih (by omega)) (fun ρ hρ hS c hc => hXc ρ hρ c (hc.mono (fun _ _ _ z => z) (fun q hq c z => ?_))) r c h
        have := (hs ρ hρ).2 q hq
        exact dn k n (by omega) (Nat.le_refl _) q.1 (fun i h1 h2 z => by have := hS.2; omega) c z
    exact all n (Nat.le_refl _)
/-- a rule fires: only its head grows, by what follows; if nothing grew, nothing was left -/
def Fr (ρ : Ru) (Y Y' : Ip) : Prop := (∀ r c, Y r c → Y' r c) ∧ (∀ r, r ≠ ρ.1.1 → ∀ c, Y' r c → Y r c) ∧ ∀ X : Ip, (∀ r c, Y r c → X r c) → (∀ c, In2 X Y ρ c → X ρ.1.1 c) → ∀ r c, Y' r c → X r c
theorem Fr.refl (ρ : Ru) (Y : Ip) : Fr ρ Y Y := ⟨fun _ _ h => h, fun _ _ _ h => h, fun _ h _ => h⟩
/-- steps within a stratum -/
def Fs (R : Ru → Prop) (S : Nat → Prop) (Y Y' : Ip) : Prop := (∀ r c, Y r c → Y' r c) ∧ (∀ r, ¬ S r → ∀ c, Y' r c → Y r c) ∧ ∀ X : Ip, (∀ r c, Y r c → X r c) → (∀ ρ, R ρ → S ρ.1.1 → ∀ c, In2 X Y ρ c → X ρ.1.1 c) → ∀ r c, Y' r c → X r c
theorem Fs.refl (R : Ru → Prop) (S : Nat → Prop) (Y : Ip) : Fs R S Y Y := ⟨fun _ _ h => h, fun _ _ _ h => h, fun _ h _ => h⟩
theorem Fs.fire {R : Ru → Prop} {S : Nat → Prop} {Y Y1 Y2 : Ip} {ρ : Ru} (h : Fs R S Y Y1) (hn : ∀ q ∈ ρ.2.2, ¬ S q.1) (hρ : R ρ) (hS : S ρ.1.1) (hf : Fr ρ Y1 Y2) : Fs R S Y Y2 := by
  refine ⟨fun r c z => hf.1 r c (h.1 r c z), fun r hr c z => h.2.1 r hr c (hf.2.1 r (fun e => hr (e ▸ hS)) c z), fun X h1 h2 => hf.2.2 X (h.2.2 X h1 h2) (fun c hc => h2 ρ hρ hS c (hc.mono (fun _ _ _ z => z) (fun q hq c z => h.1 q.1 c z)))⟩
theorem Fs.end {R : Ru → Prop} {S : Nat → Prop} {Y Y' : Ip} (h : Fs R S Y Y') (hc : ∀ ρ, R ρ → S ρ.1.1 → ∀ c, In2 Y' Y' ρ c → Y' ρ.1.1 c) : Sg R S Y Y' := ⟨h.1, h.2.1, hc, h.2.2⟩
