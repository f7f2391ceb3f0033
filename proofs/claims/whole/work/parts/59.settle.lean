/-! a stratum is settled -/
def cOK (M : mM) : Prop := (∀ i, i < 14 → wR M i) ∧ VR (M 104) ∧ ∀ i, i < 14 → ¬ M (12 + 6 * i) 4 = 0 → cS M i ∧ cRd M i
theorem vp_nI {x : Int32} {n : Nat} (h : vp_in x n) : x = nI x.toNatClampNeg := by
  have h0 : ¬ x < 0 := fun z => h (Or.inl z)
  have h1 : 0 ≤ x.toInt := by
    rw [Int32.lt_iff_toInt_lt] at h0
    have : (0 : Int32).toInt = 0 := rfl
    omega
  apply Int32.toInt_inj.mp
  have h2 : x.toInt < 2147483648 := Int32.toInt_lt x
  have e : x.toNatClampNeg = x.toInt.toNat := rfl
  rw [e, show (nI x.toInt.toNat).toInt = (x.toInt.toNat : Int) from Int32.toInt_ofNat_of_lt (by omega)]
  omega
/-- the rule stands, and its head is one of those that are settled now -/
def cHe (M : mM) (aff str : Int32) (n : Nat) : Prop := ¬ M (12 + 6 * n) 4 = 0 ∧ ib aff (rhd M n) = true ∧ M 96 (rhd M n) = str
def cDu (M : mM) (news : Int32) (n : Nat) : Prop := rln M n = 0 ∨ ¬ M (12 + 6 * n) 3 &&& news = 0
theorem rhd_14 {M : mM} {i : Nat} (h : wR M i) : rhd M i < 14 ∧ M (13 + 6 * i) 0 = nI (rhd M i) := ⟨cl_lt h.2.2.1.1, vp_nI h.2.2.1.1⟩
theorem fcB_h {M : mM} {aff str news : Int32} {n : Nat} (hW : wR M n) : fcB M aff str news n = true ↔ cHe M aff str n ∧ cDu M news n := by
  obtain ⟨h1, h2⟩ := rhd_14 hW
  obtain ⟨_, ⟨m, hm, em⟩, _⟩ := hW
  rw [fcB_e]
  unfold fcd cHe cDu
  rw [h2, ib_ibt (by omega)]
  have e1 : rln M n = m := by unfold rln; rw [em]; exact nI_clamp (n := m) (by omega)
  have e2 : M (12 + 6 * n) 2 = 0 ↔ rln M n = 0 := by
    rw [em, e1]
    exact nI_eq (a := m) (b := 0) (by omega) (by decide)
  rw [e2]
  constructor
  · rintro ⟨⟨a, b, c⟩, d⟩
    exact ⟨⟨a, ts_nf b, c⟩, d⟩
  · rintro ⟨⟨a, b, c⟩, d⟩
    exact ⟨⟨a, by rw [b]; decide, c⟩, d⟩
def cCl (M : mM) (T : Nat → Int64) (i : Nat) : Prop := ∀ c, In2 (ipc T) (ipc T) (cRu M i) c → ipc T (rhd M i) c
theorem updL_s {f : Nat → Int64} {k : Nat} {x : Int64} : vp_updL f k x k = x := if_pos rfl
theorem updL_o {f : Nat → Int64} {k j : Nat} {x : Int64} (h : j ≠ k) : vp_updL f k x j = f j := if_neg h
section ROUND
variable {M : mM} {L : mL} {aff str news : Int32} {T : Nat → Int64}
theorem faT_1 {n : Nat} (hf : fcB M aff str news n = true) : faT M L aff str news T (n + 1) = vp_updL (faT M L aff str news T n) (rhd M n) (fnw M L (faT M L aff str news T n) n) := if_pos hf
theorem faT_0 {n : Nat} (hf : ¬ fcB M aff str news n = true) : faT M L aff str news T (n + 1) = faT M L aff str news T n := if_neg hf
theorem fa_fire (hM : cOK M) {n : Nat} (hn : n < 14) (hH : ¬ M (12 + 6 * n) 4 = 0) (U : Nat → Int64) : Fr (cRu M n) (ipc U) (ipc (vp_updL U (rhd M n) (fnw M L U n))) ∧ (∀ c, In2 (ipc U) (ipc U) (cRu M n) c → ipc (vp_updL U (rhd M n) (fnw M L U n)) (rhd M n) c) ∧ (¬ fnw M L U n = U (rhd M n) → ∃ c, c < 36 ∧ lb (U (rhd M n)) c = false ∧ lb (fnw M L U n) c = true) := by
  have hW := hM.1 n hn
  obtain ⟨hS, hR⟩ := hM.2.2 n hn hH
  have hr := (rhd_14 hW).1
  have key := fun c (hc : c < 64) => fnw_lb (L := L) (T := U) hW hS hM.2.1 (c := c) hc
  have big : ∀ (x : Int64) c, lb x c = true → c < 64 := fun x c h => Nat.not_le.mp (fun z => by rw [lb_big z] at h; cases h)
  refine ⟨⟨fun r c h => ?_, fun r hne c h => ?_, fun X h1 h2 r c h => ?_⟩, fun c h => ?_, fun hne => ?_⟩
  · refine ⟨h.1, ?_⟩
    by_cases e : r = rhd M n
    · subst e; rw [updL_s]; exact (key c (big _ c h.2)).mpr (Or.inl h.2)
    · rw [updL_o e]; exact h.2
  · have hne : r ≠ rhd M n := hne
    refine ⟨h.1, ?_⟩
    have := h.2
    rwa [updL_o hne] at this
  · by_cases e : r = rhd M n
    · subst e
      have h' := h.2
      rw [updL_s] at h'
      rcases (key c (big _ c h')).mp h' with g | g
      · exact h1 _ _ ⟨h.1, g⟩
      · exact h2 c (g.mono (fun p _ c z => h1 _ _ z) (fun _ _ _ z => z))
    · have h' := h.2
      rw [updL_o e] at h'
      exact h1 _ _ ⟨h.1, h'⟩
  · have hc := In2_36 hW h
    exact ⟨hr, by rw [updL_s]; exact (key c (by omega)).mpr (Or.inr h)⟩
  · apply Classical.byContradiction
    intro hno
    apply hne
    apply lb_ext
    intro c hc
    by_cases h1 : lb (U (rhd M n)) c = true
    · rw [h1]; exact (key c hc).mpr (Or.inl h1)
    · rw [ts_nt h1]
      apply ts_nt
      intro h2
      rcases (key c hc).mp h2 with g | g
      · exact h1 g
      · exact hno ⟨c, In2_36 hW g, ts_nt h1, h2⟩
theorem faT_mono (hM : cOK M) : ∀ n, n ≤ 14 → ∀ m, m ≤ n → ∀ r c, ipc (faT M L aff str news T m) r c → ipc (faT M L aff str news T n) r c
  | 0, _, m, hm, r, c, h => by rw [Nat.le_zero.mp hm] at h; exact h
  | n + 1, hn, m, hm, r, c, h => by
    rcases Nat.lt_or_ge m (n + 1) with g | g
    · have ih := faT_mono hM n (by omega) m (by omega) r c h
      unfold faT
      by_cases hf : fcB M aff str news n = true
      · rw [if_pos hf]
        exact (fa_fire (L := L) hM (n := n) (by omega) ((fcB_h (hM.1 n (by omega))).mp hf).1.1 _).1.1 r c ih
      · rw [if_neg hf]; exact ih
    · rw [show m = n + 1 by omega] at h; exact h
theorem faG_ch (hM : cOK M) {m r : Nat} (hr : r < 32) : ∀ n, n ≤ 14 → m ≤ n → ¬ faT M L aff str news T m r = faT M L aff str news T n r → ib (faG M L aff str news T n) r = true
  | 0, _, hm, h => by rw [Nat.le_zero.mp hm] at h; exact absurd rfl h
  | n + 1, hn, hm, h => by
    rcases Nat.lt_or_ge m (n + 1) with g | g
    · have ih := faG_ch hM (m := m) hr n (by omega) (by omega)
      have hW := hM.1 n (by omega)
      unfold faG
      by_cases hf : fcB M aff str news n = true
      · rw [if_pos hf, ib_or]
        by_cases h1 : faT M L aff str news T m r = faT M L aff str news T n r
        · rw [h1] at h
          have h2 : ¬ faT M L aff str news T n r = vp_updL (faT M L aff str news T n) (rhd M n) (fnw M L (faT M L aff str news T n) n) r := fun z => h (by rw [faT_1 hf]; exact z)
          by_cases e : r = rhd M n
          · subst e
            rw [updL_s] at h2
            unfold gbt
            rw [if_neg (fun z => h2 z.symm), (rhd_14 hW).2, ib_one _ (by have := (rhd_14 hW).1; omega) _ hr]
            simp
          · rw [updL_o e] at h2
            exact absurd rfl h2
        · rw [ih h1]; rfl
      · rw [if_neg hf]
        refine ih (fun z => h ?_)
        rw [faT_0 hf]
        exact z
    · rw [show m = n + 1 by omega] at h; exact absurd rfl h
theorem faG_nz (hM : cOK M) : ∀ n, n ≤ 14 → ¬ faG M L aff str news T n = 0 → ∃ r c, r < 14 ∧ c < 36 ∧ lb (T r) c = false ∧ lb (faT M L aff str news T n r) c = true
  | 0, _, h => absurd rfl h
  | n + 1, hn, h => by
    have hW := hM.1 n (by omega)
    have mono := faT_mono (L := L) (aff := aff) (str := str) (news := news) (T := T) hM
    by_cases h0 : faG M L aff str news T n = 0
    · unfold faG at h
      by_cases hf : fcB M aff str news n = true
      · rw [if_pos hf, h0] at h
        have hne : ¬ fnw M L (faT M L aff str news T n) n = faT M L aff str news T n (rhd M n) := by
          intro z
          apply h
          unfold gbt
          rw [if_pos z]
          rfl
        obtain ⟨c, hc, h1, h2⟩ := (fa_fire (L := L) hM (n := n) (by omega) ((fcB_h hW).mp hf).1.1 _).2.2 hne
        refine ⟨rhd M n, c, (rhd_14 hW).1, hc, ?_, ?_⟩
        · apply ts_nt
          intro z
          have := (mono n (by omega) 0 (by omega) _ c ⟨(rhd_14 hW).1, z⟩).2
          rw [h1] at this
          cases this
        · rw [faT_1 hf, updL_s]
          exact h2
      · rw [if_neg hf] at h
        exact absurd h0 h
    · obtain ⟨r, c, hr, hc, h1, h2⟩ := faG_nz hM n (by omega) h0
      exact ⟨r, c, hr, hc, h1, (mono (n + 1) hn n (by omega) r c ⟨hr, h2⟩).2⟩
theorem Fs.trans {R : Ru → Prop} {S : Nat → Prop} {Y Y1 Y2 : Ip} (h1 : Fs R S Y Y1) (h2 : Fs R S Y1 Y2) : Fs R S Y Y2 :=
  ⟨fun r c z => h2.1 r c (h1.1 r c z), fun r hr c z => h1.2.1 r hr c (h2.2.1 r hr c z), fun X g1 g2 => h2.2.2 X (h1.2.2 X g1 g2) (fun ρ hρ hS c hc => g2 ρ hρ hS c (hc.mono (fun _ _ _ z => z) (fun q _ c z => h1.1 q.1 c z)))⟩
theorem Fr.Fs {R : Ru → Prop} {S : Nat → Prop} {Y Y' : Ip} {ρ : Ru} (hρ : R ρ) (hS : S ρ.1.1) (h : Fr ρ Y Y') : Fs R S Y Y' :=
  ⟨h.1, fun r hr c z => h.2.1 r (fun e => hr (e ▸ hS)) c z, fun X g1 g2 => h.2.2 X g1 (fun c hc => g2 ρ hρ hS c hc)⟩
/-- the relations that are settled -/
def cSt (M : mM) (aff str : Int32) (r : Nat) : Prop := ib aff r = true ∧ M 96 r = str
theorem faT_Fs (hM : cOK M) : ∀ n, n ≤ 14 → Fs (cR M) (cSt M aff str) (ipc T) (ipc (faT M L aff str news T n))
  | 0, _ => Fs.refl _ _ _
  | n + 1, hn => by
    have ih := faT_Fs hM n (by omega)
    unfold faT
    by_cases hf : fcB M aff str news n = true
    · rw [if_pos hf]
      obtain ⟨hH, _⟩ := (fcB_h (hM.1 n (by omega))).mp hf
      exact ih.trans (Fr.Fs (ρ := cRu M n) ⟨n, by omega, hH.1, rfl⟩ ⟨hH.2.1, hH.2.2⟩ (fa_fire (L := L) hM (n := n) (by omega) hH.1 _).1)
    · rw [if_neg hf]; exact ih
/-- what holds at the beginning of a round: a rule that could tell something new is due -/
def cPr (M : mM) (aff str news : Int32) (T : Nat → Int64) : Prop := ∀ n, n < 14 → cHe M aff str n → cCl M T n ∨ (¬ news = 0 ∧ cDu M news n)
theorem rel_14 {M : mM} {i j : Nat} (h : wR M i) (hj : j < 3) : (cLi M (15 + 6 * i + j)).1 < 14 := cl_lt (h.2.2.2 j hj).1
theorem fa_round (hM : cOK M) (hP : cPr M aff str news T) : ∀ n, n < 14 → cHe M aff str n → cCl M (faT M L aff str news T 14) n ∨ ¬ M (12 + 6 * n) 3 &&& faG M L aff str news T 14 = 0 := by
  intro n hn hH
  have hW := hM.1 n hn
  have h3 := rln_3 hW
  obtain ⟨hS, hR⟩ := hM.2.2 n hn hH.1
  have mono := faT_mono (L := L) (aff := aff) (str := str) (news := news) (T := T) hM
  -- from a step k on where the rule is closed towards the end
  have step : ∀ k, k ≤ 14 → (∀ c, In2 (ipc (faT M L aff str news T k)) (ipc (faT M L aff str news T k)) (cRu M n) c → ipc (faT M L aff str news T 14) (rhd M n) c) → cCl M (faT M L aff str news T 14) n ∨ ¬ M (12 + 6 * n) 3 &&& faG M L aff str news T 14 = 0 := by
    intro k hk hcl
    by_cases hsame : ∀ j, j < rln M n → faT M L aff str news T k (cLi M (15 + 6 * n + j)).1 = faT M L aff str news T 14 (cLi M (15 + 6 * n + j)).1
    · left
      intro c hc
      refine hcl c (hc.mono (fun p hp c z => ?_) (fun p hp c z => ?_))
      · obtain ⟨j, hj, _, rfl⟩ := cPos_mem.mp hp
        exact ⟨z.1, by rw [hsame j hj]; exact z.2⟩
      · obtain ⟨j, hj, _, rfl⟩ := cNeg_mem.mp hp
        exact ⟨z.1, by rw [← hsame j hj]; exact z.2⟩
    · right
      obtain ⟨j, hj⟩ := Classical.not_forall.mp hsame
      obtain ⟨hj, hne⟩ := Classical.not_imp.mp hj
      have h14 := rel_14 hW (show j < 3 by omega)
      exact ib_nz (hR j hj) (faG_ch hM (show (M (15 + 6 * n + j) 0).toNatClampNeg < 32 from Nat.lt_trans h14 (by decide)) 14 (Nat.le_refl _) hk hne)
  by_cases hd : cDu M news n
  · refine step n (by omega) (fun c hc => ?_)
    have hf : fcB M aff str news n = true := (fcB_h hW).mpr ⟨hH, hd⟩
    have h1 := (fa_fire (L := L) hM hn hH.1 (faT M L aff str news T n)).2.1 c hc
    refine mono 14 (Nat.le_refl _) (n + 1) (by omega) _ c ?_
    rw [faT_1 hf]
    exact h1
  · rcases hP n hn hH with g | g
    · refine step 0 (by omega) (fun c hc => mono 14 (Nat.le_refl _) 0 (by omega) _ c (g c hc))
    · exact absurd g.2 hd
theorem stl_ok (hM : cOK M) : ∀ (n : Nat) (T : Nat → Int64) (news : Int32), 504 < totc T 14 + n → cPr M aff str news T → Fs (cR M) (cSt M aff str) (ipc T) (ipc (stl M L aff str n T news)) ∧ ∀ k, k < 14 → cHe M aff str k → cCl M (stl M L aff str n T news) k
  | 0, T, news, h, _ => by
    have := totc_le T 14
    omega
  | n + 1, T, news, h, hP => by
    unfold stl
    by_cases h0 : news = 0
    · rw [if_pos h0]
      refine ⟨Fs.refl _ _ _, fun k hk hH => ?_⟩
      rcases hP k hk hH with g | g
      · exact g
      · exact absurd h0 g.1
    · rw [if_neg h0]
      have f1 := faT_Fs (L := L) (aff := aff) (str := str) (news := news) (T := T) hM 14 (Nat.le_refl _)
      have r1 := fa_round (L := L) hM hP
      by_cases hG : faG M L aff str news T 14 = 0
      · have hz : stl M L aff str n (faT M L aff str news T 14) (faG M L aff str news T 14) = faT M L aff str news T 14 := by
          rw [hG]
          cases n with
          | zero => rfl
          | succ n => unfold stl; rw [if_pos rfl]
        rw [hz]
        refine ⟨f1, fun k hk hH => ?_⟩
        rcases r1 k hk hH with g | g
        · exact g
        · rw [hG] at g
          exact absurd (Int32.and_zero) g
      · have ht : totc T 14 < totc (faT M L aff str news T 14) 14 := by
          refine totc_lt 14 (fun r hr c hc z => (f1.1 r c ⟨hr, z⟩).2) ?_
          obtain ⟨r, c, hr, hc, h1, h2⟩ := faG_nz hM 14 (Nat.le_refl _) hG
          exact ⟨r, c, hr, hc, h1, h2⟩
        obtain ⟨i1, i2⟩ := stl_ok hM n (faT M L aff str news T 14) (faG M L aff str news T 14) (by omega) (fun k hk hH => by
          rcases r1 k hk hH with g | g
          · exact Or.inl g
          · exact Or.inr ⟨hG, Or.inr g⟩)
        exact ⟨f1.trans i1, i2⟩
end ROUND
/-- one stratum -/
theorem stl_Sg {M : mM} {L : mL} {aff : Int32} (hM : cOK M) {k : Nat} (hk : k < 6) (h96 : ∀ r, r < 14 → ∃ a, a < 6 ∧ M 96 r = nI a) (T : Nat → Int64) : Sg (cR M) (fun r => (r < 14 ∧ ib aff r = true) ∧ (M 96 r).toNatClampNeg = k) (ipc T) (ipc (stl M L aff (nI k) 505 T (-1))) := by
  have e96 : ∀ r, r < 14 → ((M 96 r).toNatClampNeg = k ↔ M 96 r = nI k) := by
    intro r hr
    obtain ⟨a, ha, e⟩ := h96 r hr
    rw [e, nI_clamp (n := a) (by omega)]
    exact (nI_eq (a := a) (b := k) (by omega) (by omega)).symm
  obtain ⟨h1, h2⟩ := stl_ok (L := L) (aff := aff) (str := nI k) hM 505 T (-1) (by omega) (fun n hn hH => by
    refine Or.inr ⟨by decide, ?_⟩
    by_cases h0 : rln M n = 0
    · exact Or.inl h0
    · refine Or.inr (ib_nz ((hM.2.2 n hn hH.1).2 0 (by omega)) (ib_m1 _ ?_))
      have := rel_14 (hM.1 n hn) (show 0 < 3 by decide)
      exact Nat.lt_trans this (by decide))
  have hd : ∀ ρ, cR M ρ → (((ρ.1.1 < 14 ∧ ib aff ρ.1.1 = true) ∧ (M 96 ρ.1.1).toNatClampNeg = k) ↔ cSt M aff (nI k) ρ.1.1) := by
    rintro ρ ⟨i, hi, hH, rfl⟩
    have h14 := (rhd_14 (hM.1 i hi)).1
    have e := e96 _ h14
    constructor
    · rintro ⟨⟨_, a⟩, b⟩
      exact ⟨a, e.mp b⟩
    · rintro ⟨a, b⟩
      exact ⟨⟨h14, a⟩, e.mpr b⟩
  refine ⟨h1.1, fun r hr c z => h1.2.1 r (fun g => hr ⟨⟨z.1, g.1⟩, (e96 r z.1).mpr g.2⟩) c z, fun ρ hρ hS c hc => ?_, fun X g1 g2 => h1.2.2 X g1 (fun ρ hρ hS c hc => g2 ρ hρ ((hd ρ hρ).mpr hS) c hc)⟩
  have hS' := (hd ρ hρ).mp hS
  obtain ⟨i, hi, hH, rfl⟩ := hρ
  exact h2 i hi ⟨hH, hS'.1, hS'.2⟩ c hc
