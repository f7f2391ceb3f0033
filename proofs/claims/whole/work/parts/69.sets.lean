/-! class and reference: sets, and the number of instances -/
def ovr (v' γ : Vl) : Vl := fun t => if t < 6 ∨ (10 ≤ t ∧ t ≤ 13) then γ t else v' t
theorem ovr_t {v' γ : Vl} {t : Nat} (h : tmO t) : ovr v' γ t = γ t := if_pos h
theorem bnd_ovr {v' v : Vl} {f : Nat} {a : Int32} (hf : tmO f) : bnd (ovr v' v) f a = (bnd v f a).map (ovr v') := by
  unfold bnd
  rw [ovr_t hf]
  by_cases h1 : v f = -1
  · rw [if_pos h1, if_pos h1]
    show some _ = some _
    congr 1
    funext t
    by_cases e : t = f
    · subst e; rw [upd_s, ovr_t hf, upd_s]
    · rw [upd_o e]
      unfold ovr
      rw [upd_o e]
  · rw [if_neg h1, if_neg h1]
    by_cases h2 : v f = a
    · rw [if_pos h2, if_pos h2]; rfl
    · rw [if_neg h2, if_neg h2]; rfl
theorem st2_ovr {v' v : Vl} {f s c : Nat} (hf : tmO f) (hs : tmO s) : st2 (ovr v' v) f s c = (st2 v f s c).map (ovr v') := by
  unfold st2
  rw [bnd_ovr hf]
  cases bnd v f (nI (c / 6)) with
  | none => rfl
  | some v1 => exact bnd_ovr hs
theorem flat_map' {l : List Nat} {F : Nat → List Vl} {g : Vl → Vl} : (l.flatMap F).map g = l.flatMap (fun c => (F c).map g) := by
  induction l with
  | nil => rfl
  | cons a l ih => rw [List.flatMap_cons, List.map_append, ih, List.flatMap_cons]
theorem en_ovr {v' : Vl} : ∀ (xs : List Lt) (v : Vl), (∀ p ∈ xs, tmO p.1 ∧ tmO p.2.1) → en xs (ovr v' v) = (en xs v).map (ovr v')
  | [], v, _ => rfl
  | p :: xs, v, ht => by
    obtain ⟨t1, t2⟩ := ht p List.mem_cons_self
    show (List.range 36).flatMap _ = ((List.range 36).flatMap _).map _
    rw [flat_map']
    apply flat_cong
    intro c hc
    by_cases hb : p.2.2 c = true
    · simp only [if_pos hb]
      rw [st2_ovr t1 t2]
      cases st2 v p.1 p.2.1 c with
      | none => rfl
      | some v1 => exact en_ovr xs v1 (fun q hq => ht q (List.mem_cons_of_mem _ hq))
    · simp only [if_neg hb]
      rfl
theorem en_len {xs : List Lt} {v v' : Vl} {P : Vl → Bool} (ht : ∀ p ∈ xs, tmO p.1 ∧ tmO p.2.1) (hv : ∀ t, tmO t → v' t = v t) (hP : ∀ γ γ' : Vl, (∀ t, tmO t → γ' t = γ t) → P γ' = P γ) : ((en xs v').filter P).length = ((en xs v).filter P).length := by
  have e : v' = ovr v' v := by
    funext t
    unfold ovr
    split
    · rename_i h; exact hv t h
    · rfl
  conv => lhs; rw [e, en_ovr xs v ht]
  rw [List.filter_map, List.length_map]
  congr 1
  apply List.filter_congr
  intro γ _
  exact hP γ (ovr v' γ) (fun t h => ovr_t h)
theorem Pnh_c {S : Nat → Nat → Bool} {ns : List Li} {h : Li} {c : Nat} (h1 : tmO h.2.1 ∧ tmO h.2.2) (hn : ∀ x ∈ ns, tmO x.2.1 ∧ tmO x.2.2) {γ γ' : Vl} (e : ∀ t, tmO t → γ' t = γ t) : Pnh S ns h c γ' = Pnh S ns h c γ := by
  have g : ∀ x : Li, tmO x.2.1 ∧ tmO x.2.2 → gc γ' x.2.1 x.2.2 = gc γ x.2.1 x.2.2 := by
    intro x hx
    unfold gc
    rw [e _ hx.1, e _ hx.2]
  unfold Pnh
  rw [g h h1]
  congr 1
  rw [Bool.eq_iff_iff, List.all_eq_true, List.all_eq_true]
  exact ⟨fun z x hx => by rw [← g x (hn x hx)]; exact z x hx, fun z x hx => by rw [g x (hn x hx)]; exact z x hx⟩
/-- the sets of both sides are the same -/
def EQs (M : mM) (X Y : Nat → Int64) : Prop := (∀ r c, ipc X r c ↔ ipr M Y r c) ∧ RB M Y
theorem EQs.big {M : mM} {X Y : Nat → Int64} (h : EQs M X Y) {r : Nat} (hr : r < 14) {c : Nat} (hc : 36 ≤ c) : lb (X r) c = false := by
  apply ts_nt
  intro z
  obtain ⟨_, t, ht, hb, e⟩ := (h.1 r c).mp ⟨hr, z⟩
  obtain ⟨g1, g2⟩ := h.2 r hr t (by omega) hb
  unfold cel at e
  by_cases hu : M 110 r = 1
  · rw [if_pos hu] at e; have := g2 hu; omega
  · rw [if_neg hu] at e; omega
theorem EQs.un {M : mM} {X Y : Nat → Int64} (h : EQs M X Y) {r : Nat} (hr : r < 14) (hu : M 110 r = 1) : (∀ t, lb (X r) (6 * t) = lb (Y r) t) ∧ (∀ c, c % 6 ≠ 0 → lb (X r) c = false) ∧ ∀ t, 6 ≤ t → lb (Y r) t = false := by
  have y6 : ∀ t, 6 ≤ t → lb (Y r) t = false := by
    intro t ht
    apply ts_nt
    intro z
    by_cases h64 : t < 64
    · have := (h.2 r hr t h64 z).2 hu
      omega
    · rw [lb_big (by omega)] at z; cases z
  refine ⟨fun t => ?_, fun c hc => ?_, y6⟩
  · rw [Bool.eq_iff_iff]
    constructor
    · intro z
      obtain ⟨_, t', _, hb, e⟩ := (h.1 r (6 * t)).mp ⟨hr, z⟩
      unfold cel at e
      rw [if_pos hu] at e
      rw [show t = t' by omega]
      exact hb
    · intro z
      have : t < 6 := Nat.not_le.mp fun y => by rw [y6 t y] at z; cases z
      exact ((h.1 r (6 * t)).mpr ⟨hr, t, by omega, z, by unfold cel; rw [if_pos hu]⟩).2
  · apply ts_nt
    intro z
    obtain ⟨_, t', _, hb, e⟩ := (h.1 r c).mp ⟨hr, z⟩
    unfold cel at e
    rw [if_pos hu] at e
    omega
theorem EQs.bi {M : mM} {X Y : Nat → Int64} (h : EQs M X Y) {r : Nat} (hr : r < 14) (hu : ¬ M 110 r = 1) : ∀ c, lb (X r) c = lb (Y r) c := by
  intro c
  rw [Bool.eq_iff_iff]
  constructor
  · intro z
    obtain ⟨_, t', _, hb, e⟩ := (h.1 r c).mp ⟨hr, z⟩
    unfold cel at e
    rw [if_neg hu] at e
    rw [e]; exact hb
  · intro z
    have h64 : c < 64 := Nat.not_le.mp fun y => by rw [lb_big y] at z; cases z
    have := (h.2 r hr c h64 z).1
    exact ((h.1 r c).mpr ⟨hr, c, this, z, by unfold cel; rw [if_neg hu]⟩).2
theorem pcn_6 {f g : Nat → Bool} (h1 : ∀ t, f (6 * t) = g t) (h2 : ∀ c, c % 6 ≠ 0 → f c = false) : ∀ n, pcn f (6 * n) = pcn g n
  | 0 => rfl
  | n + 1 => by
    have e : pcn f (6 * (n + 1)) = pcn f (6 * n) + (if f (6 * n) = true then 1 else 0) + (if f (6 * n + 1) = true then 1 else 0) + (if f (6 * n + 2) = true then 1 else 0) + (if f (6 * n + 3) = true then 1 else 0) + (if f (6 * n + 4) = true then 1 else 0) + (if f (6 * n + 5) = true then 1 else 0) := rfl
    rw [e, pcn_6 h1 h2 n, h1, h2 (6 * n + 1) (by omega), h2 (6 * n + 2) (by omega), h2 (6 * n + 3) (by omega), h2 (6 * n + 4) (by omega), h2 (6 * n + 5) (by omega)]
    rfl
theorem pcn_un {f g : Nat → Bool} (h1 : ∀ t, f (6 * t) = g t) (h2 : ∀ c, c % 6 ≠ 0 → f c = false) (h3 : ∀ t, 6 ≤ t → g t = false) : pcn f 36 = pcn g 36 := by
  rw [show (36 : Nat) = 6 * 6 from rfl, pcn_6 h1 h2 6, show (6 * 6 : Nat) = 6 + 30 from rfl]
  exact (pcn_add 6 30 (fun c h _ => h3 c h)).symm
theorem EQs.cnt {M : mM} {X Y : Nat → Int64} (h : EQs M X Y) {r : Nat} (hr : r < 14) : bc (X r) = szl (Y r) 36 := by
  rw [bc_pc (fun c h1 _ => h.big hr h1), szl_pc 36 (by decide)]
  congr 1
  by_cases hu : M 110 r = 1
  · obtain ⟨a, b, c⟩ := h.un hr hu
    exact pcn_un a b c
  · exact pcn_eq 36 (fun c _ => h.bi hr hu c)
theorem EQs.xor {M : mM} {X Y X' Y' : Nat → Int64} (h : EQs M X Y) (h' : EQs M X' Y') {r : Nat} (hr : r < 14) : bc (X r ^^^ X' r) = nI (pcn (lb (Y r ^^^ Y' r)) 36) := by
  rw [bc_pc (fun c h1 _ => by rw [lb_xor, h.big hr h1, h'.big hr h1]; rfl)]
  congr 1
  by_cases hu : M 110 r = 1
  · obtain ⟨a, b, c⟩ := h.un hr hu
    obtain ⟨a', b', c'⟩ := h'.un hr hu
    refine pcn_un (fun t => ?_) (fun c hc => ?_) (fun t ht => ?_)
    · rw [lb_xor, lb_xor, a, a']
    · rw [lb_xor, b c hc, b' c hc]; rfl
    · rw [lb_xor, c t ht, c' t ht]; rfl
  · exact pcn_eq 36 (fun c _ => by rw [lb_xor, lb_xor, h.bi hr hu c, h'.bi hr hu c])
theorem i64_32 (y : Int32) (b : Bool) : (y.toInt64 + (if b = true then 1 else 0)).toInt32 = y + (if b = true then 1 else 0) := by
  rw [Int64.toInt32_add, Int32.toInt32_toInt64]
  cases b <;> rfl
theorem dcc_pc {x : Int64} : ∀ (n c : Nat) (y : Int32), c + n ≤ 64 → dcc x n c y + nI (pcn (lb x) c) = y + nI (pcn (lb x) (c + n))
  | 0, c, y, _ => rfl
  | n + 1, c, y, h => by
    unfold dcc
    rw [lb_sb (by omega), i64_32]
    have ih := dcc_pc (x := x) n (c + 1) (y + (if lb x c = true then 1 else 0)) (by omega)
    have e : nI (pcn (lb x) (c + 1)) = nI (pcn (lb x) c) + (if lb x c = true then 1 else 0) := by
      show nI (pcn (lb x) c + (if lb x c = true then 1 else 0)) = _
      split
      · rw [nI_succ]
      · rw [Nat.add_zero]; exact (Int32.add_zero _).symm
    rw [e, show c + 1 + n = c + (n + 1) by omega] at ih
    generalize hz : (if lb x c = true then (1 : Int32) else 0) = z at ih ⊢
    have : dcc x n (c + 1) (y + z) + nI (pcn (lb x) c) + z = y + nI (pcn (lb x) (c + (n + 1))) + z := by
      rw [Int32.add_assoc, ih, Int32.add_assoc, Int32.add_comm z, ← Int32.add_assoc]
    have h2 := congrArg (fun w => w - z) this
    simp only [Int32.add_sub_cancel] at h2
    exact h2
theorem dcc_36 {x : Int64} (y : Int32) : dcc x 36 0 y = y + nI (pcn (lb x) 36) := by
  have := dcc_pc (x := x) 36 0 y (by decide)
  rw [show nI (pcn (lb x) 0) = 0 from rfl, Int32.add_zero] at this
  exact this
/-- changes: both sides count the tuples that differ -/
theorem cch_dct {M : mM} {LC LR : mL} (h : EQs M (LC 9) (LR 113)) (h' : EQs M (LC 8) (LR 112)) : ∀ (n i : Nat), i + n ≤ 14 → dct LR n i (cch LC i) = cch LC (i + n)
  | 0, i, _ => rfl
  | n + 1, i, hi => by
    unfold dct
    rw [dcc_36, ← h.xor h' (show i < 14 by omega)]
    have := cch_dct h h' n (i + 1) (by omega)
    rw [show i + 1 + n = i + (n + 1) by omega] at this
    exact this
