theorem arrV_cg {cA : ClassId} {n : Nat} {f g : Nat → Value} (h : ∀ j, j < n → f j = g j) : arrV cA n f = arrV cA n g := by
  unfold arrV
  congr 1
  apply Array.ext
  · simp
  · intro i h1 h2
    simp at h1
    simp [h i h1]
def cpI (μ : Mm) (a b : Nat) : Mm := match μ with | (n, f, g, z) => (n, upr f b (f a), g, z)
def cpL (μ : Mm) (a b : Nat) : Mm := match μ with | (n, f, g, z) => (n, f, upr g b (g a), z)
section KP
variable {p : Program} {l : Launch} {e : Env} {R : Room} {s : State} {m : MethodId} {args : Array Value} {below : List Frame} {meth : Method} {c : Code} {nL : Nat} {q : Aq} {D : va_G} {G : Nat → ClassId} {n0 : Nat} {Q : State → Prop} {cc : ByteArray}
theorem ky_cpI {z0 z4 : Int32} (hz0 : z0.toNatClampNeg = 0) (hz0n : ¬ z0 < 0) (hz4 : z4.toNatClampNeg = 14) (hz4n : ¬ z4 < 0) {pc ix a d : Nat} {own : String} {lv : List (Option Value)} {rest : List Value} {μ : Mm} (X0 : Cx p s m args c cc nL q D G own) (hl : Cond.methodLink own ix arraycopyName ∈ WS) (hRm : 1 ≤ R.frames ∧ 8 + (nativeFrameWords "java/lang/System" "arraycopy" 5 + 11) ≤ R.locals) (ha : isA μ a 0 = true) (hd : isA μ d 0 = true) (ha14 : (kd a).2 = 14) (hd14 : (kd d).2 = 14) (h8 : ct8 rest = true) (hdg : decode cc pc = .ok (.invokestatic ix, 3))
    (kk : KW p l e R s m args below meth c nL q D G n0 Q (pc + 3) lv rest (cpI μ a d)) : KW p l e R s m args below meth c nL q D G n0 Q pc lv (.int z4 :: .int z0 :: .ref d :: .int z0 :: .ref a :: rest) μ := by
  obtain ⟨hx, hb, hml, ho, hts, hK, hSX, hq0⟩ := X0
  intro H locs ls h1 h2 h3 h4 T hT X
  obtain ⟨ha1, ha2⟩ := isA_e ha
  obtain ⟨hd1, hd2⟩ := isA_e hd
  have hata := h2.2.2 a ha2
  have hatd := h2.2.2 d hd2
  rw [cx_0 ha1, ha14] at hata
  rw [cx_0 hd1, hd14] at hatd
  obtain ⟨n, f, g, z⟩ := μ
  have h9 : n ≤ 900 := h2.1
  have ha2 : a < n := ha2
  have hd2 : d < n := hd2
  have hc0 : H[q.1 + a]? = some (vp_cell (G 0) (14, .inl (f a))) := hata
  have hc1 : H[q.1 + d]? = some (vp_cell (G 0) (14, .inl (f d))) := hatd
  have h8' := ct8_e (q := q) h8
  obtain ⟨-, k0, hk0, cm0, hkk0⟩ := (hK.2 0 _ rfl).1 14 (fun j => .int (f a j))
  have nn : ∀ z : Int32, ¬ z < 0 → z.toInt = (z.toNatClampNeg : Int) := by
    intro z hz
    have hz0 : (0 : Int) ≤ z.toInt := by
      have := Int32.not_lt.mp hz
      simpa using Int32.le_iff_toInt_le.mp this
    show z.toInt = ((z.toInt.toNat : Nat) : Int)
    omega
  obtain ⟨vm', X', step⟩ := X.arraycopy hx ho (hts _ hl) (hts _ wv_SY) (hts _ wt_SY_arraycopy) (hts _ wi_SY) (src := q.1 + a) (dst := q.1 + d) (cs := vp_cell (G 0) (14, .inl (f a))) (cd := vp_cell (G 0) (14, .inl (f d))) (srcPos := z0) (destPos := z0) (n := z4) (by rw [hT]; exact hc0) (by rw [hT]; exact hc1)
    (fun _ h => by cases h) (fun _ h => by cases h) (fun h => by cases h) (fun h => by cases h) hk0 hk0 hkk0 hkk0 (by simp [refKind]) hz0n hz0n hz4n
    (by show ¬ _ > ((arrV (G 0) 14 (fun j => .int (f a j))).slots.size : Int); rw [arrV_size, nn z0 hz0n, nn z4 hz4n, hz0, hz4]; omega)
    (by show ¬ _ > ((arrV (G 0) 14 (fun j => .int (f d j))).slots.size : Int); rw [arrV_size, nn z0 hz0n, nn z4 hz4n, hz0, hz4]; omega)
    (fun vm₁ _ i hi => by
      have hi : i < 14 := by rw [← hz4]; exact hi
      have e : (vp_cell (G 0) (14, .inl (f a))).slots.getD (z0.toNatClampNeg + i) .null = .int (f a i) := by
        show (arrV (G 0) 14 (fun j => .int (f a j))).slots.getD _ _ = _
        rw [hz0, Array.getD_eq_getD_getElem?, arrV_read _ _ (by omega), Nat.zero_add]
        rfl
      refine ⟨?_, ?_⟩
      · rw [e]
        rfl
      · rw [e]
        exact trivial)
    (g := F0 m pc ls (.int z4 :: .int z0 :: .ref (q.1 + d) :: .int z0 :: .ref (q.1 + a) :: rest.map (tv q))) rfl (by rw [hml]; exact h1.2.1) (rest := rest.map (tv q)) rfl (by rw [hb]; exact hdg) hRm.1 (by show 2 * 0 + _ + _ ≤ _; omega)
  have e0 : copied (vp_cell (G 0) (14, .inl (f a))) (vp_cell (G 0) (14, .inl (f d))) z0 z0 z4 = vp_cell (G 0) (14, .inl (va_cpy (f a) (f d) z0.toNatClampNeg z0.toNatClampNeg z4.toNatClampNeg)) := va_copied (fun z => .int z) (G 0) (G 0) (f a) (f d) (by rw [hz0, hz4]; exact Nat.le_refl 14)
  have e2 : vp_cell (G 0) (14, .inl (va_cpy (f a) (f d) z0.toNatClampNeg z0.toNatClampNeg z4.toNatClampNeg)) = vp_cell (G 0) (14, .inl (f a)) := by
    rw [vp_cell_i, vp_cell_i, hz0, hz4]
    refine arrV_cg (fun j hj => ?_)
    rw [pk_cpy_in (Nat.zero_le _) (by omega)]
    simp
  have e1 := e0.trans e2
  rw [e1] at X' step
  have hl' : q.1 + d < H.size := (Array.getElem?_eq_some_iff.mp hc1).1
  have hheap : ((T.setVm vm').setCell (q.1 + d) (vp_cell (G 0) (14, .inl (f a)))).heap = H.setIfInBounds (q.1 + d) (vp_cell (G 0) (14, .inl (f a))) := by rw [← hT]; rfl
  have oq : ∀ x : Nat, x ≠ q.1 + d → (H.setIfInBounds (q.1 + d) (vp_cell (G 0) (14, .inl (f a))))[x]? = H[x]? := fun x hx => by simp [Array.getElem?_setIfInBounds, Ne.symm hx]
  have hsz : (H.setIfInBounds (q.1 + d) (vp_cell (G 0) (14, .inl (f a)))).size = H.size := by simp
  have hW : Wd q D G (cpI (n, f, g, z) a d) (H.setIfInBounds (q.1 + d) (vp_cell (G 0) (14, .inl (f a)))) := by
    refine h2.chg d rfl hsz oq ?_ ?_
    · rw [cx_0 hd1, hd14]
      show (H.setIfInBounds (q.1 + d) _)[q.1 + d]? = some (vp_cell (G 0) (14, .inl (upr f d (f a) d)))
      rw [upr_s]
      simp [Array.getElem?_setIfInBounds, hl']
    · intro j hj
      exact ⟨upr_k hj, rfl, rfl⟩
  obtain ⟨t, a1, b1⟩ := kk _ _ ls h1 hW ⟨by rw [hsz]; exact h3.1, fun x g1 g2 => by
      rw [oq x (fun e => g2 (by rw [e]; exact Nat.le_add_right _ _))]
      exact h3.2.1 x g1 g2, fun x hx => by
      rcases List.mem_append.mp hx with h | h
      · exact h3.2.2 x h
      · obtain ⟨w, -, hw⟩ := List.mem_map.mp h
        rw [← hw]
        exact Nat.le_add_right _ _⟩ h4 _ hheap X'
  refine ⟨t, ?_, b1⟩
  have := step t a1
  show Steps p.tables e below (T.setTop (F0 m pc ls (.int z4 :: .int z0 :: .ref (ra q d) :: .int z0 :: .ref (ra q a) :: rest.map (tv q)))) t
  rw [ra_lt (show d < 1000 by omega), ra_lt (show a < 1000 by omega)]
  exact this
theorem ky_cpL {z0 z4 : Int32} (hz0 : z0.toNatClampNeg = 0) (hz0n : ¬ z0 < 0) (hz4 : z4.toNatClampNeg = 14) (hz4n : ¬ z4 < 0) {pc ix a d : Nat} {own : String} {lv : List (Option Value)} {rest : List Value} {μ : Mm} (X0 : Cx p s m args c cc nL q D G own) (hl : Cond.methodLink own ix arraycopyName ∈ WS) (hRm : 1 ≤ R.frames ∧ 8 + (nativeFrameWords "java/lang/System" "arraycopy" 5 + 11) ≤ R.locals) (ha : isA μ a 1 = true) (hd : isA μ d 1 = true) (ha14 : (kd a).2 = 14) (hd14 : (kd d).2 = 14) (h8 : ct8 rest = true) (hdg : decode cc pc = .ok (.invokestatic ix, 3))
    (kk : KW p l e R s m args below meth c nL q D G n0 Q (pc + 3) lv rest (cpL μ a d)) : KW p l e R s m args below meth c nL q D G n0 Q pc lv (.int z4 :: .int z0 :: .ref d :: .int z0 :: .ref a :: rest) μ := by
  obtain ⟨hx, hb, hml, ho, hts, hK, hSX, hq0⟩ := X0
  intro H locs ls h1 h2 h3 h4 T hT X
  obtain ⟨ha1, ha2⟩ := isA_e ha
  obtain ⟨hd1, hd2⟩ := isA_e hd
  have hata := h2.2.2 a ha2
  have hatd := h2.2.2 d hd2
  rw [cx_1 ha1, ha14] at hata
  rw [cx_1 hd1, hd14] at hatd
  obtain ⟨n, f, g, z⟩ := μ
  have h9 : n ≤ 900 := h2.1
  have ha2 : a < n := ha2
  have hd2 : d < n := hd2
  have hc0 : H[q.1 + a]? = some (vp_cell (G 1) (14, .inr (.inl (g a)))) := hata
  have hc1 : H[q.1 + d]? = some (vp_cell (G 1) (14, .inr (.inl (g d)))) := hatd
  have h8' := ct8_e (q := q) h8
  obtain ⟨-, k0, hk0, cm0, hkk0⟩ := (hK.2 1 _ rfl).1 14 (fun j => .long (g a j))
  have nn : ∀ z : Int32, ¬ z < 0 → z.toInt = (z.toNatClampNeg : Int) := by
    intro z hz
    have hz0 : (0 : Int) ≤ z.toInt := by
      have := Int32.not_lt.mp hz
      simpa using Int32.le_iff_toInt_le.mp this
    show z.toInt = ((z.toInt.toNat : Nat) : Int)
    omega
  obtain ⟨vm', X', step⟩ := X.arraycopy hx ho (hts _ hl) (hts _ wv_SY) (hts _ wt_SY_arraycopy) (hts _ wi_SY) (src := q.1 + a) (dst := q.1 + d) (cs := vp_cell (G 1) (14, .inr (.inl (g a)))) (cd := vp_cell (G 1) (14, .inr (.inl (g d)))) (srcPos := z0) (destPos := z0) (n := z4) (by rw [hT]; exact hc0) (by rw [hT]; exact hc1)
    (fun _ h => by cases h) (fun _ h => by cases h) (fun h => by cases h) (fun h => by cases h) hk0 hk0 hkk0 hkk0 (by simp [refKind]) hz0n hz0n hz4n
    (by show ¬ _ > ((arrV (G 1) 14 (fun j => .long (g a j))).slots.size : Int); rw [arrV_size, nn z0 hz0n, nn z4 hz4n, hz0, hz4]; omega)
    (by show ¬ _ > ((arrV (G 1) 14 (fun j => .long (g d j))).slots.size : Int); rw [arrV_size, nn z0 hz0n, nn z4 hz4n, hz0, hz4]; omega)
    (fun vm₁ _ i hi => by
      have hi : i < 14 := by rw [← hz4]; exact hi
      have e : (vp_cell (G 1) (14, .inr (.inl (g a)))).slots.getD (z0.toNatClampNeg + i) .null = .long (g a i) := by
        show (arrV (G 1) 14 (fun j => .long (g a j))).slots.getD _ _ = _
        rw [hz0, Array.getD_eq_getD_getElem?, arrV_read _ _ (by omega), Nat.zero_add]
        rfl
      refine ⟨?_, ?_⟩
      · rw [e]
        rfl
      · rw [e]
        exact trivial)
    (g := F0 m pc ls (.int z4 :: .int z0 :: .ref (q.1 + d) :: .int z0 :: .ref (q.1 + a) :: rest.map (tv q))) rfl (by rw [hml]; exact h1.2.1) (rest := rest.map (tv q)) rfl (by rw [hb]; exact hdg) hRm.1 (by show 2 * 0 + _ + _ ≤ _; omega)
  have e0 : copied (vp_cell (G 1) (14, .inr (.inl (g a)))) (vp_cell (G 1) (14, .inr (.inl (g d)))) z0 z0 z4 = vp_cell (G 1) (14, .inr (.inl (va_cpy (g a) (g d) z0.toNatClampNeg z0.toNatClampNeg z4.toNatClampNeg))) := va_copied (fun z => .long z) (G 1) (G 1) (g a) (g d) (by rw [hz0, hz4]; exact Nat.le_refl 14)
  have e2 : vp_cell (G 1) (14, .inr (.inl (va_cpy (g a) (g d) z0.toNatClampNeg z0.toNatClampNeg z4.toNatClampNeg))) = vp_cell (G 1) (14, .inr (.inl (g a))) := by
    rw [vp_cell_l, vp_cell_l, hz0, hz4]
    refine arrV_cg (fun j hj => ?_)
    rw [pk_cpy_in (Nat.zero_le _) (by omega)]
    simp
  have e1 := e0.trans e2
  rw [e1] at X' step
  have hl' : q.1 + d < H.size := (Array.getElem?_eq_some_iff.mp hc1).1
  have hheap : ((T.setVm vm').setCell (q.1 + d) (vp_cell (G 1) (14, .inr (.inl (g a))))).heap = H.setIfInBounds (q.1 + d) (vp_cell (G 1) (14, .inr (.inl (g a)))) := by rw [← hT]; rfl
  have oq : ∀ x : Nat, x ≠ q.1 + d → (H.setIfInBounds (q.1 + d) (vp_cell (G 1) (14, .inr (.inl (g a)))))[x]? = H[x]? := fun x hx => by simp [Array.getElem?_setIfInBounds, Ne.symm hx]
  have hsz : (H.setIfInBounds (q.1 + d) (vp_cell (G 1) (14, .inr (.inl (g a))))).size = H.size := by simp
  have hW : Wd q D G (cpL (n, f, g, z) a d) (H.setIfInBounds (q.1 + d) (vp_cell (G 1) (14, .inr (.inl (g a))))) := by
    refine h2.chg d rfl hsz oq ?_ ?_
    · rw [cx_1 hd1, hd14]
      show (H.setIfInBounds (q.1 + d) _)[q.1 + d]? = some (vp_cell (G 1) (14, .inr (.inl (upr g d (g a) d))))
      rw [upr_s]
      simp [Array.getElem?_setIfInBounds, hl']
    · intro j hj
      exact ⟨rfl, upr_k hj, rfl⟩
  obtain ⟨t, a1, b1⟩ := kk _ _ ls h1 hW ⟨by rw [hsz]; exact h3.1, fun x g1 g2 => by
      rw [oq x (fun e => g2 (by rw [e]; exact Nat.le_add_right _ _))]
      exact h3.2.1 x g1 g2, fun x hx => by
      rcases List.mem_append.mp hx with h | h
      · exact h3.2.2 x h
      · obtain ⟨w, -, hw⟩ := List.mem_map.mp h
        rw [← hw]
        exact Nat.le_add_right _ _⟩ h4 _ hheap X'
  refine ⟨t, ?_, b1⟩
  have := step t a1
  show Steps p.tables e below (T.setTop (F0 m pc ls (.int z4 :: .int z0 :: .ref (ra q d) :: .int z0 :: .ref (ra q a) :: rest.map (tv q)))) t
  rw [ra_lt (show d < 1000 by omega), ra_lt (show a < 1000 by omega)]
  exact this
end KP
def trO : List Value → Mm → (List Value → Mm → Prop) → Prop := fun st μ P => p1r st fun _ r => ct8 r = true ∧ P r μ
def trM : List Value → Mm → (List Value → Mm → Prop) → Prop := fun st μ P => p2i st fun y x r => ct8 r = true ∧ μ.1 ≤ 131 ∧ P (.int (if x < y then y else x) :: r) μ
def trY : List Value → Mm → (List Value → Mm → Prop) → Prop := fun st μ P => match st with
  | .int n :: .int dp :: .ref d :: .int sp :: .ref a :: r => n = 14 ∧ dp = 0 ∧ sp = 0 ∧ (kd a).2 = 14 ∧ (kd d).2 = 14 ∧ ct8 r = true ∧ ((isA μ a 0 = true ∧ isA μ d 0 = true ∧ P r (cpI μ a d)) ∨ (isA μ a 1 = true ∧ isA μ d 1 = true ∧ P r (cpL μ a d)))
  | _ => False
theorem trY_e {st : List Value} {μ : Mm} {P : List Value → Mm → Prop} (h : trY st μ P) : ∃ d a r, st = .int 14 :: .int 0 :: .ref d :: .int 0 :: .ref a :: r ∧ (kd a).2 = 14 ∧ (kd d).2 = 14 ∧ ct8 r = true ∧ ((isA μ a 0 = true ∧ isA μ d 0 = true ∧ P r (cpI μ a d)) ∨ (isA μ a 1 = true ∧ isA μ d 1 = true ∧ P r (cpL μ a d))) := by
  unfold trY at h; split at h
  · obtain ⟨rfl, rfl, rfl, h⟩ := h
    exact ⟨_, _, _, rfl, h⟩
  · exact h.elim
theorem CS.O {l : Launch} {own : String} {cc : ByteArray} {nL : Nat} {R : Room} {n0 nE : Nat} {C : Cf} {pc ix : Nat} {x : En} (hl : Cond.methodLink own ix objectInit ∈ WS) (hRm : 1 ≤ R.frames ∧ 20 ≤ R.locals) (hC : C x.2.2.2.2.1 = trO) (hd : decode cc pc = .ok (.invokespecial ix, 3)) : CS l own cc nL R n0 nE C (pc, x) := by
  intro _ p e s m args below meth c q D G Q X0 hRc hRs lv st μ P hP h
  have h : trO st μ P := by rw [← hC]; exact h
  obtain ⟨k, r, rfl, h8, h⟩ := p1r_e h
  exact ky_objI (nE := nE) X0 hl wm_OB_init wk_OB_init hRm h8 hd (hP _ _ h)
theorem CS.M {l : Launch} {own : String} {cc : ByteArray} {nL : Nat} {R : Room} {nE : Nat} {C : Cf} {pc ix : Nat} {x : En} (hl : Cond.methodLink own ix Lib.Math.max.name ∈ WS) (hRm : 1 ≤ R.frames ∧ 21 ≤ R.locals) (hC : C x.2.2.2.2.1 = trM) (hd : decode cc pc = .ok (.invokestatic ix, 3)) : CS l own cc nL R 131 nE C (pc, x) := by
  intro _ p e s m args below meth c q D G Q X0 hRc hRs lv st μ P hP h
  have h : trM st μ P := by rw [← hC]; exact h
  obtain ⟨y, x, r, rfl, h8, hn, h⟩ := p2i_e h
  have hcz := cz_mono hn
  exact ky_max X0 hl wt_MT_max wi_MT wk_MT_max hRm (by omega) (by omega) h8 hd (hP _ _ h)
theorem CS.Y {l : Launch} {own : String} {cc : ByteArray} {nL : Nat} {R : Room} {n0 nE : Nat} {C : Cf} {pc ix : Nat} {x : En} (hl : Cond.methodLink own ix arraycopyName ∈ WS) (hRm : 1 ≤ R.frames ∧ 8 + (nativeFrameWords "java/lang/System" "arraycopy" 5 + 11) ≤ R.locals) (hC : C x.2.2.2.2.1 = trY) (hd : decode cc pc = .ok (.invokestatic ix, 3)) : CS l own cc nL R n0 nE C (pc, x) := by
  intro _ p e s m args below meth c q D G Q X0 hRc hRs lv st μ P hP h
  have h : trY st μ P := by rw [← hC]; exact h
  obtain ⟨d, a, r, rfl, g1, g2, h8, h⟩ := trY_e h
  rcases h with ⟨f1, f2, h⟩ | ⟨f1, f2, h⟩
  · exact ky_cpI (z0 := 0) (z4 := 14) rfl (by decide) rfl (by decide) X0 hl hRm f1 f2 g1 g2 h8 hd (hP _ _ h)
  · exact ky_cpL (z0 := 0) (z4 := 14) rfl (by decide) rfl (by decide) X0 hl hRm f1 f2 g1 g2 h8 hd (hP _ _ h)

