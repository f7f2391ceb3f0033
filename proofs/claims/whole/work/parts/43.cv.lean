theorem fvl_cv {q : Aq} {r : Nat → Int32} {w : Nat → Int64} {z z' : Nat → Option Nat} {l : List Nat} (h : ∀ j, j < l.length → z' j = z j) : fvl q r w z' l = fvl q r w z l := by
  unfold fvl
  refine List.map_congr_left (fun j hj => ?_)
  exact fv_cg rfl rfl (h j (List.mem_range.mp hj))
theorem cx_cv {q : Aq} {D : va_G} {G : Nat → ClassId} {H : Heap} {a : Nat} {t : Nat × Nat} {r : Nat → Int32} {w : Nat → Int64} {z z' : Nat → Option Nat} (h : ∀ j, j < sz t → z' j = z j) (hv : va_at D vwCl (a, cx q G t r w z) H) : va_at D vwCl (a, cx q G t r w z') H := by
  match t with
  | (0, n) => exact hv
  | (1, n) => exact hv
  | (2, n) => exact hv
  | (3, n) =>
    have hv : H[a]? = some (vp_cell (G 3) (n, .inr (.inr (.inr (.inr (fun j => (z j).map (ra q))))))) := hv
    show H[a]? = some (vp_cell (G 3) (n, .inr (.inr (.inr (.inr (fun j => (z' j).map (ra q)))))))
    rw [hv, vp_cell_q, vp_cell_q]
    refine congrArg some (arrV_cg fun j hj => ?_)
    have : z' j = z j := h j hj
    simp only [this]
  | (4, n) =>
    have hv : H[a]? = some (vp_cell (G 4) (n, .inr (.inr (.inr (.inr (fun j => (z j).map (ra q))))))) := hv
    show H[a]? = some (vp_cell (G 4) (n, .inr (.inr (.inr (.inr (fun j => (z' j).map (ra q)))))))
    rw [hv, vp_cell_q, vp_cell_q]
    refine congrArg some (arrV_cg fun j hj => ?_)
    have : z' j = z j := h j hj
    simp only [this]
  | (c + 5, m) =>
    have e : fvl q r w z' (fk c) = fvl q r w z (fk c) := fvl_cv h
    show va_at D vwCl (a, .inr (c, fvl q r w z' (fk c))) H
    rw [e]
    exact hv
/-- a memory may be told by another one that is the same in its cells -/
def Cv (K : Ky) : Prop := ∀ (pc : Nat) (lv : List (Option Value)) (st : List Value) (n : Nat) (M M' : mM) (L L' : mL) (T T' : mT), (∀ k, k < n → M' k = M k ∧ L' k = L k ∧ ∀ j, j < sz (kd k) → T' k j = T k j) → K pc lv st (n, M', L', T') → K pc lv st (n, M, L, T)
theorem Wd.cv {q : Aq} {D : va_G} {G : Nat → ClassId} {n : Nat} {M M' : mM} {L L' : mL} {T T' : mT} {H : Heap} (h : Wd q D G (n, M, L, T) H) (hr : ∀ k, k < n → M' k = M k ∧ L' k = L k ∧ ∀ j, j < sz (kd k) → T' k j = T k j) : Wd q D G (n, M', L', T') H := by
  refine ⟨h.1, h.2.1, fun k hk => ?_⟩
  obtain ⟨e1, e2, e3⟩ := hr k hk
  show va_at D vwCl (q.1 + k, cx q G (kd k) (M' k) (L' k) (T' k)) H
  rw [e1, e2]
  exact cx_cv e3 (h.2.2 k hk)
theorem ky_metC {l : Launch} {y : MethodName} {bytes : ByteArray} {maxL : Nat} {ret : Option FieldType} {rm : Room} {own : String} {ini rb nE mc ms : Nat} {cd : List (Nat × En)} {C : Cf} {as : List Value} {μ : Mm} {post : Option Value → Mm → Prop} (hy : plainName y.cls = true) (hown : y.cls = own) (hini : ini = 1 → y.name = "<init>") (hlen : (lvE as).length ≤ maxL) (hrm : rm.cells = mc ∧ rm.slots = ms) (hret : (rb = 0 ∧ ret = some .int) ∨ (rb = 1 ∧ ret = some .boolean) ∨ (rb = 2 ∧ ret = some .long) ∨ (rb = 3 ∧ ret = none)) (hnE : nE = μ.1 + mc) (hz : cz nE = cz μ.1 + ms) (hE : nE ≤ 900)
    (hok : ∀ x ∈ cd, okE own ini bytes x) (hCS : ∀ x ∈ cd, CS l own bytes maxL rm μ.1 nE C x) (hrt : ∀ x ∈ cd, okR rb x.2.1 = true)
    (body : ∀ K : Ky, Spk nE (0, fun _ => 0) rb C post K cd → Cv K → K 0 (lvp maxL as) [] μ) : Ct l y (.code y bytes maxL ret :: WS) rm as μ mc ms post := by
  intro q D G
  refine Met.ofW (cc := bytes) (maxL := maxL) (ret := ret) hy rfl ?_
  intro p e s m args below meth c s₁ B hml hv
  obtain ⟨rfl, hW, hK, hSX⟩ := hv
  have hx := B.exec
  have hb := B.bytes
  have hr := B.returns
  have hts0 := atoms_spec (ws := .code y bytes maxL ret :: WS) B.pre
  have hts : ∀ w ∈ WS, w.before ((as.map (tv q)).toArray) s = true := fun w hw => hts0 w (List.mem_cons_of_mem _ hw)
  have ho : s.vm.findClass own = some m.cls := by rw [← hown]; exact findClass_of_methodNamed B.named
  have hlocks := B.notSynchronized
  have hnm : ini = 1 → meth.name = "<init>" := fun h => ((name_of_methodNamed B.named B.method).1).trans (hini h)
  have hq0 : q.1 ≤ s.heap.size := by rw [hW.2.1]; exact Nat.le_add_right _ _
  have X0 : Cx p s m ((as.map (tv q)).toArray) c bytes maxL q D G own := ⟨hx, hb, hml, ho, hts, hK, hSX, hq0⟩
  have hRc : nE - μ.1 ≤ rm.cells := by rw [hrm.1]; omega
  have hRs : cz nE - cz μ.1 ≤ rm.slots := by rw [hrm.2]; omega
  have hb4 : ¬ rb = 4 := by rcases hret with h | h | h | h <;> omega
  have S : Spk nE (0, fun _ => 0) rb C post (KW p l e rm s m ((as.map (tv q)).toArray) below meth c maxL q D G μ.1 (MQ below (Qk q D G μ mc ms post) ((as.map (tv q)).toArray) s mc ms (fun a => q.1 ≤ a))) cd := by
    refine ky_step (own := own) (ini := ini) hx hb ho hts hK hSX.1 hSX.2.1 hSX.2.2.1 hSX.2.2.2.2 hnm hRc hRs hE (fun h => absurd h hb4) hok (fun pc x lv st μ' P hm hi hP h => ?_) (fun P pc x lv st μ' hi hd hm h => ?_)
    · exact hCS (pc, x) hm hi p e s m _ below meth c q D G _ X0 hRc hRs lv st μ' P hP h
    · obtain ⟨i, nx, a, w, q1, q2, q3, ts⟩ := x
      have hrb := hrt _ hm
      intro H locs ls h1 h2 h3 h4
      cases i with
      | ireturn =>
        revert h
        match st with
        | [.int v] =>
          intro h
          obtain ⟨g1, g2, g3⟩ := h
          have e1 : μ'.1 - μ.1 = mc := by omega
          have e2 : cz μ'.1 - cz μ.1 = ms := by rw [g1]; omega
          rw [e1, e2]
          have fin : ∀ t : State, t.heap = H → s.WarmedH t.vm → Qk q D G μ mc ms post ((as.map (tv q)).toArray) s (.returned (some (.int v))) t := fun t ht hWm => ⟨some (.int v), μ', rfl, g3, by rw [g1]; exact hnE, by rw [g1]; exact hz, by rw [ht]; exact h2, fun a ha => by rw [ht]; exact h3.2.1 a (by omega) (by omega)⟩
          rcases hret with ⟨r1, r2⟩ | ⟨r1, r2⟩ | ⟨r1, r2⟩ | ⟨r1, r2⟩
          · exact W.iret hx hb (hr.trans r2) fin h3.2.2 hd
          · exact W.zret hx hb (hr.trans r2) (by rcases g2 r1 with h | h <;> rw [h] <;> rfl) fin h3.2.2 hd
          · subst r1; exact absurd (show false = true from hrb) (by decide)
          · subst r1; exact absurd (show false = true from hrb) (by decide)
        | [] => intro h; exact False.elim h
        | .long _ :: _ => intro h; exact False.elim h
        | .float _ :: _ => intro h; exact False.elim h
        | .double _ :: _ => intro h; exact False.elim h
        | .null :: _ => intro h; exact False.elim h
        | .ref _ :: _ => intro h; exact False.elim h
        | .retAddr _ :: _ => intro h; exact False.elim h
        | .int _ :: _ :: _ => intro h; exact False.elim h
      | lreturn =>
        revert h
        match st with
        | [.long v] =>
          intro h
          obtain ⟨g1, g3⟩ := h
          have e1 : μ'.1 - μ.1 = mc := by omega
          have e2 : cz μ'.1 - cz μ.1 = ms := by rw [g1]; omega
          rw [e1, e2]
          have fin : ∀ t : State, t.heap = H → s.WarmedH t.vm → Qk q D G μ mc ms post ((as.map (tv q)).toArray) s (.returned (some (.long v))) t := fun t ht hWm => ⟨some (.long v), μ', rfl, g3, by rw [g1]; exact hnE, by rw [g1]; exact hz, by rw [ht]; exact h2, fun a ha => by rw [ht]; exact h3.2.1 a (by omega) (by omega)⟩
          rcases hret with ⟨r1, r2⟩ | ⟨r1, r2⟩ | ⟨r1, r2⟩ | ⟨r1, r2⟩
          · subst r1; exact absurd (show false = true from hrb) (by decide)
          · subst r1; exact absurd (show false = true from hrb) (by decide)
          · exact W.lret hx hb (hr.trans r2) fin h3.2.2 hd
          · subst r1; exact absurd (show false = true from hrb) (by decide)
        | [] => intro h; exact False.elim h
        | .int _ :: _ => intro h; exact False.elim h
        | .float _ :: _ => intro h; exact False.elim h
        | .double _ :: _ => intro h; exact False.elim h
        | .null :: _ => intro h; exact False.elim h
        | .ref _ :: _ => intro h; exact False.elim h
        | .retAddr _ :: _ => intro h; exact False.elim h
        | .long _ :: _ :: _ => intro h; exact False.elim h
      | return_ =>
        revert h
        match st with
        | [] =>
          intro h
          obtain ⟨g1, g3⟩ := h
          have e1 : μ'.1 - μ.1 = mc := by omega
          have e2 : cz μ'.1 - cz μ.1 = ms := by rw [g1]; omega
          rw [e1, e2]
          have fin : ∀ t : State, t.heap = H → s.WarmedH t.vm → Qk q D G μ mc ms post ((as.map (tv q)).toArray) s (.returned none) t := fun t ht hWm => ⟨none, μ', rfl, g3, by rw [g1]; exact hnE, by rw [g1]; exact hz, by rw [ht]; exact h2, fun a ha => by rw [ht]; exact h3.2.1 a (by omega) (by omega)⟩
          rcases hret with ⟨r1, r2⟩ | ⟨r1, r2⟩ | ⟨r1, r2⟩ | ⟨r1, r2⟩
          · subst r1; exact absurd (show false = true from hrb) (by decide)
          · subst r1; exact absurd (show false = true from hrb) (by decide)
          · subst r1; exact absurd (show false = true from hrb) (by decide)
          · exact W.vret hx hb (hr.trans r2) fin h3.2.2 hd
        | _ :: _ => intro h; exact False.elim h
      | _ => exact absurd (show false = true from hi) (by decide)
  rw [lg_entry_eq]
  have := body _ S (fun pc lv st n M M' L L' T T' hr k H locs ls h1 h2 h3 h4 => k H locs ls h1 (h2.cv hr) h3 h4) s.heap [] _ (lvH.entry (q := q) hlen) hW va_S.rf (Nat.le_refl _)
  rw [Nat.sub_self, Nat.sub_self] at this
  exact this
