/-! arguments by their kinds: a_ what must hold before, b_ what holds behind -/
def rmm (d mc ms : Nat) : Room := { frames := d, cells := mc, slots := ms, locals := 40 * d }
def pV (ci : Nat) (f : Nat → List Value → Mm → Prop) : List Value → Mm → Prop := preV ci f
def qV (g : Nat → List Value → Mm → Option Value → Mm → Prop) : List Value → Mm → Option Value → Mm → Prop := fun as μ r μ' => match as with
  | .ref k :: rest => g k rest μ r μ'
  | _ => False
def a_0 (f : Mm → Prop) : List Value → Mm → Prop := fun as μ => match as with
  | [] => f  μ
  | _ => False
def b_0 (g : Mm → Option Value → Mm → Prop) : List Value → Mm → Option Value → Mm → Prop := fun as μ r μ' => match as with
  | [] => g  μ r μ'
  | _ => False
theorem a_0_e {f : Mm → Prop} {as : List Value} {μ : Mm} (h : a_0 f as μ) : as = [] ∧ f  μ := by
  unfold a_0 at h; split at h
  · exact ⟨rfl, h⟩
  · exact h.elim
theorem cn_0 {y : MethodName} {bytes : ByteArray} {maxL : Nat} {ret : Option FieldType} {rm : Room} {mc ms : Nat} {f : Mm → Prop} {g : Mm → Option Value → Mm → Prop} (H : ∀ (l : Launch)  (μ : Mm), f  μ → Ct l y (.code y bytes maxL ret :: WS) rm [] μ mc ms (g  μ)) : Cn y bytes maxL ret rm 0 mc ms (a_0 f) (b_0 g) := by
  intro l as μ hl hp
  obtain ⟨rfl, h⟩ := a_0_e hp
  exact H l  μ h
theorem cv_0 {y : MethodName} {bytes : ByteArray} {maxL : Nat} {ret : Option FieldType} {rm : Room} {mc ms ci : Nat} {f : Nat → Mm → Prop} {g : Nat → Mm → Option Value → Mm → Prop} (H : ∀ (l : Launch) (k : Nat)  (μ : Mm), isO μ k ci = true → f k  μ → Ct l y (.code y bytes maxL ret :: WS) rm (.ref k :: []) μ mc ms (g k  μ)) : Cn y bytes maxL ret rm (0 + 1) mc ms (preV ci (fun k => a_0 (f k))) (qV (fun k => b_0 (g k))) := by
  intro l as μ hl hp
  obtain ⟨k, r, rfl, hk, hp⟩ := preV_e hp
  obtain ⟨rfl, h⟩ := a_0_e hp
  exact H l k  μ hk h
def a_I (f : Int32 → Mm → Prop) : List Value → Mm → Prop := fun as μ => match as with
  | [.int x0] => f x0 μ
  | _ => False
def b_I (g : Int32 → Mm → Option Value → Mm → Prop) : List Value → Mm → Option Value → Mm → Prop := fun as μ r μ' => match as with
  | [.int x0] => g x0 μ r μ'
  | _ => False
theorem a_I_e {f : Int32 → Mm → Prop} {as : List Value} {μ : Mm} (h : a_I f as μ) : ∃ x0, as = [.int x0] ∧ f x0 μ := by
  unfold a_I at h; split at h
  · exact ⟨_, rfl, h⟩
  · exact h.elim
theorem cn_I {y : MethodName} {bytes : ByteArray} {maxL : Nat} {ret : Option FieldType} {rm : Room} {mc ms : Nat} {f : Int32 → Mm → Prop} {g : Int32 → Mm → Option Value → Mm → Prop} (H : ∀ (l : Launch) (x0 : Int32) (μ : Mm), f x0 μ → Ct l y (.code y bytes maxL ret :: WS) rm [.int x0] μ mc ms (g x0 μ)) : Cn y bytes maxL ret rm 1 mc ms (a_I f) (b_I g) := by
  intro l as μ hl hp
  obtain ⟨x0, rfl, h⟩ := a_I_e hp
  exact H l x0 μ h
theorem cv_I {y : MethodName} {bytes : ByteArray} {maxL : Nat} {ret : Option FieldType} {rm : Room} {mc ms ci : Nat} {f : Nat → Int32 → Mm → Prop} {g : Nat → Int32 → Mm → Option Value → Mm → Prop} (H : ∀ (l : Launch) (k : Nat) (x0 : Int32) (μ : Mm), isO μ k ci = true → f k x0 μ → Ct l y (.code y bytes maxL ret :: WS) rm (.ref k :: [.int x0]) μ mc ms (g k x0 μ)) : Cn y bytes maxL ret rm (1 + 1) mc ms (preV ci (fun k => a_I (f k))) (qV (fun k => b_I (g k))) := by
  intro l as μ hl hp
  obtain ⟨k, r, rfl, hk, hp⟩ := preV_e hp
  obtain ⟨x0, rfl, h⟩ := a_I_e hp
  exact H l k x0 μ hk h
def a_II (f : Int32 → Int32 → Mm → Prop) : List Value → Mm → Prop := fun as μ => match as with
  | [.int x0, .int x1] => f x0 x1 μ
  | _ => False
def b_II (g : Int32 → Int32 → Mm → Option Value → Mm → Prop) : List Value → Mm → Option Value → Mm → Prop := fun as μ r μ' => match as with
  | [.int x0, .int x1] => g x0 x1 μ r μ'
  | _ => False
theorem a_II_e {f : Int32 → Int32 → Mm → Prop} {as : List Value} {μ : Mm} (h : a_II f as μ) : ∃ x0 x1, as = [.int x0, .int x1] ∧ f x0 x1 μ := by
  unfold a_II at h; split at h
  · exact ⟨_, _, rfl, h⟩
  · exact h.elim
theorem cn_II {y : MethodName} {bytes : ByteArray} {maxL : Nat} {ret : Option FieldType} {rm : Room} {mc ms : Nat} {f : Int32 → Int32 → Mm → Prop} {g : Int32 → Int32 → Mm → Option Value → Mm → Prop} (H : ∀ (l : Launch) (x0 : Int32) (x1 : Int32) (μ : Mm), f x0 x1 μ → Ct l y (.code y bytes maxL ret :: WS) rm [.int x0, .int x1] μ mc ms (g x0 x1 μ)) : Cn y bytes maxL ret rm 2 mc ms (a_II f) (b_II g) := by
  intro l as μ hl hp
  obtain ⟨x0, x1, rfl, h⟩ := a_II_e hp
  exact H l x0 x1 μ h
theorem cv_II {y : MethodName} {bytes : ByteArray} {maxL : Nat} {ret : Option FieldType} {rm : Room} {mc ms ci : Nat} {f : Nat → Int32 → Int32 → Mm → Prop} {g : Nat → Int32 → Int32 → Mm → Option Value → Mm → Prop} (H : ∀ (l : Launch) (k : Nat) (x0 : Int32) (x1 : Int32) (μ : Mm), isO μ k ci = true → f k x0 x1 μ → Ct l y (.code y bytes maxL ret :: WS) rm (.ref k :: [.int x0, .int x1]) μ mc ms (g k x0 x1 μ)) : Cn y bytes maxL ret rm (2 + 1) mc ms (preV ci (fun k => a_II (f k))) (qV (fun k => b_II (g k))) := by
  intro l as μ hl hp
  obtain ⟨k, r, rfl, hk, hp⟩ := preV_e hp
  obtain ⟨x0, x1, rfl, h⟩ := a_II_e hp
  exact H l k x0 x1 μ hk h
def a_III (f : Int32 → Int32 → Int32 → Mm → Prop) : List Value → Mm → Prop := fun as μ => match as with
  | [.int x0, .int x1, .int x2] => f x0 x1 x2 μ
  | _ => False
def b_III (g : Int32 → Int32 → Int32 → Mm → Option Value → Mm → Prop) : List Value → Mm → Option Value → Mm → Prop := fun as μ r μ' => match as with
  | [.int x0, .int x1, .int x2] => g x0 x1 x2 μ r μ'
  | _ => False
theorem a_III_e {f : Int32 → Int32 → Int32 → Mm → Prop} {as : List Value} {μ : Mm} (h : a_III f as μ) : ∃ x0 x1 x2, as = [.int x0, .int x1, .int x2] ∧ f x0 x1 x2 μ := by
  unfold a_III at h; split at h
  · exact ⟨_, _, _, rfl, h⟩
  · exact h.elim
theorem cn_III {y : MethodName} {bytes : ByteArray} {maxL : Nat} {ret : Option FieldType} {rm : Room} {mc ms : Nat} {f : Int32 → Int32 → Int32 → Mm → Prop} {g : Int32 → Int32 → Int32 → Mm → Option Value → Mm → Prop} (H : ∀ (l : Launch) (x0 : Int32) (x1 : Int32) (x2 : Int32) (μ : Mm), f x0 x1 x2 μ → Ct l y (.code y bytes maxL ret :: WS) rm [.int x0, .int x1, .int x2] μ mc ms (g x0 x1 x2 μ)) : Cn y bytes maxL ret rm 3 mc ms (a_III f) (b_III g) := by
  intro l as μ hl hp
  obtain ⟨x0, x1, x2, rfl, h⟩ := a_III_e hp
  exact H l x0 x1 x2 μ h
theorem cv_III {y : MethodName} {bytes : ByteArray} {maxL : Nat} {ret : Option FieldType} {rm : Room} {mc ms ci : Nat} {f : Nat → Int32 → Int32 → Int32 → Mm → Prop} {g : Nat → Int32 → Int32 → Int32 → Mm → Option Value → Mm → Prop} (H : ∀ (l : Launch) (k : Nat) (x0 : Int32) (x1 : Int32) (x2 : Int32) (μ : Mm), isO μ k ci = true → f k x0 x1 x2 μ → Ct l y (.code y bytes maxL ret :: WS) rm (.ref k :: [.int x0, .int x1, .int x2]) μ mc ms (g k x0 x1 x2 μ)) : Cn y bytes maxL ret rm (3 + 1) mc ms (preV ci (fun k => a_III (f k))) (qV (fun k => b_III (g k))) := by
  intro l as μ hl hp
  obtain ⟨k, r, rfl, hk, hp⟩ := preV_e hp
  obtain ⟨x0, x1, x2, rfl, h⟩ := a_III_e hp
  exact H l k x0 x1 x2 μ hk h
def a_IIII (f : Int32 → Int32 → Int32 → Int32 → Mm → Prop) : List Value → Mm → Prop := fun as μ => match as with
  | [.int x0, .int x1, .int x2, .int x3] => f x0 x1 x2 x3 μ
  | _ => False
def b_IIII (g : Int32 → Int32 → Int32 → Int32 → Mm → Option Value → Mm → Prop) : List Value → Mm → Option Value → Mm → Prop := fun as μ r μ' => match as with
  | [.int x0, .int x1, .int x2, .int x3] => g x0 x1 x2 x3 μ r μ'
  | _ => False
theorem a_IIII_e {f : Int32 → Int32 → Int32 → Int32 → Mm → Prop} {as : List Value} {μ : Mm} (h : a_IIII f as μ) : ∃ x0 x1 x2 x3, as = [.int x0, .int x1, .int x2, .int x3] ∧ f x0 x1 x2 x3 μ := by
  unfold a_IIII at h; split at h
  · exact ⟨_, _, _, _, rfl, h⟩
  · exact h.elim
theorem cn_IIII {y : MethodName} {bytes : ByteArray} {maxL : Nat} {ret : Option FieldType} {rm : Room} {mc ms : Nat} {f : Int32 → Int32 → Int32 → Int32 → Mm → Prop} {g : Int32 → Int32 → Int32 → Int32 → Mm → Option Value → Mm → Prop} (H : ∀ (l : Launch) (x0 : Int32) (x1 : Int32) (x2 : Int32) (x3 : Int32) (μ : Mm), f x0 x1 x2 x3 μ → Ct l y (.code y bytes maxL ret :: WS) rm [.int x0, .int x1, .int x2, .int x3] μ mc ms (g x0 x1 x2 x3 μ)) : Cn y bytes maxL ret rm 4 mc ms (a_IIII f) (b_IIII g) := by
  intro l as μ hl hp
  obtain ⟨x0, x1, x2, x3, rfl, h⟩ := a_IIII_e hp
  exact H l x0 x1 x2 x3 μ h
theorem cv_IIII {y : MethodName} {bytes : ByteArray} {maxL : Nat} {ret : Option FieldType} {rm : Room} {mc ms ci : Nat} {f : Nat → Int32 → Int32 → Int32 → Int32 → Mm → Prop} {g : Nat → Int32 → Int32 → Int32 → Int32 → Mm → Option Value → Mm → Prop} (H : ∀ (l : Launch) (k : Nat) (x0 : Int32) (x1 : Int32) (x2 : Int32) (x3 : Int32) (μ : Mm), isO μ k ci = true → f k x0 x1 x2 x3 μ → Ct l y (.code y bytes maxL ret :: WS) rm (.ref k :: [.int x0, .int x1, .int x2, .int x3]) μ mc ms (g k x0 x1 x2 x3 μ)) : Cn y bytes maxL ret rm (4 + 1) mc ms (preV ci (fun k => a_IIII (f k))) (qV (fun k => b_IIII (g k))) := by
  intro l as μ hl hp
  obtain ⟨k, r, rfl, hk, hp⟩ := preV_e hp
  obtain ⟨x0, x1, x2, x3, rfl, h⟩ := a_IIII_e hp
  exact H l k x0 x1 x2 x3 μ hk h
def a_IIIIIII (f : Int32 → Int32 → Int32 → Int32 → Int32 → Int32 → Int32 → Mm → Prop) : List Value → Mm → Prop := fun as μ => match as with
  | [.int x0, .int x1, .int x2, .int x3, .int x4, .int x5, .int x6] => f x0 x1 x2 x3 x4 x5 x6 μ
  | _ => False
def b_IIIIIII (g : Int32 → Int32 → Int32 → Int32 → Int32 → Int32 → Int32 → Mm → Option Value → Mm → Prop) : List Value → Mm → Option Value → Mm → Prop := fun as μ r μ' => match as with
  | [.int x0, .int x1, .int x2, .int x3, .int x4, .int x5, .int x6] => g x0 x1 x2 x3 x4 x5 x6 μ r μ'
  | _ => False
theorem a_IIIIIII_e {f : Int32 → Int32 → Int32 → Int32 → Int32 → Int32 → Int32 → Mm → Prop} {as : List Value} {μ : Mm} (h : a_IIIIIII f as μ) : ∃ x0 x1 x2 x3 x4 x5 x6, as = [.int x0, .int x1, .int x2, .int x3, .int x4, .int x5, .int x6] ∧ f x0 x1 x2 x3 x4 x5 x6 μ := by
  unfold a_IIIIIII at h; split at h
  · exact ⟨_, _, _, _, _, _, _, rfl, h⟩
  · exact h.elim
theorem cn_IIIIIII {y : MethodName} {bytes : ByteArray} {maxL : Nat} {ret : Option FieldType} {rm : Room} {mc ms : Nat} {f : Int32 → Int32 → Int32 → Int32 → Int32 → Int32 → Int32 → Mm → Prop} {g : Int32 → Int32 → Int32 → Int32 → Int32 → Int32 → Int32 → Mm → Option Value → Mm → Prop} (H : ∀ (l : Launch) (x0 : Int32) (x1 : Int32) (x2 : Int32) (x3 : Int32) (x4 : Int32) (x5 : Int32) (x6 : Int32) (μ : Mm), f x0 x1 x2 x3 x4 x5 x6 μ → Ct l y (.code y bytes maxL ret :: WS) rm [.int x0, .int x1, .int x2, .int x3, .int x4, .int x5, .int x6] μ mc ms (g x0 x1 x2 x3 x4 x5 x6 μ)) : Cn y bytes maxL ret rm 7 mc ms (a_IIIIIII f) (b_IIIIIII g) := by
  intro l as μ hl hp
  obtain ⟨x0, x1, x2, x3, x4, x5, x6, rfl, h⟩ := a_IIIIIII_e hp
  exact H l x0 x1 x2 x3 x4 x5 x6 μ h
theorem cv_IIIIIII {y : MethodName} {bytes : ByteArray} {maxL : Nat} {ret : Option FieldType} {rm : Room} {mc ms ci : Nat} {f : Nat → Int32 → Int32 → Int32 → Int32 → Int32 → Int32 → Int32 → Mm → Prop} {g : Nat → Int32 → Int32 → Int32 → Int32 → Int32 → Int32 → Int32 → Mm → Option Value → Mm → Prop} (H : ∀ (l : Launch) (k : Nat) (x0 : Int32) (x1 : Int32) (x2 : Int32) (x3 : Int32) (x4 : Int32) (x5 : Int32) (x6 : Int32) (μ : Mm), isO μ k ci = true → f k x0 x1 x2 x3 x4 x5 x6 μ → Ct l y (.code y bytes maxL ret :: WS) rm (.ref k :: [.int x0, .int x1, .int x2, .int x3, .int x4, .int x5, .int x6]) μ mc ms (g k x0 x1 x2 x3 x4 x5 x6 μ)) : Cn y bytes maxL ret rm (7 + 1) mc ms (preV ci (fun k => a_IIIIIII (f k))) (qV (fun k => b_IIIIIII (g k))) := by
  intro l as μ hl hp
  obtain ⟨k, r, rfl, hk, hp⟩ := preV_e hp
  obtain ⟨x0, x1, x2, x3, x4, x5, x6, rfl, h⟩ := a_IIIIIII_e hp
  exact H l k x0 x1 x2 x3 x4 x5 x6 μ hk h
def a_J (f : Int64 → Mm → Prop) : List Value → Mm → Prop := fun as μ => match as with
  | [.long x0] => f x0 μ
  | _ => False
def b_J (g : Int64 → Mm → Option Value → Mm → Prop) : List Value → Mm → Option Value → Mm → Prop := fun as μ r μ' => match as with
  | [.long x0] => g x0 μ r μ'
  | _ => False
theorem a_J_e {f : Int64 → Mm → Prop} {as : List Value} {μ : Mm} (h : a_J f as μ) : ∃ x0, as = [.long x0] ∧ f x0 μ := by
  unfold a_J at h; split at h
  · exact ⟨_, rfl, h⟩
  · exact h.elim
theorem cn_J {y : MethodName} {bytes : ByteArray} {maxL : Nat} {ret : Option FieldType} {rm : Room} {mc ms : Nat} {f : Int64 → Mm → Prop} {g : Int64 → Mm → Option Value → Mm → Prop} (H : ∀ (l : Launch) (x0 : Int64) (μ : Mm), f x0 μ → Ct l y (.code y bytes maxL ret :: WS) rm [.long x0] μ mc ms (g x0 μ)) : Cn y bytes maxL ret rm 1 mc ms (a_J f) (b_J g) := by
  intro l as μ hl hp
  obtain ⟨x0, rfl, h⟩ := a_J_e hp
  exact H l x0 μ h
theorem cv_J {y : MethodName} {bytes : ByteArray} {maxL : Nat} {ret : Option FieldType} {rm : Room} {mc ms ci : Nat} {f : Nat → Int64 → Mm → Prop} {g : Nat → Int64 → Mm → Option Value → Mm → Prop} (H : ∀ (l : Launch) (k : Nat) (x0 : Int64) (μ : Mm), isO μ k ci = true → f k x0 μ → Ct l y (.code y bytes maxL ret :: WS) rm (.ref k :: [.long x0]) μ mc ms (g k x0 μ)) : Cn y bytes maxL ret rm (1 + 1) mc ms (preV ci (fun k => a_J (f k))) (qV (fun k => b_J (g k))) := by
  intro l as μ hl hp
  obtain ⟨k, r, rfl, hk, hp⟩ := preV_e hp
  obtain ⟨x0, rfl, h⟩ := a_J_e hp
  exact H l k x0 μ hk h
def a_R (f : Nat → Mm → Prop) : List Value → Mm → Prop := fun as μ => match as with
  | [.ref x0] => f x0 μ
  | _ => False
def b_R (g : Nat → Mm → Option Value → Mm → Prop) : List Value → Mm → Option Value → Mm → Prop := fun as μ r μ' => match as with
  | [.ref x0] => g x0 μ r μ'
  | _ => False
theorem a_R_e {f : Nat → Mm → Prop} {as : List Value} {μ : Mm} (h : a_R f as μ) : ∃ x0, as = [.ref x0] ∧ f x0 μ := by
  unfold a_R at h; split at h
  · exact ⟨_, rfl, h⟩
  · exact h.elim
theorem cn_R {y : MethodName} {bytes : ByteArray} {maxL : Nat} {ret : Option FieldType} {rm : Room} {mc ms : Nat} {f : Nat → Mm → Prop} {g : Nat → Mm → Option Value → Mm → Prop} (H : ∀ (l : Launch) (x0 : Nat) (μ : Mm), f x0 μ → Ct l y (.code y bytes maxL ret :: WS) rm [.ref x0] μ mc ms (g x0 μ)) : Cn y bytes maxL ret rm 1 mc ms (a_R f) (b_R g) := by
  intro l as μ hl hp
  obtain ⟨x0, rfl, h⟩ := a_R_e hp
  exact H l x0 μ h
theorem cv_R {y : MethodName} {bytes : ByteArray} {maxL : Nat} {ret : Option FieldType} {rm : Room} {mc ms ci : Nat} {f : Nat → Nat → Mm → Prop} {g : Nat → Nat → Mm → Option Value → Mm → Prop} (H : ∀ (l : Launch) (k : Nat) (x0 : Nat) (μ : Mm), isO μ k ci = true → f k x0 μ → Ct l y (.code y bytes maxL ret :: WS) rm (.ref k :: [.ref x0]) μ mc ms (g k x0 μ)) : Cn y bytes maxL ret rm (1 + 1) mc ms (preV ci (fun k => a_R (f k))) (qV (fun k => b_R (g k))) := by
  intro l as μ hl hp
  obtain ⟨k, r, rfl, hk, hp⟩ := preV_e hp
  obtain ⟨x0, rfl, h⟩ := a_R_e hp
  exact H l k x0 μ hk h
def a_RI (f : Nat → Int32 → Mm → Prop) : List Value → Mm → Prop := fun as μ => match as with
  | [.ref x0, .int x1] => f x0 x1 μ
  | _ => False
def b_RI (g : Nat → Int32 → Mm → Option Value → Mm → Prop) : List Value → Mm → Option Value → Mm → Prop := fun as μ r μ' => match as with
  | [.ref x0, .int x1] => g x0 x1 μ r μ'
  | _ => False
theorem a_RI_e {f : Nat → Int32 → Mm → Prop} {as : List Value} {μ : Mm} (h : a_RI f as μ) : ∃ x0 x1, as = [.ref x0, .int x1] ∧ f x0 x1 μ := by
  unfold a_RI at h; split at h
  · exact ⟨_, _, rfl, h⟩
  · exact h.elim
theorem cn_RI {y : MethodName} {bytes : ByteArray} {maxL : Nat} {ret : Option FieldType} {rm : Room} {mc ms : Nat} {f : Nat → Int32 → Mm → Prop} {g : Nat → Int32 → Mm → Option Value → Mm → Prop} (H : ∀ (l : Launch) (x0 : Nat) (x1 : Int32) (μ : Mm), f x0 x1 μ → Ct l y (.code y bytes maxL ret :: WS) rm [.ref x0, .int x1] μ mc ms (g x0 x1 μ)) : Cn y bytes maxL ret rm 2 mc ms (a_RI f) (b_RI g) := by
  intro l as μ hl hp
  obtain ⟨x0, x1, rfl, h⟩ := a_RI_e hp
  exact H l x0 x1 μ h
theorem cv_RI {y : MethodName} {bytes : ByteArray} {maxL : Nat} {ret : Option FieldType} {rm : Room} {mc ms ci : Nat} {f : Nat → Nat → Int32 → Mm → Prop} {g : Nat → Nat → Int32 → Mm → Option Value → Mm → Prop} (H : ∀ (l : Launch) (k : Nat) (x0 : Nat) (x1 : Int32) (μ : Mm), isO μ k ci = true → f k x0 x1 μ → Ct l y (.code y bytes maxL ret :: WS) rm (.ref k :: [.ref x0, .int x1]) μ mc ms (g k x0 x1 μ)) : Cn y bytes maxL ret rm (2 + 1) mc ms (preV ci (fun k => a_RI (f k))) (qV (fun k => b_RI (g k))) := by
  intro l as μ hl hp
  obtain ⟨k, r, rfl, hk, hp⟩ := preV_e hp
  obtain ⟨x0, x1, rfl, h⟩ := a_RI_e hp
  exact H l k x0 x1 μ hk h
def a_RII (f : Nat → Int32 → Int32 → Mm → Prop) : List Value → Mm → Prop := fun as μ => match as with
  | [.ref x0, .int x1, .int x2] => f x0 x1 x2 μ
  | _ => False
def b_RII (g : Nat → Int32 → Int32 → Mm → Option Value → Mm → Prop) : List Value → Mm → Option Value → Mm → Prop := fun as μ r μ' => match as with
  | [.ref x0, .int x1, .int x2] => g x0 x1 x2 μ r μ'
  | _ => False
theorem a_RII_e {f : Nat → Int32 → Int32 → Mm → Prop} {as : List Value} {μ : Mm} (h : a_RII f as μ) : ∃ x0 x1 x2, as = [.ref x0, .int x1, .int x2] ∧ f x0 x1 x2 μ := by
  unfold a_RII at h; split at h
  · exact ⟨_, _, _, rfl, h⟩
  · exact h.elim
theorem cn_RII {y : MethodName} {bytes : ByteArray} {maxL : Nat} {ret : Option FieldType} {rm : Room} {mc ms : Nat} {f : Nat → Int32 → Int32 → Mm → Prop} {g : Nat → Int32 → Int32 → Mm → Option Value → Mm → Prop} (H : ∀ (l : Launch) (x0 : Nat) (x1 : Int32) (x2 : Int32) (μ : Mm), f x0 x1 x2 μ → Ct l y (.code y bytes maxL ret :: WS) rm [.ref x0, .int x1, .int x2] μ mc ms (g x0 x1 x2 μ)) : Cn y bytes maxL ret rm 3 mc ms (a_RII f) (b_RII g) := by
  intro l as μ hl hp
  obtain ⟨x0, x1, x2, rfl, h⟩ := a_RII_e hp
  exact H l x0 x1 x2 μ h
theorem cv_RII {y : MethodName} {bytes : ByteArray} {maxL : Nat} {ret : Option FieldType} {rm : Room} {mc ms ci : Nat} {f : Nat → Nat → Int32 → Int32 → Mm → Prop} {g : Nat → Nat → Int32 → Int32 → Mm → Option Value → Mm → Prop} (H : ∀ (l : Launch) (k : Nat) (x0 : Nat) (x1 : Int32) (x2 : Int32) (μ : Mm), isO μ k ci = true → f k x0 x1 x2 μ → Ct l y (.code y bytes maxL ret :: WS) rm (.ref k :: [.ref x0, .int x1, .int x2]) μ mc ms (g k x0 x1 x2 μ)) : Cn y bytes maxL ret rm (3 + 1) mc ms (preV ci (fun k => a_RII (f k))) (qV (fun k => b_RII (g k))) := by
  intro l as μ hl hp
  obtain ⟨k, r, rfl, hk, hp⟩ := preV_e hp
  obtain ⟨x0, x1, x2, rfl, h⟩ := a_RII_e hp
  exact H l k x0 x1 x2 μ hk h
def a_RRI (f : Nat → Nat → Int32 → Mm → Prop) : List Value → Mm → Prop := fun as μ => match as with
  | [.ref x0, .ref x1, .int x2] => f x0 x1 x2 μ
  | _ => False
def b_RRI (g : Nat → Nat → Int32 → Mm → Option Value → Mm → Prop) : List Value → Mm → Option Value → Mm → Prop := fun as μ r μ' => match as with
  | [.ref x0, .ref x1, .int x2] => g x0 x1 x2 μ r μ'
  | _ => False
theorem a_RRI_e {f : Nat → Nat → Int32 → Mm → Prop} {as : List Value} {μ : Mm} (h : a_RRI f as μ) : ∃ x0 x1 x2, as = [.ref x0, .ref x1, .int x2] ∧ f x0 x1 x2 μ := by
  unfold a_RRI at h; split at h
  · exact ⟨_, _, _, rfl, h⟩
  · exact h.elim
theorem cn_RRI {y : MethodName} {bytes : ByteArray} {maxL : Nat} {ret : Option FieldType} {rm : Room} {mc ms : Nat} {f : Nat → Nat → Int32 → Mm → Prop} {g : Nat → Nat → Int32 → Mm → Option Value → Mm → Prop} (H : ∀ (l : Launch) (x0 : Nat) (x1 : Nat) (x2 : Int32) (μ : Mm), f x0 x1 x2 μ → Ct l y (.code y bytes maxL ret :: WS) rm [.ref x0, .ref x1, .int x2] μ mc ms (g x0 x1 x2 μ)) : Cn y bytes maxL ret rm 3 mc ms (a_RRI f) (b_RRI g) := by
  intro l as μ hl hp
  obtain ⟨x0, x1, x2, rfl, h⟩ := a_RRI_e hp
  exact H l x0 x1 x2 μ h
theorem cv_RRI {y : MethodName} {bytes : ByteArray} {maxL : Nat} {ret : Option FieldType} {rm : Room} {mc ms ci : Nat} {f : Nat → Nat → Nat → Int32 → Mm → Prop} {g : Nat → Nat → Nat → Int32 → Mm → Option Value → Mm → Prop} (H : ∀ (l : Launch) (k : Nat) (x0 : Nat) (x1 : Nat) (x2 : Int32) (μ : Mm), isO μ k ci = true → f k x0 x1 x2 μ → Ct l y (.code y bytes maxL ret :: WS) rm (.ref k :: [.ref x0, .ref x1, .int x2]) μ mc ms (g k x0 x1 x2 μ)) : Cn y bytes maxL ret rm (3 + 1) mc ms (preV ci (fun k => a_RRI (f k))) (qV (fun k => b_RRI (g k))) := by
  intro l as μ hl hp
  obtain ⟨k, r, rfl, hk, hp⟩ := preV_e hp
  obtain ⟨x0, x1, x2, rfl, h⟩ := a_RRI_e hp
  exact H l k x0 x1 x2 μ hk h
def a_RRII (f : Nat → Nat → Int32 → Int32 → Mm → Prop) : List Value → Mm → Prop := fun as μ => match as with
  | [.ref x0, .ref x1, .int x2, .int x3] => f x0 x1 x2 x3 μ
  | _ => False
def b_RRII (g : Nat → Nat → Int32 → Int32 → Mm → Option Value → Mm → Prop) : List Value → Mm → Option Value → Mm → Prop := fun as μ r μ' => match as with
  | [.ref x0, .ref x1, .int x2, .int x3] => g x0 x1 x2 x3 μ r μ'
  | _ => False
theorem a_RRII_e {f : Nat → Nat → Int32 → Int32 → Mm → Prop} {as : List Value} {μ : Mm} (h : a_RRII f as μ) : ∃ x0 x1 x2 x3, as = [.ref x0, .ref x1, .int x2, .int x3] ∧ f x0 x1 x2 x3 μ := by
  unfold a_RRII at h; split at h
  · exact ⟨_, _, _, _, rfl, h⟩
  · exact h.elim
theorem cn_RRII {y : MethodName} {bytes : ByteArray} {maxL : Nat} {ret : Option FieldType} {rm : Room} {mc ms : Nat} {f : Nat → Nat → Int32 → Int32 → Mm → Prop} {g : Nat → Nat → Int32 → Int32 → Mm → Option Value → Mm → Prop} (H : ∀ (l : Launch) (x0 : Nat) (x1 : Nat) (x2 : Int32) (x3 : Int32) (μ : Mm), f x0 x1 x2 x3 μ → Ct l y (.code y bytes maxL ret :: WS) rm [.ref x0, .ref x1, .int x2, .int x3] μ mc ms (g x0 x1 x2 x3 μ)) : Cn y bytes maxL ret rm 4 mc ms (a_RRII f) (b_RRII g) := by
  intro l as μ hl hp
  obtain ⟨x0, x1, x2, x3, rfl, h⟩ := a_RRII_e hp
  exact H l x0 x1 x2 x3 μ h
theorem cv_RRII {y : MethodName} {bytes : ByteArray} {maxL : Nat} {ret : Option FieldType} {rm : Room} {mc ms ci : Nat} {f : Nat → Nat → Nat → Int32 → Int32 → Mm → Prop} {g : Nat → Nat → Nat → Int32 → Int32 → Mm → Option Value → Mm → Prop} (H : ∀ (l : Launch) (k : Nat) (x0 : Nat) (x1 : Nat) (x2 : Int32) (x3 : Int32) (μ : Mm), isO μ k ci = true → f k x0 x1 x2 x3 μ → Ct l y (.code y bytes maxL ret :: WS) rm (.ref k :: [.ref x0, .ref x1, .int x2, .int x3]) μ mc ms (g k x0 x1 x2 x3 μ)) : Cn y bytes maxL ret rm (4 + 1) mc ms (preV ci (fun k => a_RRII (f k))) (qV (fun k => b_RRII (g k))) := by
  intro l as μ hl hp
  obtain ⟨k, r, rfl, hk, hp⟩ := preV_e hp
  obtain ⟨x0, x1, x2, x3, rfl, h⟩ := a_RRII_e hp
  exact H l k x0 x1 x2 x3 μ hk h
def a_RRIII (f : Nat → Nat → Int32 → Int32 → Int32 → Mm → Prop) : List Value → Mm → Prop := fun as μ => match as with
  | [.ref x0, .ref x1, .int x2, .int x3, .int x4] => f x0 x1 x2 x3 x4 μ
  | _ => False
def b_RRIII (g : Nat → Nat → Int32 → Int32 → Int32 → Mm → Option Value → Mm → Prop) : List Value → Mm → Option Value → Mm → Prop := fun as μ r μ' => match as with
  | [.ref x0, .ref x1, .int x2, .int x3, .int x4] => g x0 x1 x2 x3 x4 μ r μ'
  | _ => False
theorem a_RRIII_e {f : Nat → Nat → Int32 → Int32 → Int32 → Mm → Prop} {as : List Value} {μ : Mm} (h : a_RRIII f as μ) : ∃ x0 x1 x2 x3 x4, as = [.ref x0, .ref x1, .int x2, .int x3, .int x4] ∧ f x0 x1 x2 x3 x4 μ := by
  unfold a_RRIII at h; split at h
  · exact ⟨_, _, _, _, _, rfl, h⟩
  · exact h.elim
theorem cn_RRIII {y : MethodName} {bytes : ByteArray} {maxL : Nat} {ret : Option FieldType} {rm : Room} {mc ms : Nat} {f : Nat → Nat → Int32 → Int32 → Int32 → Mm → Prop} {g : Nat → Nat → Int32 → Int32 → Int32 → Mm → Option Value → Mm → Prop} (H : ∀ (l : Launch) (x0 : Nat) (x1 : Nat) (x2 : Int32) (x3 : Int32) (x4 : Int32) (μ : Mm), f x0 x1 x2 x3 x4 μ → Ct l y (.code y bytes maxL ret :: WS) rm [.ref x0, .ref x1, .int x2, .int x3, .int x4] μ mc ms (g x0 x1 x2 x3 x4 μ)) : Cn y bytes maxL ret rm 5 mc ms (a_RRIII f) (b_RRIII g) := by
  intro l as μ hl hp
  obtain ⟨x0, x1, x2, x3, x4, rfl, h⟩ := a_RRIII_e hp
  exact H l x0 x1 x2 x3 x4 μ h
theorem cv_RRIII {y : MethodName} {bytes : ByteArray} {maxL : Nat} {ret : Option FieldType} {rm : Room} {mc ms ci : Nat} {f : Nat → Nat → Nat → Int32 → Int32 → Int32 → Mm → Prop} {g : Nat → Nat → Nat → Int32 → Int32 → Int32 → Mm → Option Value → Mm → Prop} (H : ∀ (l : Launch) (k : Nat) (x0 : Nat) (x1 : Nat) (x2 : Int32) (x3 : Int32) (x4 : Int32) (μ : Mm), isO μ k ci = true → f k x0 x1 x2 x3 x4 μ → Ct l y (.code y bytes maxL ret :: WS) rm (.ref k :: [.ref x0, .ref x1, .int x2, .int x3, .int x4]) μ mc ms (g k x0 x1 x2 x3 x4 μ)) : Cn y bytes maxL ret rm (5 + 1) mc ms (preV ci (fun k => a_RRIII (f k))) (qV (fun k => b_RRIII (g k))) := by
  intro l as μ hl hp
  obtain ⟨k, r, rfl, hk, hp⟩ := preV_e hp
  obtain ⟨x0, x1, x2, x3, x4, rfl, h⟩ := a_RRIII_e hp
  exact H l k x0 x1 x2 x3 x4 μ hk h
theorem hf_S {n nE : Nat} {p : List Value → Mm → Prop} (hn : n ≤ nE) (h : ∀ as μ, p as μ → μ.1 = n) : ∀ as μ, p as μ → μ.1 + 0 ≤ nE ∧ cz μ.1 + 0 ≤ cz nE := fun as μ hp => by
  rw [h as μ hp]
  exact ⟨hn, cz_mono hn⟩
def TT (k j : Nat) : Option Nat := match Nat.blt k 12 with
  | true => match k, j with
    | 0, 0 => some 1
    | 0, 1 => some 5
    | 0, 2 => some 10
    | 0, 3 => some 103
    | 0, 4 => some 105
    | 1, 0 => some 2
    | 1, 1 => some 3
    | 1, 2 => some 4
    | 5, 0 => some 6
    | 5, 1 => some 7
    | 5, 2 => some 8
    | 5, 3 => some 9
    | 10, 0 => some 11
    | 10, 1 => some 96
    | 10, 2 => some 97
    | 10, 3 => some 98
    | 11, j => some (12 + 6 * j)
    | _, _ => none
  | false => match Nat.blt k 96 with
    | true => match (k - 12) % 6, j with
      | 0, 0 => some (k + 1)
      | 0, 1 => some (k + 2)
      | 2, j => some (k + 1 + j)
      | _, _ => none
    | false => match k - 96, j with
      | 2, j => some (99 + j)
      | 7, 0 => some 104
      | 9, 0 => some 106
      | 9, 1 => some 107
      | 9, 2 => some 108
      | 13, 1 => some 110
      | 13, 2 => some 111
      | 13, 3 => some 112
      | 13, 4 => some 113
      | 13, 5 => some 114
      | 13, 6 => some 115
      | 13, 9 => some 116
      | 13, 10 => some 117
      | 13, 11 => some 118
      | 13, 12 => some 119
      | 13, 13 => some 120
      | 13, 14 => some 121
      | 13, 15 => some 122
      | 13, 16 => some 123
      | 13, 17 => some 124
      | 13, 18 => some 125
      | 13, 20 => some 126
      | 13, 21 => some 127
      | 13, 22 => some 128
      | 13, 23 => some 129
      | 13, 24 => some 130
      | _, _ => none
/-- the memory when both objects stand -/
def FM (μ : Mm) : Prop := μ.1 = 131 ∧ μ.2.2.2 = TT
theorem FM.e {μ : Mm} (h : FM μ) : ∃ M L, μ = (131, M, L, TT) := by
  obtain ⟨n, M, L, T⟩ := μ
  obtain ⟨h1, h2⟩ := h
  have h1 : n = 131 := h1
  have h2 : T = TT := h2
  subst h1; subst h2
  exact ⟨M, L, rfl⟩
def b2 (p : Prop) [Decidable p] : Int32 := if p then 1 else 0
theorem b2_01 (p : Prop) [Decidable p] : b2 p = 0 ∨ b2 p = 1 := by
  unfold b2; split
  · exact Or.inr rfl
  · exact Or.inl rfl
theorem b2_t {p : Prop} [Decidable p] (h : p) : b2 p = 1 := if_pos h
theorem b2_f {p : Prop} [Decidable p] (h : ¬ p) : b2 p = 0 := if_neg h
