/-! Int64 as a set of bits: test, set, clear -/
theorem ts_nf {x : Bool} (h : ¬ x = false) : x = true := by cases x <;> first | rfl | exact absurd rfl h
theorem ts_nt {x : Bool} (h : ¬ x = true) : x = false := by cases x <;> first | rfl | exact absurd rfl h
theorem ts_bit {w : Int64} {s : UInt64} {j : Nat} (hj : j < 64) (hs : s.toNat = j) : ((w.toUInt64 >>> s).toInt64 &&& 1) = 0 ↔ w.toBitVec.getLsbD j = false := by
  have e : (w.toUInt64 >>> s).toInt64.toBitVec = w.toBitVec >>> j := by
    apply BitVec.eq_of_toNat_eq
    show (w.toUInt64 >>> s).toNat = _
    rw [UInt64.toNat_shiftRight, hs, Nat.mod_eq_of_lt hj, BitVec.toNat_ushiftRight]
    rfl
  rw [← Int64.toBitVec_inj, Int64.toBitVec_and, e]
  show w.toBitVec >>> j &&& 1#64 = 0#64 ↔ _
  constructor
  · intro h
    have t := congrArg (fun x => x.getLsbD 0) h
    simpa using t
  · intro h
    apply BitVec.eq_of_getLsbD_eq
    intro i hi
    cases i with
    | zero => simp [h]
    | succ i => simp
theorem ts_or {w m : Int64} {j : Nat} (hj : j < 64) (hm : m.toBitVec = BitVec.twoPow 64 j) : (w ||| m) = w ↔ w.toBitVec.getLsbD j = true := by
  rw [← Int64.toBitVec_inj, Int64.toBitVec_or, hm]
  constructor
  · intro h
    have t := congrArg (fun x => x.getLsbD j) h
    simp only [BitVec.getLsbD_or, BitVec.getLsbD_twoPow] at t
    simpa [hj] using t.symm
  · intro h
    apply BitVec.eq_of_getLsbD_eq
    intro i hi
    rw [BitVec.getLsbD_or, BitVec.getLsbD_twoPow]
    by_cases e : j = i
    · subst e; rw [h, Bool.true_or]
    · simp [e]
theorem ts_and {w m : Int64} {j : Nat} (hj : j < 64) (hm : m.toBitVec = BitVec.twoPow 64 j) : (w &&& (m ^^^ (-1))) = w ↔ w.toBitVec.getLsbD j = false := by
  have ha : (-1 : Int64).toBitVec = BitVec.allOnes 64 := by decide
  rw [← Int64.toBitVec_inj, Int64.toBitVec_and, Int64.toBitVec_xor, hm, ha]
  constructor
  · intro h
    have t := congrArg (fun x => x.getLsbD j) h
    simp only [BitVec.getLsbD_and, BitVec.getLsbD_xor, BitVec.getLsbD_twoPow, BitVec.getLsbD_allOnes] at t
    simpa [hj] using t.symm
  · intro h
    apply BitVec.eq_of_getLsbD_eq
    intro i hi
    rw [BitVec.getLsbD_and, BitVec.getLsbD_xor, BitVec.getLsbD_twoPow, BitVec.getLsbD_allOnes]
    by_cases e : j = i
    · subst e; rw [h, Bool.false_and]
    · simp [e, hi]
/-! lN n to 2^64: shifts, and, or, masks, one bit -/
theorem wb_tb (n : Nat) : (lN n).toBitVec = BitVec.ofNat 64 n := rfl
theorem wb_inj {a b : Int64} (h : a.toBitVec = b.toBitVec) : a = b := Int64.toBitVec_inj.mp h
theorem wb_tn {n : Nat} (h : n < 2 ^ 64) : (lN n).toBitVec.toNat = n := by rw [wb_tb, BitVec.toNat_ofNat, Nat.mod_eq_of_lt h]
theorem wb_of (x : Int64) : ∃ n, n < 2 ^ 64 ∧ x = lN n := ⟨x.toBitVec.toNat, x.toBitVec.isLt, wb_inj (by rw [wb_tb]; simp)⟩
theorem wb_of32 (x : Int32) : ∃ n, n < 2 ^ 32 ∧ x = nI n := ⟨x.toBitVec.toNat, x.toBitVec.isLt, Int32.toBitVec_inj.mp (by show _ = BitVec.ofNat 32 _; simp)⟩
theorem wb_c : ∀ k, k < 64 → ((nI k).toInt64 &&& 63) = lN k := by decide +kernel
theorem wb_cu : ∀ k, k < 64 → ((nI k).toInt64.toUInt64 &&& Int64.toUInt64 63) = UInt64.ofNat k := by decide +kernel
theorem wb_sm : ∀ k, k < 64 → (BitVec.ofNat 64 k).smod 64 = BitVec.ofNat 64 k := by decide +kernel
theorem wb_pw {a b : Nat} (h : a ≤ b) : 2 ^ b = 2 ^ a * 2 ^ (b - a) := by rw [← Nat.pow_add]; congr 1; omega
theorem wb_lt2 {a b : Nat} (h : a < b) : 2 ^ a < 2 ^ b := Nat.pow_lt_pow_right (by decide) h
theorem wb_mod (n : Nat) : lN n = lN (n % 2 ^ 64) := wb_inj (by rw [wb_tb, wb_tb]; apply BitVec.eq_of_toNat_eq; rw [BitVec.toNat_ofNat, BitVec.toNat_ofNat, Nat.mod_mod])
theorem wb_shr {n k : Nat} (hn : n < 2 ^ 64) (hk : k < 64) : ((lN n).toUInt64 >>> ((nI k).toInt64.toUInt64 &&& Int64.toUInt64 63)).toInt64 = lN (n / 2 ^ k) := by
  rw [wb_cu k hk]
  apply wb_inj
  apply BitVec.eq_of_toNat_eq
  show ((lN n).toUInt64 >>> UInt64.ofNat k).toNat = (BitVec.ofNat 64 _).toNat
  have h1 : (UInt64.ofNat k).toNat = k := by
    show (BitVec.ofNat 64 k).toNat = k
    rw [BitVec.toNat_ofNat, Nat.mod_eq_of_lt (by omega)]
  have h2 : (lN n).toUInt64.toNat = n := wb_tn hn
  rw [UInt64.toNat_shiftRight, h1, h2, Nat.mod_eq_of_lt hk, Nat.shiftRight_eq_div_pow, BitVec.toNat_ofNat, Nat.mod_eq_of_lt (Nat.lt_of_le_of_lt (Nat.div_le_self _ _) hn)]
theorem wb_shl (n : Nat) {k : Nat} (hk : k < 64) : lN n <<< ((nI k).toInt64 &&& 63) = lN (n * 2 ^ k) := by
  rw [wb_c k hk]
  apply wb_inj
  rw [Int64.toBitVec_shiftLeft, wb_tb, wb_tb, wb_tb, wb_sm k hk]
  apply BitVec.eq_of_toNat_eq
  rw [BitVec.shiftLeft_eq', BitVec.toNat_shiftLeft, BitVec.toNat_ofNat, BitVec.toNat_ofNat, BitVec.toNat_ofNat, Nat.mod_eq_of_lt (show k < 2 ^ 64 by omega), Nat.shiftLeft_eq, Nat.mul_mod, Nat.mod_mod, ← Nat.mul_mod]
theorem wb_and {a b : Nat} (ha : a < 2 ^ 64) (hb : b < 2 ^ 64) : lN a &&& lN b = lN (a &&& b) := by
  apply wb_inj
  rw [Int64.toBitVec_and, wb_tb, wb_tb, wb_tb]
  apply BitVec.eq_of_toNat_eq
  rw [BitVec.toNat_and, BitVec.toNat_ofNat, BitVec.toNat_ofNat, BitVec.toNat_ofNat, Nat.mod_eq_of_lt ha, Nat.mod_eq_of_lt hb, Nat.mod_eq_of_lt (Nat.and_lt_two_pow _ hb)]
theorem wb_or {a b : Nat} (ha : a < 2 ^ 64) (hb : b < 2 ^ 64) : lN a ||| lN b = lN (a ||| b) := by
  apply wb_inj
  rw [Int64.toBitVec_or, wb_tb, wb_tb, wb_tb]
  apply BitVec.eq_of_toNat_eq
  rw [BitVec.toNat_or, BitVec.toNat_ofNat, BitVec.toNat_ofNat, BitVec.toNat_ofNat, Nat.mod_eq_of_lt ha, Nat.mod_eq_of_lt hb, Nat.mod_eq_of_lt (Nat.or_lt_two_pow ha hb)]
theorem wb_mask {n k : Nat} (hn : n < 2 ^ 64) (hk : k < 64) : lN n &&& lN (2 ^ k - 1) = lN (n % 2 ^ k) := by
  rw [wb_and hn (by have := wb_lt2 hk; omega), Nat.and_two_pow_sub_one_eq_mod]
theorem wb_a1 {n : Nat} (hn : n < 2 ^ 64) : lN n &&& 1 = lN (n % 2) := wb_mask (k := 1) hn (by decide)
theorem wb_bit {n k : Nat} (hn : n < 2 ^ 64) (hk : k < 64) : ((lN n).toUInt64 >>> ((nI k).toInt64.toUInt64 &&& Int64.toUInt64 63)).toInt64 &&& 1 = lN (n / 2 ^ k % 2) := by
  rw [wb_shr hn hk, wb_a1 (Nat.lt_of_le_of_lt (Nat.div_le_self _ _) hn)]
theorem wb_xor {q k : Nat} (hk : k < 63) (h : 2 ^ k ≤ q) (h2 : q < 2 ^ (k + 1)) : lN q ^^^ lN (2 ^ k) = lN (q - 2 ^ k) := by
  obtain ⟨r, rfl⟩ : ∃ r, q = 2 ^ k + r := ⟨q - 2 ^ k, by omega⟩
  have hr : r < 2 ^ k := by rw [Nat.pow_succ] at h2; omega
  have hx : (2 ^ k + r) ^^^ 2 ^ k = r := by
    apply Nat.eq_of_testBit_eq
    intro i
    rw [Nat.testBit_xor, Nat.testBit_two_pow]
    rcases Nat.lt_trichotomy i k with h | h | h
    · rw [Nat.testBit_two_pow_add_gt h]
      simp [show ¬ k = i by omega]
    · subst h
      rw [Nat.testBit_two_pow_add_eq]
      simp
    · have a1 : 2 ^ (k + 1) ≤ 2 ^ i := Nat.pow_le_pow_right (by decide) h
      rw [Nat.testBit_lt_two_pow (show 2 ^ k + r < 2 ^ i by omega), Nat.testBit_lt_two_pow (show r < 2 ^ i by omega)]
      simp [show ¬ k = i by omega]
  have b1 := wb_lt2 (show k + 1 < 64 by omega)
  have b2 := wb_lt2 (show k < 64 by omega)
  apply wb_inj
  rw [Int64.toBitVec_xor, wb_tb, wb_tb, wb_tb]
  apply BitVec.eq_of_toNat_eq
  rw [BitVec.toNat_xor, BitVec.toNat_ofNat, BitVec.toNat_ofNat, BitVec.toNat_ofNat, Nat.mod_eq_of_lt (by omega : 2 ^ k + r < 2 ^ 64), Nat.mod_eq_of_lt b2, hx, Nat.add_sub_cancel_left, Nat.mod_eq_of_lt (by omega)]
/-! a long as a set of cells -/
def lb (x : Int64) (c : Nat) : Bool := x.toBitVec.getLsbD c
theorem lb_ext {x y : Int64} (h : ∀ c, c < 64 → lb x c = lb y c) : x = y := Int64.toBitVec_inj.mp (BitVec.eq_of_getLsbD_eq (fun i hi => h i hi))
theorem lb_big {x : Int64} {c : Nat} (h : 64 ≤ c) : lb x c = false := BitVec.getLsbD_of_ge _ _ h
theorem lb_or (x y : Int64) (c : Nat) : lb (x ||| y) c = (lb x c || lb y c) := by unfold lb; rw [Int64.toBitVec_or, BitVec.getLsbD_or]
theorem lb_xor (x y : Int64) (c : Nat) : lb (x ^^^ y) c = (lb x c ^^ lb y c) := by unfold lb; rw [Int64.toBitVec_xor, BitVec.getLsbD_xor]
theorem lb_0 (c : Nat) : lb 0 c = false := BitVec.getLsbD_zero
theorem lb_m1 : ∀ c, c < 64 → lb (-1) c = true := by decide +kernel
theorem lb_not {x : Int64} {c : Nat} (h : c < 64) : lb (x ^^^ (-1)) c = !lb x c := by rw [lb_xor, lb_m1 c h]; cases lb x c <;> rfl
theorem lb_one : ∀ c, c < 64 → ∀ d, d < 64 → lb (1 <<< ((nI c).toInt64 &&& 63)) d = decide (d = c) := by decide +kernel
theorem lb_ub {t : Int64} {c : Nat} (h : c < 64) : ub t (nI c) = 0 ↔ lb t c = false := by
  unfold ub lb
  exact ts_bit h (by rw [wb_cu c h]; exact Nat.mod_eq_of_lt (by omega))
theorem lb_sh1 {t : Int64} {c : Nat} (h : c < 64) : lb ((t >>> ((nI c).toInt64 &&& 63)) &&& 1) 0 = lb t c := by
  have e : (t >>> ((nI c).toInt64 &&& 63)).toBitVec = t.toBitVec.sshiftRight c := by
    rw [wb_c c h, Int64.toBitVec_shiftRight, wb_tb, wb_sm c h]
    show t.toBitVec.sshiftRight (BitVec.ofNat 64 c).toNat = _
    rw [BitVec.toNat_ofNat, Nat.mod_eq_of_lt (by omega)]
  unfold lb
  rw [Int64.toBitVec_and, e, BitVec.getLsbD_and, BitVec.getLsbD_sshiftRight]
  simp [h]
theorem lb_sb {t : Int64} {c : Nat} (h : c < 64) : sb t (nI c) = if lb t c = true then 1 else 0 := by
  apply lb_ext
  intro d hd
  cases d with
  | zero =>
    unfold sb
    rw [lb_sh1 h]
    cases lb t c <;> rfl
  | succ d =>
    have e1 : lb (sb t (nI c)) (d + 1) = false := by
      unfold sb lb
      rw [Int64.toBitVec_and, BitVec.getLsbD_and]
      show (_ && BitVec.getLsbD 1#64 (d + 1)) = false
      simp
    rw [e1]
    cases lb t c
    · exact (lb_0 _).symm
    · show false = BitVec.getLsbD 1#64 (d + 1)
      simp
theorem lb_sb1 {t : Int64} {c : Nat} (h : c < 64) : sb t (nI c) = 1 ↔ lb t c = true := by
  rw [lb_sb h]
  cases lb t c
  · exact ⟨fun z => absurd z (by decide), fun z => absurd z (by decide)⟩
  · exact ⟨fun _ => rfl, fun _ => rfl⟩
theorem lb_sb0 {t : Int64} {c : Nat} (h : c < 64) : sb t (nI c) = 0 ↔ lb t c = false := by
  rw [lb_sb h]
  cases lb t c
  · exact ⟨fun _ => rfl, fun _ => rfl⟩
  · exact ⟨fun z => absurd z (by decide), fun z => absurd z (by decide)⟩
/-- the number of cells below n -/
def pcn (f : Nat → Bool) : Nat → Nat
  | 0 => 0
  | n + 1 => pcn f n + (if f n = true then 1 else 0)
theorem pcn_le (f : Nat → Bool) : ∀ n, pcn f n ≤ n
  | 0 => Nat.le_refl _
  | n + 1 => by
    have := pcn_le f n
    unfold pcn
    split <;> omega
theorem pcn_eq {f g : Nat → Bool} : ∀ n, (∀ c, c < n → f c = g c) → pcn f n = pcn g n
  | 0, _ => rfl
  | n + 1, h => by
    unfold pcn
    rw [pcn_eq n (fun c hc => h c (by omega)), h n (by omega)]
theorem pcn_0 {f : Nat → Bool} : ∀ n, (∀ c, c < n → f c = false) → pcn f n = 0
  | 0, _ => rfl
  | n + 1, h => by
    unfold pcn
    rw [pcn_0 n (fun c hc => h c (by omega)), h n (by omega)]
    rfl
theorem pcn_add {f : Nat → Bool} (n : Nat) : ∀ m, (∀ c, n ≤ c → c < n + m → f c = false) → pcn f (n + m) = pcn f n
  | 0, _ => rfl
  | m + 1, h => by
    show pcn f (n + m) + (if f (n + m) = true then 1 else 0) = _
    rw [pcn_add n m (fun c h1 h2 => h c h1 (by omega)), h (n + m) (by omega) (by omega)]
    rfl
theorem szl_pc {t : Int64} : ∀ n, n ≤ 64 → szl t n = nI (pcn (lb t) n)
  | 0, _ => rfl
  | n + 1, h => by
    unfold szl pcn
    rw [szl_pc n (by omega)]
    by_cases hb : lb t n = true
    · rw [if_pos hb, nI_succ]
      show _ + b2 _ = _
      unfold b2
      rw [if_pos ((lb_sb1 (by omega)).mpr hb)]
    · rw [if_neg hb]
      unfold b2
      rw [if_neg (fun z => hb ((lb_sb1 (by omega)).mp z))]
      exact Int32.add_zero _
/-! bitCount -/
theorem and_cat {a b c d : Nat} (hb : b < 256) (hd : d < 256) : (a * 256 + b) &&& (c * 256 + d) = (a &&& c) * 256 + (b &&& d) := by
  have h3 : b &&& d < 2 ^ 8 := Nat.and_lt_two_pow _ hd
  apply Nat.eq_of_testBit_eq
  intro i
  rw [Nat.testBit_and, show a * 256 + b = 2 ^ 8 * a + b by omega, show c * 256 + d = 2 ^ 8 * c + d by omega, show (a &&& c) * 256 + (b &&& d) = 2 ^ 8 * (a &&& c) + (b &&& d) by omega, Nat.testBit_two_pow_mul_add _ hb, Nat.testBit_two_pow_mul_add _ hd, Nat.testBit_two_pow_mul_add _ h3]
  split
  · rw [Nat.testBit_and]
  · rw [Nat.testBit_and]
def pA1 (m n : Nat) : Nat := n - (n / 2 &&& m)
def pB1' (m n : Nat) : Nat := (n &&& m) + (n / 4 &&& m)
def pC1' (m n : Nat) : Nat := (n + n / 16) &&& m
theorem pA_s (m h l : Nat) (hl : l < 256) : pA1 (m * 256 + 85) (h * 256 + l) = pA1 m h * 256 + pA1 85 l := by
  unfold pA1
  have e1 : (h * 256 + l) / 2 = (h / 2) * 256 + ((h % 2) * 128 + l / 2) := by omega
  have e2 : ((h % 2) * 128 + l / 2) &&& 85 = l / 2 &&& 85 := (show ∀ e, e < 2 → ∀ l, l < 256 → (e * 128 + l / 2) &&& 85 = l / 2 &&& 85 by decide +kernel) _ (Nat.mod_lt _ (by decide)) l hl
  rw [e1, and_cat (by omega) (by decide), e2]
  have h1 : h / 2 &&& m ≤ h / 2 := Nat.and_le_left
  have h2 : l / 2 &&& 85 ≤ l / 2 := Nat.and_le_left
  omega
theorem pB_s (m h l : Nat) (hl : l < 256) : pB1' (m * 256 + 51) (h * 256 + l) = pB1' m h * 256 + pB1' 51 l := by
  unfold pB1'
  have e1 : (h * 256 + l) / 4 = (h / 4) * 256 + ((h % 4) * 64 + l / 4) := by omega
  have e2 : ((h % 4) * 64 + l / 4) &&& 51 = l / 4 &&& 51 := (show ∀ e, e < 4 → ∀ l, l < 256 → (e * 64 + l / 4) &&& 51 = l / 4 &&& 51 by decide +kernel) _ (Nat.mod_lt _ (by decide)) l hl
  rw [e1, and_cat hl (by decide), and_cat (by omega) (by decide), e2]
  omega
theorem pC_s (m h l : Nat) (h1 : h % 16 ≤ 4) (h2 : l % 16 ≤ 4) (h3 : l / 16 ≤ 4) : pC1' (m * 256 + 15) (h * 256 + l) = pC1' m h * 256 + pC1' 15 l := by
  unfold pC1'
  have e1 : (h * 256 + l) + (h * 256 + l) / 16 = (h + h / 16) * 256 + (l + ((h % 16) * 16 + l / 16)) := by omega
  have e2 : (l + ((h % 16) * 16 + l / 16)) &&& 15 = (l + l / 16) &&& 15 := by
    have hh : ∀ a, a ≤ 4 → ∀ b, b ≤ 4 → ∀ c, c ≤ 4 → (a * 16 + b + (c * 16 + a)) &&& 15 = (a * 16 + b + a) &&& 15 := by decide +kernel
    have := hh (l / 16) h3 (l % 16) h2 (h % 16) h1
    rw [show l / 16 * 16 + l % 16 = l by omega] at this
    exact this
  rw [e1, and_cat (by omega) (by decide), e2]
def pop8 (b : Nat) : Nat := b % 2 + b / 2 % 2 + b / 4 % 2 + b / 8 % 2 + b / 16 % 2 + b / 32 % 2 + b / 64 % 2 + b / 128 % 2
theorem p8f : ∀ b, b < 256 → pA1 85 b < 256 ∧ pB1' 51 (pA1 85 b) < 256 ∧ pB1' 51 (pA1 85 b) % 16 ≤ 4 ∧ pB1' 51 (pA1 85 b) / 16 ≤ 4 ∧ pC1' 15 (pB1' 51 (pA1 85 b)) = pop8 b ∧ pop8 b ≤ 8 := by decide +kernel
theorem cat16 (h l : Nat) : (h * 256 + l) % 16 = l % 16 := by omega
def mA : Nat := 6148914691236517205
def mB : Nat := 3689348814741910323
def mC : Nat := 1085102592571150095
/-- bitCount of a number below 2^40, by its bytes -/
theorem pop_5 (b0 b1 b2 b3 b4 : Nat) (h0 : b0 < 256) (h1 : b1 < 256) (h2 : b2 < 256) (h3 : b3 < 256) (h4 : b4 < 256) :
    pC1' mC (pB1' mB (pA1 mA ((((b4 * 256 + b3) * 256 + b2) * 256 + b1) * 256 + b0))) = (((pop8 b4 * 256 + pop8 b3) * 256 + pop8 b2) * 256 + pop8 b1) * 256 + pop8 b0 := by
  have a : ∀ x, pA1 mA x = pA1 (((((((((0 * 256 + 85) * 256 + 85) * 256 + 85) * 256 + 85) * 256 + 85) * 256 + 85) * 256 + 85) * 256 + 85)) x := fun x => rfl
  have b : ∀ x, pB1' mB x = pB1' (((((((((0 * 256 + 51) * 256 + 51) * 256 + 51) * 256 + 51) * 256 + 51) * 256 + 51) * 256 + 51) * 256 + 51)) x := fun x => rfl
  have c : ∀ x, pC1' mC x = pC1' (((((((((0 * 256 + 15) * 256 + 15) * 256 + 15) * 256 + 15) * 256 + 15) * 256 + 15) * 256 + 15) * 256 + 15)) x := fun x => rfl
  obtain ⟨p0, q0, r0, s0, t0, _⟩ := p8f b0 h0
  obtain ⟨p1, q1, r1, s1, t1, _⟩ := p8f b1 h1
  obtain ⟨p2, q2, r2, s2, t2, _⟩ := p8f b2 h2
  obtain ⟨p3, q3, r3, s3, t3, _⟩ := p8f b3 h3
  obtain ⟨p4, q4, r4, s4, t4, _⟩ := p8f b4 h4
  have z4 : (b4 : Nat) = 0 * 256 + b4 := by omega
  rw [a, pA_s _ _ _ h0, pA_s _ _ _ h1, pA_s _ _ _ h2, pA_s _ _ _ h3]
  conv => lhs; rw [z4]
  rw [pA_s _ _ _ h4]
  have zA : ∀ m, pA1 m 0 = 0 := fun m => Nat.zero_sub _
  rw [zA, b, pB_s _ _ _ p0, pB_s _ _ _ p1, pB_s _ _ _ p2, pB_s _ _ _ p3, pB_s _ _ _ p4]
  have zB : ∀ m, pB1' m 0 = 0 := fun m => by unfold pB1'; simp
  rw [zB, c, pC_s _ _ _ (by rw [cat16]; exact r1) r0 s0, pC_s _ _ _ (by rw [cat16]; exact r2) r1 s1, pC_s _ _ _ (by rw [cat16]; exact r3) r2 s2, pC_s _ _ _ (by rw [cat16]; exact r4) r3 s3, pC_s _ _ _ (by decide) r4 s4]
  have zC : ∀ m, pC1' m 0 = 0 := fun m => by unfold pC1'; simp
  rw [zC, t0, t1, t2, t3, t4, Nat.zero_mul, Nat.zero_add]
theorem lN_ad (a b : Nat) : lN (a + b) = lN a + lN b := Int64.ofNat_add a b
theorem lN_sb {a b : Nat} (h : b ≤ a) : lN a - lN b = lN (a - b) := by
  have : lN a = lN (a - b) + lN b := by rw [← lN_ad, Nat.sub_add_cancel h]
  rw [this, Int64.add_sub_cancel]
theorem ush_N {n k : Nat} (hn : n < 2 ^ 64) (hk : k < 64) {y : Int32} (hy : y = nI k) : ush (lN n) y = lN (n / 2 ^ k) := by
  rw [hy]; exact wb_shr hn hk
theorem nI_127 (k : Nat) : nI k &&& 127 = nI (k % 128) := by
  apply Int32.toBitVec_inj.mp
  apply BitVec.eq_of_toNat_eq
  rw [Int32.toBitVec_and, BitVec.toNat_and]
  show (BitVec.ofNat 32 k).toNat &&& (2 ^ 7 - 1) = (BitVec.ofNat 32 (k % 128)).toNat
  rw [Nat.and_two_pow_sub_one_eq_mod, BitVec.toNat_ofNat, BitVec.toNat_ofNat]
  omega
theorem lN_32 (n : Nat) : (lN n).toInt32 = nI n := by
  apply Int32.toBitVec_inj.mp
  rw [Int64.toBitVec_toInt32]
  apply BitVec.eq_of_getLsbD_eq
  intro i hi
  show ((BitVec.ofNat 64 n).signExtend 32).getLsbD i = (BitVec.ofNat 32 n).getLsbD i
  rw [BitVec.getLsbD_signExtend, BitVec.getLsbD_ofNat, BitVec.getLsbD_ofNat]
  simp [hi, show i < 64 by omega]
theorem bc_5 (n b0 b1 b2 b3 b4 : Nat) (h0 : b0 < 256) (h1 : b1 < 256) (h2 : b2 < 256) (h3 : b3 < 256) (h4 : b4 < 256) (hn : (((b4 * 256 + b3) * 256 + b2) * 256 + b1) * 256 + b0 = n) : bc (lN n) = nI (pop8 b0 + pop8 b1 + pop8 b2 + pop8 b3 + pop8 b4) := by
  have key := pop_5 b0 b1 b2 b3 b4 h0 h1 h2 h3 h4
  rw [hn] at key
  have hlt : n < 2 ^ 40 := by omega
  have eA : bcA (lN n) = lN (pA1 mA n) := by
    have hle : n / 2 ^ 1 &&& mA ≤ n / 2 ^ 1 := Nat.and_le_left
    unfold bcA pA1
    rw [ush_N (n := n) (k := 1) (y := 1) (by omega) (by decide) rfl]
    show lN n - (lN (n / 2 ^ 1) &&& lN mA) = lN (n - (n / 2 ^ 1 &&& mA))
    rw [wb_and (by omega) (by decide), lN_sb (by omega)]
  have hA : pA1 mA n < 2 ^ 40 := Nat.lt_of_le_of_lt (Nat.sub_le _ _) hlt
  generalize pA1 mA n = a at key eA hA
  have eB : bcB (lN a) = lN (pB1' mB a) := by
    unfold bcB pB1'
    rw [ush_N (n := a) (k := 2) (y := 2) (by omega) (by decide) rfl]
    show (lN a &&& lN mB) + (lN (a / 2 ^ 2) &&& lN mB) = _
    rw [wb_and (by omega) (by decide), wb_and (by omega) (by decide), ← lN_ad]
  have hB : pB1' mB a < 2 ^ 42 := by
    have g1 : a &&& mB ≤ a := Nat.and_le_left
    have g2 : a / 4 &&& mB ≤ a / 4 := Nat.and_le_left
    unfold pB1'
    omega
  generalize pB1' mB a = b at key eB hB
  have eC : bcC (lN b) = lN (pC1' mC b) := by
    unfold bcC pC1'
    rw [ush_N (n := b) (k := 4) (y := 4) (by omega) (by decide) rfl, ← lN_ad]
    show lN (b + b / 2 ^ 4) &&& lN mC = _
    rw [wb_and (by omega) (by decide)]
  obtain ⟨-, -, -, -, -, s0⟩ := p8f b0 h0
  obtain ⟨-, -, -, -, -, s1⟩ := p8f b1 h1
  obtain ⟨-, -, -, -, -, s2⟩ := p8f b2 h2
  obtain ⟨-, -, -, -, -, s3⟩ := p8f b3 h3
  obtain ⟨-, -, -, -, -, s4⟩ := p8f b4 h4
  unfold bc
  rw [eA, eB, eC, key]
  generalize pop8 b0 = q0 at s0 ⊢
  generalize pop8 b1 = q1 at s1 ⊢
  generalize pop8 b2 = q2 at s2 ⊢
  generalize pop8 b3 = q3 at s3 ⊢
  generalize pop8 b4 = q4 at s4 ⊢
  unfold bcS
  generalize hv : (((q4 * 256 + q3) * 256 + q2) * 256 + q1) * 256 + q0 = v
  rw [ush_N (n := v) (k := 8) (y := 8) (by omega) (by decide) rfl, ← lN_ad]
  generalize hv2 : v + v / 2 ^ 8 = v2
  rw [ush_N (n := v2) (k := 16) (y := 16) (by omega) (by decide) rfl, ← lN_ad]
  generalize hv3 : v2 + v2 / 2 ^ 16 = v3
  rw [ush_N (n := v3) (k := 32) (y := 32) (by omega) (by decide) rfl, ← lN_ad]
  rw [lN_32, nI_127]
  congr 1
  clear key eA eB eC hA hB hn hlt h0 h1 h2 h3 h4
  have d1 : v / 2 ^ 8 = ((q4 * 256 + q3) * 256 + q2) * 256 + q1 := by omega
  have d2 : v2 = q0 + q1 + 256 * (q1 + q2) + 65536 * (q2 + q3) + 16777216 * (q3 + q4) + 4294967296 * q4 := by omega
  have d3 : v2 / 2 ^ 16 = q2 + q3 + 256 * (q3 + q4) + 65536 * q4 := by omega
  have d4 : v3 = q0 + q1 + q2 + q3 + 256 * (q1 + q2 + q3 + q4) + 65536 * (q2 + q3 + q4) + 16777216 * (q3 + q4) + 4294967296 * q4 := by omega
  have d5 : v3 / 2 ^ 32 = q4 := by omega
  rw [d5]
  omega
theorem tb_i (n c : Nat) : (if n.testBit c = true then 1 else 0) = n / 2 ^ c % 2 := by
  rw [Nat.testBit_eq_decide_div_mod_eq]
  have := Nat.mod_lt (n / 2 ^ c) (show 0 < 2 by decide)
  by_cases h : n / 2 ^ c % 2 = 1
  · rw [if_pos (decide_eq_true h), h]
  · rw [if_neg (by simpa using h)]
    omega
theorem pcn_8 (n k : Nat) : pcn (fun c => n.testBit c) (k + 8) = pcn (fun c => n.testBit c) k + pop8 (n / 2 ^ k % 256) := by
  have t : ∀ i, (if n.testBit (k + i) = true then 1 else 0) = n / 2 ^ k / 2 ^ i % 2 := by
    intro i
    rw [tb_i, Nat.pow_add, Nat.div_div_eq_div_mul]
  have e : pcn (fun c => n.testBit c) (k + 8) = pcn (fun c => n.testBit c) k + (if n.testBit (k + 0) = true then 1 else 0) + (if n.testBit (k + 1) = true then 1 else 0) + (if n.testBit (k + 2) = true then 1 else 0) + (if n.testBit (k + 3) = true then 1 else 0) + (if n.testBit (k + 4) = true then 1 else 0) + (if n.testBit (k + 5) = true then 1 else 0) + (if n.testBit (k + 6) = true then 1 else 0) + (if n.testBit (k + 7) = true then 1 else 0) := rfl
  rw [e, t 0, t 1, t 2, t 3, t 4, t 5, t 6, t 7]
  generalize n / 2 ^ k = a
  unfold pop8
  omega
/-- bitCount counts the cells -/
theorem bc_pc {x : Int64} (h : ∀ c, 36 ≤ c → c < 64 → lb x c = false) : bc x = nI (pcn (lb x) 36) := by
  obtain ⟨n, hn, rfl⟩ := wb_of x
  have hb : ∀ c, c < 64 → lb (lN n) c = n.testBit c := by
    intro c hc
    unfold lb
    rw [wb_tb, BitVec.getLsbD_ofNat]
    simp [hc]
  have hlt : n < 2 ^ 36 := by
    apply Nat.lt_pow_two_of_testBit
    intro i hi
    by_cases h64 : i < 64
    · rw [← hb i h64]; exact h i hi h64
    · exact Nat.testBit_lt_two_pow (Nat.lt_of_lt_of_le hn (Nat.pow_le_pow_right (by decide) (by omega)))
  have e40 : pcn (lb (lN n)) 36 = pcn (fun c => n.testBit c) 40 := by
    rw [show (40 : Nat) = 36 + 4 from rfl, pcn_add (f := fun c => n.testBit c) 36 4 (fun c h1 h2 => by
      show n.testBit c = false
      rw [← hb c (by omega)]; exact h c h1 (by omega))]
    exact pcn_eq 36 (fun c hc => hb c (by omega))
  rw [e40, bc_5 n (n % 256) (n / 256 % 256) (n / 65536 % 256) (n / 16777216 % 256) (n / 4294967296 % 256) (by omega) (by omega) (by omega) (by omega) (by omega) (by omega)]
  congr 1
  have k0 : pcn (fun c => n.testBit c) 8 = pcn (fun c => n.testBit c) 0 + pop8 (n / 1 % 256) := pcn_8 n 0
  have k1 : pcn (fun c => n.testBit c) 16 = pcn (fun c => n.testBit c) 8 + pop8 (n / 256 % 256) := pcn_8 n 8
  have k2 : pcn (fun c => n.testBit c) 24 = pcn (fun c => n.testBit c) 16 + pop8 (n / 65536 % 256) := pcn_8 n 16
  have k3 : pcn (fun c => n.testBit c) 32 = pcn (fun c => n.testBit c) 24 + pop8 (n / 16777216 % 256) := pcn_8 n 24
  have k4 : pcn (fun c => n.testBit c) 40 = pcn (fun c => n.testBit c) 32 + pop8 (n / 4294967296 % 256) := pcn_8 n 32
  rw [Nat.div_one] at k0
  have z : pcn (fun c => n.testBit c) 0 = 0 := rfl
  omega
