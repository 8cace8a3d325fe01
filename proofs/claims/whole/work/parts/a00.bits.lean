/-! ===== words by their bits ===== -/
def uN (v : Int64) : Nat := v.toBitVec.toNat
theorem uN_lt (v : Int64) : uN v < 2 ^ 64 := v.toBitVec.isLt
theorem uN_inj {a b : Int64} (h : uN a = uN b) : a = b := Int64.toBitVec_inj.1 (BitVec.eq_of_toNat_eq h)
theorem uN_and (a b : Int64) : uN (a &&& b) = uN a &&& uN b := by unfold uN; rw [Int64.toBitVec_and, BitVec.toNat_and]
theorem uN_or (a b : Int64) : uN (a ||| b) = uN a ||| uN b := by unfold uN; rw [Int64.toBitVec_or, BitVec.toNat_or]
theorem uN_xor (a b : Int64) : uN (a ^^^ b) = uN a ^^^ uN b := by unfold uN; rw [Int64.toBitVec_xor, BitVec.toNat_xor]
theorem uN_add (a b : Int64) : uN (a + b) = (uN a + uN b) % 2 ^ 64 := by unfold uN; rw [Int64.toBitVec_add, BitVec.toNat_add]
theorem uN_sub (a b : Int64) : uN (a - b) = (2 ^ 64 - uN b + uN a) % 2 ^ 64 := by unfold uN; rw [Int64.toBitVec_sub, BitVec.toNat_sub]
theorem uN_m1 : uN (-1) = 2 ^ 64 - 1 := by decide +kernel
theorem uN_0 : uN 0 = 0 := by decide +kernel
theorem sh_r : ∀ s : Fin 64, (((nI s.1).toInt64.toUInt64 &&& Int64.toUInt64 63).toNat % 64) = s.1 := by decide +kernel
theorem sh_l : ∀ s : Fin 64, (((nI s.1).toInt64 &&& 63).toBitVec.smod 64).toNat = s.1 := by decide +kernel
theorem uN_lush (x : Int64) {s : Nat} (h : s < 64) : uN (q_lush x (nI s)) = uN x >>> s := by
  have e := sh_r ⟨s, h⟩
  show (x.toUInt64 >>> ((nI s).toInt64.toUInt64 &&& Int64.toUInt64 63)).toNat = x.toUInt64.toNat >>> s
  rw [UInt64.toNat_shiftRight, e]
theorem uN_lshl (x : Int64) {s : Nat} (h : s < 64) : uN (q_lshl x (nI s)) = (uN x <<< s) % 2 ^ 64 := by
  have e := sh_l ⟨s, h⟩
  unfold uN q_lshl
  rw [Int64.toBitVec_shiftLeft, BitVec.shiftLeft_eq', BitVec.toNat_shiftLeft, e]
/-- a bit -/
def bt (v : Int64) (i : Nat) : Bool := (uN v).testBit i
theorem bt_hi (v : Int64) {i : Nat} (h : 64 ≤ i) : bt v i = false := Nat.testBit_lt_two_pow (Nat.lt_of_lt_of_le (uN_lt v) (Nat.pow_le_pow_right (by decide) h))
theorem bt_ext {a b : Int64} (h : ∀ i, i < 64 → bt a i = bt b i) : a = b := uN_inj (Nat.eq_of_testBit_eq fun i => by
  rcases Nat.lt_or_ge i 64 with q | q
  · exact h i q
  · exact (bt_hi a q).trans (bt_hi b q).symm)
theorem bt_and (a b : Int64) (i : Nat) : bt (a &&& b) i = (bt a i && bt b i) := by unfold bt; rw [uN_and, Nat.testBit_and]
theorem bt_or (a b : Int64) (i : Nat) : bt (a ||| b) i = (bt a i || bt b i) := by unfold bt; rw [uN_or, Nat.testBit_or]
theorem bt_not (a : Int64) {i : Nat} (h : i < 64) : bt (a ^^^ (-1)) i = !bt a i := by
  unfold bt
  rw [uN_xor, Nat.testBit_xor, uN_m1, Nat.testBit_two_pow_sub_one]
  simp [h]
theorem bt_lush (x : Int64) {s : Nat} (h : s < 64) (i : Nat) : bt (q_lush x (nI s)) i = bt x (s + i) := by unfold bt; rw [uN_lush x h, Nat.testBit_shiftRight]
theorem bt_lshl (x : Int64) {s : Nat} (h : s < 64) {i : Nat} (hi : i < 64) : bt (q_lshl x (nI s)) i = (decide (s ≤ i) && bt x (i - s)) := by
  unfold bt
  rw [uN_lshl x h, Nat.testBit_mod_two_pow, Nat.testBit_shiftLeft]
  simp [hi]
theorem uN_i2l {n : Nat} (h : n < 2 ^ 31) : uN (Int32.toInt64 (nI n)) = n := by
  have e1 : (Int32.toInt64 (nI n)).toInt = (n : Int) := by rw [Int32.toInt_toInt64, nI_toInt h]
  have e2 : (Int32.toInt64 (nI n)).toInt = (Int32.toInt64 (nI n)).toBitVec.toInt := rfl
  rw [e2, BitVec.toInt_eq_toNat_cond] at e1
  unfold uN
  have := (Int32.toInt64 (nI n)).toBitVec.isLt
  split at e1 <;> omega
theorem i_l2i (v : Int64) (k : Nat) (hk : k ≤ 31) (m : Int32) (hm : m = nI (2 ^ k - 1)) : (Int64.toInt32 v) &&& m = nI (uN v % 2 ^ k) := by
  subst hm
  have hp : 2 ^ k ≤ 2 ^ 31 := Nat.pow_le_pow_right (by decide) hk
  have hp0 : 0 < 2 ^ k := Nat.pow_pos (by decide)
  have hq : uN v % 2 ^ k < 2 ^ k := Nat.mod_lt _ hp0
  refine Int32.toBitVec_inj.1 (BitVec.eq_of_toNat_eq ?_)
  have e : ∀ n : Nat, n < 2 ^ 31 → (nI n).toBitVec.toNat = n := by
    intro n hn
    show (BitVec.ofNat 32 n).toNat = n
    rw [BitVec.toNat_ofNat]
    omega
  rw [Int32.toBitVec_and, BitVec.toNat_and, e _ (by omega), e _ (by omega), Int64.toBitVec_toInt32, BitVec.signExtend_eq_setWidth_of_le _ (by decide), BitVec.toNat_setWidth, Nat.and_two_pow_sub_one_eq_mod]
  show uN v % 2 ^ 32 % 2 ^ k = uN v % 2 ^ k
  exact Nat.mod_mod_of_dvd _ (Nat.pow_dvd_pow 2 (by omega))
/-- a number of 16 bits, of 8 bits -/
def hfN (v : Int64) (i : Nat) : Nat := (uN v >>> (16 * i)) % 2 ^ 16
def ocN (v : Int64) (i : Nat) : Nat := (uN v >>> (8 * i)) % 2 ^ 8
theorem hfN_lt (v : Int64) (i : Nat) : hfN v i < 65536 := Nat.mod_lt _ (by decide)
theorem ocN_lt (v : Int64) (i : Nat) : ocN v i < 256 := Nat.mod_lt _ (by decide)
theorem hfN_bt (v : Int64) (i j : Nat) : (hfN v i).testBit j = (decide (j < 16) && bt v (16 * i + j)) := by
  unfold hfN bt
  rw [Nat.testBit_mod_two_pow, Nat.testBit_shiftRight]
theorem ocN_bt (v : Int64) (i j : Nat) : (ocN v i).testBit j = (decide (j < 8) && bt v (8 * i + j)) := by
  unfold ocN bt
  rw [Nat.testBit_mod_two_pow, Nat.testBit_shiftRight]
/-- a field of k bits at s is set anew -/
theorem bt_set {k s n : Nat} {r m c : Int64} (hs : s + k ≤ 64) (hk : 0 < k) (hm : uN m = 2 ^ k - 1) (hc : uN c = n % 2 ^ k) {i : Nat} (hi : i < 64) : bt ((r &&& ((q_lshl m (nI s)) ^^^ (-1))) ||| (q_lshl c (nI s))) i = if s ≤ i ∧ i < s + k then n.testBit (i - s) else bt r i := by
  have hs0 : s < 64 := by omega
  have h1 : ∀ j, bt m j = decide (j < k) := fun j => by unfold bt; rw [hm, Nat.testBit_two_pow_sub_one]
  have h2 : ∀ j, bt c j = (decide (j < k) && n.testBit j) := fun j => by unfold bt; rw [hc, Nat.testBit_mod_two_pow]
  rw [bt_or, bt_and, bt_not _ hi, bt_lshl _ hs0 hi, bt_lshl _ hs0 hi, h1, h2]
  by_cases c1 : s ≤ i
  · by_cases c2 : i < s + k
    · rw [if_pos ⟨c1, c2⟩]
      have : i - s < k := by omega
      simp [c1, this]
    · rw [if_neg (by omega)]
      have : ¬ i - s < k := by omega
      simp [c1, this]
  · rw [if_neg (by omega)]
    simp [c1]
theorem hfN_set {r m c : Int64} {i n : Nat} (hi : i < 4) (hn : n < 65536) (hm : uN m = 2 ^ 16 - 1) (hc : uN c = n % 2 ^ 16) {j : Nat} (hj : j < 4) : hfN ((r &&& ((q_lshl m (nI (16 * i))) ^^^ (-1))) ||| (q_lshl c (nI (16 * i)))) j = if j = i then n else hfN r j := by
  refine Nat.eq_of_testBit_eq fun b => ?_
  rw [hfN_bt]
  by_cases hb : b < 16
  · rw [bt_set (k := 16) (n := n) (by omega) (by decide) hm hc (by omega)]
    by_cases c1 : j = i
    · rw [if_pos c1, if_pos (by omega), c1, show 16 * i + b - 16 * i = b by omega]
      simp [hb]
    · rw [if_neg c1, if_neg (by omega), hfN_bt]
  · have : ¬ b < 16 := hb
    simp only [this, decide_false, Bool.false_and]
    by_cases c1 : j = i
    · rw [if_pos c1]
      have hp : 2 ^ 16 ≤ 2 ^ b := Nat.pow_le_pow_right (by decide) (by omega)
      exact (Nat.testBit_lt_two_pow (by omega)).symm
    · rw [if_neg c1, hfN_bt]
      simp [this]
theorem ocN_set {r m c : Int64} {i n : Nat} (hi : i < 8) (hn : n < 256) (hm : uN m = 2 ^ 8 - 1) (hc : uN c = n % 2 ^ 8) {j : Nat} (hj : j < 8) : ocN ((r &&& ((q_lshl m (nI (8 * i))) ^^^ (-1))) ||| (q_lshl c (nI (8 * i)))) j = if j = i then n else ocN r j := by
  refine Nat.eq_of_testBit_eq fun b => ?_
  rw [ocN_bt]
  by_cases hb : b < 8
  · rw [bt_set (k := 8) (n := n) (by omega) (by decide) hm hc (by omega)]
    by_cases c1 : j = i
    · rw [if_pos c1, if_pos (by omega), c1, show 8 * i + b - 8 * i = b by omega]
      simp [hb]
    · rw [if_neg c1, if_neg (by omega), ocN_bt]
  · have : ¬ b < 8 := hb
    simp only [this, decide_false, Bool.false_and]
    by_cases c1 : j = i
    · rw [if_pos c1]
      have hp : 2 ^ 8 ≤ 2 ^ b := Nat.pow_le_pow_right (by decide) (by omega)
      exact (Nat.testBit_lt_two_pow (by omega)).symm
    · rw [if_neg c1, ocN_bt]
      simp [this]
