/-! ===== free BLOCKS, in both ===== -/
theorem pow_bit (j i : Nat) : (2 ^ j).testBit i = decide (i = j) := by
  rw [Nat.testBit_two_pow]
  by_cases c : i = j
  · simp [c]
  · have : ¬ j = i := fun z => c z.symm
    simp [c, this]
/-- the lowest bit that is set -/
theorem low1 {v : Int64} {j : Nat} (hj : j < 64) (h1 : bt v j = true) (h0 : ∀ i, i < j → bt v i = false) : uN (v &&& (-v)) = 2 ^ j := by
  have hlt := uN_lt v
  -- uN v = 2^j * (2 m + 1)
  have hmod : uN v % 2 ^ j = 0 := by
    refine Nat.eq_of_testBit_eq fun i => ?_
    rw [Nat.testBit_mod_two_pow, Nat.zero_testBit]
    by_cases c : i < j
    · have : (uN v).testBit i = false := h0 i c
      simp [this]
    · simp [c]
  obtain ⟨q, hq⟩ : ∃ q, uN v = 2 ^ j * q := ⟨uN v / 2 ^ j, by have := Nat.div_add_mod (uN v) (2 ^ j); omega⟩
  have hodd : q.testBit 0 = true := by
    have h1 : (uN v).testBit j = true := h1
    rw [hq, Nat.testBit_two_pow_mul, Nat.sub_self] at h1
    simpa using h1
  have hp : 2 ^ 64 = 2 ^ j * 2 ^ (64 - j) := by rw [← Nat.pow_add]; congr 1; omega
  have hqlt : q < 2 ^ (64 - j) := by
    rw [hq, hp] at hlt
    exact Nat.lt_of_mul_lt_mul_left hlt
  have hq1 : 0 < q := by
    rcases Nat.eq_zero_or_pos q with z | z
    · rw [z] at hodd; simp at hodd
    · exact z
  have hneg : uN (-v) = 2 ^ j * (2 ^ (64 - j) - (q - 1 + 1)) := by
    have : uN (-v) = (2 ^ 64 - uN v) % 2 ^ 64 := by
      unfold uN
      rw [Int64.toBitVec_neg, BitVec.toNat_neg]
    have hpos : 0 < uN v := by rw [hq]; exact Nat.mul_pos (Nat.pow_pos (by decide)) hq1
    rw [this, Nat.mod_eq_of_lt (by omega), hq, hp, ← Nat.mul_sub, show q - 1 + 1 = q by omega]
  rw [uN_and]
  refine Nat.eq_of_testBit_eq fun i => ?_
  rw [Nat.testBit_and, hneg, hq, Nat.testBit_two_pow_mul, Nat.testBit_two_pow_mul, pow_bit]
  by_cases c : i = j
  · subst c
    have e : (2 ^ (64 - i) - (q - 1 + 1)).testBit 0 = true := by
      rw [Nat.testBit_two_pow_sub_succ (by omega)]
      have : (q - 1).testBit 0 = false := by
        rw [Nat.testBit_zero] at hodd ⊢
        simp at hodd ⊢
        omega
      have h2 : 0 < 64 - i := by omega
      simp [this, h2]
    simp [hodd, e]
  · by_cases c2 : j ≤ i
    · have e : (2 ^ (64 - j) - (q - 1 + 1)).testBit (i - j) = (decide (i - j < 64 - j) && !(q - 1).testBit (i - j)) := Nat.testBit_two_pow_sub_succ (by omega) _
      have e2 : (q - 1).testBit (i - j) = q.testBit (i - j) := by
        obtain ⟨m, hm⟩ : ∃ m, q = 2 * m + 1 := by
          rw [Nat.testBit_zero] at hodd
          simp at hodd
          exact ⟨q / 2, by omega⟩
        obtain ⟨t, ht⟩ : ∃ t, i - j = t + 1 := ⟨i - j - 1, by omega⟩
        rw [hm, ht, Nat.testBit_succ, Nat.testBit_succ]
        congr 1
        omega
      have key : ∀ a b c : Bool, ((a && b) && (a && (c && !b))) = false := by decide
      rw [e, e2, decide_eq_false c]
      exact key _ _ _
    · have n1 : decide (i ≥ j) = false := decide_eq_false (by omega)
      rw [n1, decide_eq_false c]
      rfl
theorem pop_low {v : Int64} {j : Nat} (hj : j < 64) (h : uN v = 2 ^ j) : popN (v - 1) = j := by
  have hp : 2 ^ j < 2 ^ 64 := Nat.pow_lt_pow_right (by decide) hj
  have hp0 : 0 < 2 ^ j := Nat.pow_pos (by decide)
  have e : uN (v - 1) = 2 ^ j - 1 := by
    rw [uN_sub, h, show uN 1 = 1 from by decide +kernel]
    omega
  unfold popN
  have key : ∀ n, cnt (fun i => decide (i < j)) n = min n j := by
    intro n
    induction n with
    | zero => simp [cnt]
    | succ n ih =>
      simp only [cnt]
      rw [ih]
      by_cases c : n < j
      · simp [c]; omega
      · simp [c]; omega
  rw [cnt_congr (Q := fun i => decide (i < j)) (fun i hi => by unfold bt; rw [e, Nat.testBit_two_pow_sub_one]), key]
  omega
/-- used SECTORS -/
def uC (A : Nat → Nat → Nat) (n : Nat) : Nat := cnt (fun x => decide (A 17 x = 1)) n
theorem mw_lt {Ls i : Nat} (h : i < (Ls + 63) / 64) : 80 + i / 8 < 80 + (Ls + 511) / 512 := by omega
theorem x_freeCount {B T S C W Ls hb : Nat} {um : q_St} {D K : Nat → Nat → Int64} {dd : Nat → Bool} {A : Nat → Nat → Nat} {L : Nat → Nat} {N : Nat} {ux : q_St} (g : Geo B T S C W Ls) (gl : gL B C W Ls L) (hN : 300 ≤ N) (s : XS B T S C W Ls hb um D K dd ux) (mm : mMap Ls A K) : fX5_freeCount L N ux = some (nI (Ls - uC A Ls), ux) := by
  have hl := g.l
  have gx := s.1.gx
  obtain ⟨P, hP⟩ : ∃ P : Nat → Bool, P = fun x => (decide (x < Ls) && decide (A 17 x = 1)) := ⟨_, rfl⟩
  have word : ∀ i, i < (Ls + 63) / 64 → popN (K (80 + i / 8) (i % 8)) = cnt (fun j => P (64 * i + j)) 64 := by
    intro i hi
    unfold popN
    refine cnt_congr (fun j hj => ?_)
    have := mm (64 * i + j) (by omega)
    rw [show (64 * i + j) / 512 = i / 8 by omega, show (64 * i + j) % 512 / 64 = i % 8 by omega, show (64 * i + j) % 64 = j by omega] at this
    rw [this, hP]
  have key : ∀ (k i n : Nat), i + k = (Ls + 63) / 64 → k < n → q_lp (fX5_freeCount_b4 L N) (fun _ _ _ => none) n (nI (cnt P (64 * i))) (nI i) ux = some (nI Ls - nI (cnt P (64 * ((Ls + 63) / 64))), ux) := by
    intro k
    induction k with
    | zero =>
      intro i n h1 h2
      have : i = (Ls + 63) / 64 := by omega
      subst this
      rw [lp_1 _ _ (by omega), fX5_freeCount_b4, gx.2.2.2.2.2.2.2.2.1, if_pos (nI_le (by omega) (by omega)), gx.2.2.2.2.2.2.1]
    | succ k ih =>
      intro i n h1 h2
      have e : cnt P (64 * (i + 1)) = cnt P (64 * i) + cnt (fun j => P (64 * i + j)) 64 := by rw [show 64 * (i + 1) = 64 * i + 64 by omega, cnt_add]
      rw [lp_1 _ _ (by omega), fX5_freeCount_b4, gx.2.2.2.2.2.2.2.2.1, if_neg (nI_ge (by omega) (by omega)), show nI i / (8 : Int32) = nI (i / 8) from pk_div (d := 8) (by omega) (by decide) (by decide), show (80 : Int32) + nI (i / 8) = nI (80 + i / 8) from nI_add 80 _, show nI (i / 8) * (8 : Int32) = nI (i / 8 * 8) from pk_mul _ 8, pk_sub (by omega), show i - i / 8 * 8 = i % 8 by omega, x_word g gl s (by omega) (by omega), qb_s, x_bitCount, qb_s, qn_s, qn_s, nI_add, nI_1, word i (by omega), ← e]
      exact ih (i + 1) (n - 1) (by omega) (by omega)
  have hc : cnt P (64 * ((Ls + 63) / 64)) = uC A Ls := by
    rw [show 64 * ((Ls + 63) / 64) = Ls + (64 * ((Ls + 63) / 64) - Ls) by omega, cnt_add, hP]
    have e1 : cnt (fun x => (decide (x < Ls) && decide (A 17 x = 1))) Ls = uC A Ls := cnt_congr (fun i hi => by simp [hi])
    have e2 : cnt (fun i => (fun x => (decide (x < Ls) && decide (A 17 x = 1))) (Ls + i)) (64 * ((Ls + 63) / 64) - Ls) = 0 := by
      have z : ∀ i, i < 64 * ((Ls + 63) / 64) - Ls → (fun i => (fun x => (decide (x < Ls) && decide (A 17 x = 1))) (Ls + i)) i = (fun _ => false) i := by
        intro i hi
        show (decide (Ls + i < Ls) && decide (A 17 (Ls + i) = 1)) = false
        rw [decide_eq_false (show ¬ Ls + i < Ls by omega)]
        rfl
      rw [cnt_congr z, cnt_no]
    rw [e1, e2]
    rfl
  have hle : uC A Ls ≤ Ls := cnt_le _ _
  unfold fX5_freeCount
  have := key ((Ls + 63) / 64) 0 N (by omega) (by omega)
  have this : q_lp (fX5_freeCount_b4 L N) (fun _ _ _ => none) N 0 0 ux = some (nI Ls - nI (cnt P (64 * ((Ls + 63) / 64))), ux) := this
  rw [this, hc, pk_sub hle]
theorem m_freeBlocks {Ls fb : Nat} {A : Nat → Nat → Nat} {nm : Nat → Int64} {N : Nat} {um : q_St} (hN : 3000 ≤ N) (hl : Ls ≤ 2048) (hfb : fb ≤ Ls) (r : RM Ls A nm (q_a um) (q_j um 0)) (h5 : q_i um 5 = nI Ls) (h6 : q_i um 6 = nI fb) (h17 : ∀ x, A 17 x ≤ 1) (hlow : ∀ x, x < fb → A 17 x = 1) : fX11_freeBlocks N um = some (nI (Ls - uC A Ls), um) := by
  have key : ∀ (k x n : Nat), x + k = Ls → k < n → fb ≤ x → q_lp (fX11_freeBlocks_b7 N) (fun _ _ _ => none) n (nI (x - uC A x)) (nI x) um = some (nI (Ls - uC A Ls), um) := by
    intro k
    induction k with
    | zero =>
      intro x n h1 h2 h3
      have : x = Ls := by omega
      subst this
      rw [lp_1 _ _ (by omega), fX11_freeBlocks_b7, h5, if_pos (nI_le (by omega) (by omega))]
    | succ k ih =>
      intro x n h1 h2 h3
      have hle : uC A x ≤ x := cnt_le _ _
      have e : uC A (x + 1) = uC A x + if decide (A 17 x = 1) = true then 1 else 0 := rfl
      have h := h17 x
      rw [lp_1 _ _ (by omega), fX11_freeBlocks_b7, h5, if_neg (nI_ge (by omega) (by omega)), qr_n (by omega) (by omega), r.2.2.2.2.2.2.1 x (by omega)]
      unfold fX11_freeBlocks_b30
      by_cases c : A 17 x = 0
      · rw [c, if_pos (show nI 0 = (0 : Int32) from rfl), qn_s, nI_1, qn_s, nI_1]
        have := ih (x + 1) (n - 1) (by omega) (by omega) (by omega)
        rw [e, c] at this
        rw [show x + 1 - (uC A x + if decide ((0 : Nat) = 1) = true then 1 else 0) = x - uC A x + 1 by
          rw [if_neg (by decide)]; omega] at this
        exact this
      · have c1 : A 17 x = 1 := by omega
        rw [c1, if_neg (show ¬ nI 1 = (0 : Int32) by decide), qn_s, i32_add0, qn_s, nI_1]
        have := ih (x + 1) (n - 1) (by omega) (by omega) (by omega)
        rw [e, c1] at this
        rw [show x + 1 - (uC A x + if decide ((1 : Nat) = 1) = true then 1 else 0) = x - uC A x by
          rw [if_pos (by decide)]; omega] at this
        exact this
  have h0 : uC A fb = fb := by
    have : ∀ n, n ≤ fb → uC A n = n := by
      intro n
      induction n with
      | zero => intro _; rfl
      | succ n ih =>
        intro hn
        have e : uC A (n + 1) = uC A n + if decide (A 17 n = 1) = true then 1 else 0 := rfl
        rw [e, ih (by omega), hlow n (by omega), if_pos (by decide)]
    exact this fb (Nat.le_refl _)
  unfold fX11_freeBlocks
  have := key (Ls - fb) fb N (by omega) (by omega) (Nat.le_refl _)
  rw [h0, Nat.sub_self] at this
  rw [h6, qn_s]
  exact this
