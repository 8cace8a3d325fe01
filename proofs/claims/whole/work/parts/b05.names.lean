/-! ===== rights and NAMES, in both ===== -/
def mayR (w own bits right : Int32) : Int32 := if w = 0 then 1 else if ((if own = w then bits >>> (3 &&& 31) else bits) &&& right) = right then 1 else 0
theorem x_may {B T S C W Ls na hb : Nat} {um : q_St} {D K : Nat → Nat → Int64} {dd : Nat → Bool} {A : Nat → Nat → Nat} {nm : Nat → Int64} {L : Nat → Nat} {N : Nat} {ux : q_St} (x : Xr B T S C W Ls na hb um D K dd A nm L ux) {n : Nat} (hn : n < 64) (hk : A 5 n ≠ 0) (h4 : A 5 n ≠ 4) (right w : Int32) : fX4_may L N (nI n) right w ux = some (mayR w (nI (A 11 n)) (nI (A 12 n)) right, ux) := by
  have m := (x.2.2.1.2.1 n hn).2.1 hk
  rw [if_neg h4] at m
  obtain ⟨e, h⟩ := x.na30
  obtain ⟨⟨g, gl, hna⟩, s, -⟩ := x
  have hw : fX6_word L N (nI (na + n)) 0 ux = some (K (na + n) 0, ux) := x_word (w := 0) g gl s (by omega) (by decide)
  unfold fX4_may fX4_may_b61 mayR
  by_cases c : w = 0
  · rw [if_pos c, if_pos c]
  · rw [if_neg c, if_neg c, e, nI_add, hw, qb_s, show (8 : Int32) = nI 8 from rfl, show (16 : Int32) = nI 16 from rfl, i_l2i _ 8 (by decide) 255 (by decide), i_l2i _ 8 (by decide) 255 (by decide), uN_lush _ (by decide), uN_lush _ (by decide), qn_s, qn_s]
    have e1 : uN (K (na + n) 0) >>> 8 % 2 ^ 8 = A 11 n := m.1
    have e2 : uN (K (na + n) 0) >>> 16 % 2 ^ 8 = A 12 n := m.2.1
    rw [e1, e2]
    by_cases c2 : w = nI (A 11 n)
    · rw [if_pos c2, if_pos (show nI (A 11 n) = w from c2.symm)]
      split <;> rfl
    · rw [if_neg c2, if_neg (show ¬ nI (A 11 n) = w from fun z => c2 z.symm)]
      split <;> rfl
theorem m_may {Ls : Nat} {A : Nat → Nat → Nat} {nm : Nat → Int64} {N : Nat} {um : q_St} (r : RM Ls A nm (q_a um) (q_j um 0)) {n : Nat} (hn : n < 64) (right : Int32) : fX11_may N (nI n) right um = some (mayR (q_i um 28) (nI (A 11 n)) (nI (A 12 n)) right, um) := by
  unfold fX11_may fX11_may_b39 mayR
  by_cases c : q_i um 28 = 0
  · rw [if_pos c, if_pos c]
  · rw [if_neg c, if_neg c, qr_n hn (by decide), qr_n hn (by decide), qr_n hn (by decide), r.r7 (by decide) hn, r.r7 (by decide) hn]
    by_cases c2 : nI (A 11 n) = q_i um 28
    · rw [if_pos c2, if_pos c2]
      split <;> rfl
    · rw [if_neg c2, if_neg c2]
      split <;> rfl
theorem mayR_01 (w own bits right : Int32) : mayR w own bits right = 0 ∨ mayR w own bits right = 1 := by
  unfold mayR
  by_cases c : w = 0
  · rw [if_pos c]; exact Or.inr rfl
  · rw [if_neg c]
    generalize (if own = w then bits >>> (3 &&& 31) else bits) = z
    by_cases c2 : z &&& right = right
    · rw [if_pos c2]; exact Or.inr rfl
    · rw [if_neg c2]; exact Or.inl rfl
/-- the letters of NAMES -/
def letB (b : Nat) : Bool := decide ((97 ≤ b ∧ b ≤ 122) ∨ (48 ≤ b ∧ b ≤ 57) ∨ b = 45 ∨ b = 95 ∨ b = 46)
theorem let_lg {b : Nat} (h : letB b = true) : 45 ≤ b ∧ b < 128 := by
  unfold letB at h
  simp at h
  omega
theorem x_let {L : Nat → Nat} {N b : Nat} {u : q_St} (hb : b < 256) : fX3_isNameByte L N (nI b) u = some (b2i (letB b), u) := by
  have lt : ∀ c, c < 256 → (nI b < nI c ↔ b < c) := fun c hc => ⟨fun h => by
    rcases Nat.lt_or_ge b c with q | q
    · exact q
    · exact absurd h (nI_nlt q (by omega)), fun h => nI_lt h (by omega)⟩
  have le : ∀ c, c < 256 → (nI b ≤ nI c ↔ b ≤ c) := fun c hc => nI_leI (by omega) (by omega)
  have eq : ∀ c, c < 256 → (nI b = nI c ↔ b = c) := fun c hc => nI_eq (by omega) (by omega)
  unfold fX3_isNameByte fX3_isNameByte_b12 fX3_isNameByte_b24 fX3_isNameByte_b42 letB
  rw [show (97 : Int32) = nI 97 from rfl, show (122 : Int32) = nI 122 from rfl, show (48 : Int32) = nI 48 from rfl, show (57 : Int32) = nI 57 from rfl, show (45 : Int32) = nI 45 from rfl, show (95 : Int32) = nI 95 from rfl, show (46 : Int32) = nI 46 from rfl]
  simp only [lt 97 (by decide), lt 48 (by decide), le 122 (by decide), le 57 (by decide), eq 45 (by decide), eq 95 (by decide), eq 46 (by decide)]
  by_cases h : (97 ≤ b ∧ b ≤ 122) ∨ (48 ≤ b ∧ b ≤ 57) ∨ b = 45 ∨ b = 95 ∨ b = 46
  · rw [decide_eq_true h, b2i_t]
    repeat' split
    all_goals first | rfl | omega
  · rw [decide_eq_false h, b2i_f]
    repeat' split
    all_goals first | rfl | omega
theorem m_let {N b : Nat} {u : q_St} (hb : b < 256) : fX11_isLetter N (nI b) u = some (b2i (letB b), u) := by
  have lt : ∀ c, c < 256 → (nI b < nI c ↔ b < c) := fun c hc => ⟨fun h => by
    rcases Nat.lt_or_ge b c with q | q
    · exact q
    · exact absurd h (nI_nlt q (by omega)), fun h => nI_lt h (by omega)⟩
  have le : ∀ c, c < 256 → (nI b ≤ nI c ↔ b ≤ c) := fun c hc => nI_leI (by omega) (by omega)
  have eq : ∀ c, c < 256 → (nI b = nI c ↔ b = c) := fun c hc => nI_eq (by omega) (by omega)
  unfold fX11_isLetter fX11_isLetter_b12 fX11_isLetter_b24 fX11_isLetter_b42 letB
  rw [show (97 : Int32) = nI 97 from rfl, show (122 : Int32) = nI 122 from rfl, show (48 : Int32) = nI 48 from rfl, show (57 : Int32) = nI 57 from rfl, show (45 : Int32) = nI 45 from rfl, show (95 : Int32) = nI 95 from rfl, show (46 : Int32) = nI 46 from rfl]
  simp only [lt 97 (by decide), lt 48 (by decide), le 122 (by decide), le 57 (by decide), eq 45 (by decide), eq 95 (by decide), eq 46 (by decide)]
  by_cases h : (97 ≤ b ∧ b ≤ 122) ∨ (48 ≤ b ∧ b ≤ 57) ∨ b = 45 ∨ b = 95 ∨ b = 46
  · rw [decide_eq_true h, b2i_t]
    repeat' split
    all_goals first | rfl | omega
  · rw [decide_eq_false h, b2i_f]
    repeat' split
    all_goals first | rfl | omega
/-- a byte of a NAME, as letter() tells it -/
theorem m_letter {N k : Nat} {v : Int64} {u : q_St} (hk : k < 8) : fX11_letter N v (nI k) u = some (nI (ocN v k), u) := by
  unfold fX11_letter
  rw [if_pos (show nI k ≤ (7 : Int32) from nI_le (b := 7) (by omega) (by omega)), show (8 : Int32) * nI k = nI (8 * k) from pk_mul 8 _]
  have hs : (((nI (8 * k)).toInt64 &&& 63).toBitVec.smod 64).toNat = 8 * k := sh_l ⟨8 * k, by omega⟩
  have e : uN ((q_lshr v (nI (8 * k))) &&& 255) = ocN v k := by
    refine Nat.eq_of_testBit_eq fun b => ?_
    rw [uN_and, Nat.testBit_and, show uN 255 = 2 ^ 8 - 1 from by decide +kernel, Nat.testBit_two_pow_sub_one, ocN_bt]
    by_cases hb : b < 8
    · simp only [hb, decide_true, Bool.and_true, Bool.true_and]
      unfold uN q_lshr bt uN
      rw [Int64.toBitVec_shiftRight, BitVec.sshiftRight_eq', hs]
      show ((v.toBitVec.sshiftRight (8 * k)).getLsbD b) = v.toBitVec.getLsbD (8 * k + b)
      rw [BitVec.getLsbD_sshiftRight]
      have h1 : ¬ 64 ≤ b := by omega
      have h2 : 8 * k + b < 64 := by omega
      simp [h1, h2]
    · simp [hb]
  have hlt := ocN_lt v k
  rw [i_l2i0 (by rw [e]; omega), e]
def nmX (v : Int64) : Nat → Nat → Bool
  | 0, _ => decide (v ≠ 0)
  | k + 1, i => if uN v >>> (8 * i) = 0 then decide (v ≠ 0) else if letB (ocN v i) = true then nmX v k (i + 1) else false
def isNm (v : Int64) : Bool := nmX v 8 0
theorem uN_z {v : Int64} : uN v = 0 ↔ v = 0 := ⟨fun h => uN_inj (h.trans uN_0.symm), fun h => by rw [h, uN_0]⟩
theorem x_isName {L : Nat → Nat} {N : Nat} {v : Int64} {u : q_St} (hN : 300 ≤ N) : fX3_isName L N v u = some (b2i (isNm v), u) := by
  have fin : fX3_isName_b43 L N v u = some (b2i (decide (v ≠ 0)), u) := by
    unfold fX3_isName_b43
    by_cases c : v = 0
    · rw [if_pos ((lg_cmp_eq v 0).mpr c), c]; rfl
    · rw [if_neg (fun z => c ((lg_cmp_eq v 0).mp z)), decide_eq_true c]; rfl
  have key : ∀ (k i n : Nat) (r : Int64), i + k = 8 → k < n → uN r = uN v >>> (8 * i) → q_lp (fX3_isName_b5 L N) (fun _ _ _ _ => none) n v r (nI i) u = some (b2i (nmX v k i), u) := by
    intro k
    induction k with
    | zero =>
      intro i n r h1 h2 h3
      rw [lp_1 _ _ (by omega), fX3_isName_b5, if_pos (show (8 : Int32) ≤ nI i from nI_le (a := 8) (by omega) (by omega)), fin]
      rfl
    | succ k ih =>
      intro i n r h1 h2 h3
      rw [lp_1 _ _ (by omega), fX3_isName_b5, if_neg (show ¬ (8 : Int32) ≤ nI i from nI_ge (a := i) (b := 8) (by omega) (by omega))]
      simp only [nmX]
      by_cases c : uN v >>> (8 * i) = 0
      · rw [if_pos ((lg_cmp_eq r 0).mpr (uN_z.mp (h3.trans c))), if_pos c, fin]
      · have e : uN (r &&& 255) = ocN v i := by
          rw [uN_and, h3, show uN 255 = 2 ^ 8 - 1 from by decide +kernel, Nat.and_two_pow_sub_one_eq_mod]
          rfl
        have hlt := ocN_lt v i
        rw [if_neg (fun z => c (h3.symm.trans (uN_z.mpr ((lg_cmp_eq r 0).mp z)))), if_neg c, i_l2i0 (by rw [e]; omega), e, x_let hlt, qb_s]
        cases hl : letB (ocN v i) with
        | false => rw [b2i_f, if_pos rfl, if_neg (by decide)]; rfl
        | true =>
          rw [b2i_t, if_neg (by decide), if_pos rfl, qn_s, qn_s, nI_1]
          refine ih (i + 1) (n - 1) _ (by omega) (by omega) ?_
          rw [show (8 : Int32) = nI 8 from rfl, uN_lush _ (by decide), h3, ← Nat.shiftRight_add]
          rfl
  unfold fX3_isName isNm
  exact key 8 0 N v (by omega) (by omega) (by rw [Nat.mul_zero, Nat.shiftRight_zero])
def nmL (v : Int64) : Nat → Nat → Nat
  | 0, i => i
  | k + 1, i => if letB (ocN v i) = true then nmL v k (i + 1) else i
def nmZ (v : Int64) : Nat → Nat → Bool
  | 0, _ => true
  | k + 1, i => if ocN v i = 0 then nmZ v k (i + 1) else false
def gt0 (n : Nat) : Bool := match n with
  | 0 => false
  | _ + 1 => true
theorem gt0_t {n : Nat} (h : 0 < n) : gt0 n = true := by
  cases n with
  | zero => omega
  | succ n => rfl
theorem nmL_in (v : Int64) : ∀ k i, i ≤ nmL v k i ∧ nmL v k i ≤ i + k
  | 0, i => ⟨Nat.le_refl _, Nat.le_refl _⟩
  | k + 1, i => by
    have := nmL_in v k (i + 1)
    simp only [nmL]
    split <;> omega
theorem nmZ_0 (v : Int64) : ∀ k i, i + k = 8 → nmZ v k i = true → uN v >>> (8 * i) = 0
  | 0, i, h, _ => by
    have : i = 8 := by omega
    subst this
    rw [Nat.shiftRight_eq_div_pow]
    exact Nat.div_eq_of_lt (uN_lt v)
  | k + 1, i, h, hz => by
    simp only [nmZ] at hz
    by_cases c : ocN v i = 0
    · rw [if_pos c] at hz
      have h1 := nmZ_0 v k (i + 1) (by omega) hz
      rw [show 8 * (i + 1) = 8 * i + 8 by omega, Nat.shiftRight_add, Nat.shiftRight_eq_div_pow (uN v >>> (8 * i))] at h1
      have c : (uN v >>> (8 * i)) % 2 ^ 8 = 0 := c
      omega
    · rw [if_neg c] at hz; cases hz
theorem z_nmZ (v : Int64) : ∀ k i, i + k = 8 → uN v >>> (8 * i) = 0 → nmZ v k i = true
  | 0, i, h, _ => rfl
  | k + 1, i, h, hz => by
    have c : ocN v i = 0 := by unfold ocN; rw [hz]
    simp only [nmZ]
    rw [if_pos c]
    refine z_nmZ v k (i + 1) (by omega) ?_
    rw [show 8 * (i + 1) = 8 * i + 8 by omega, Nat.shiftRight_add, hz, Nat.zero_shiftRight]
theorem nm_eq (v : Int64) : ∀ k i, i + k = 8 → (0 < i → letB (ocN v 0) = true) → nmX v k i = (nmZ v (8 - nmL v k i) (nmL v k i) && gt0 (nmL v k i))
  | 0, i, h, h0 => by
    have : i = 8 := by omega
    subst this
    have hv : v ≠ 0 := by
      intro e
      have := (let_lg (h0 (by decide))).1
      rw [e] at this
      unfold ocN at this
      rw [uN_0] at this
      omega
    simp [nmX, nmL, nmZ, hv, gt0]
  | k + 1, i, h, h0 => by
    have hv0 : 0 < i → v ≠ 0 := by
      intro hi e
      have := (let_lg (h0 hi)).1
      rw [e] at this
      unfold ocN at this
      rw [uN_0] at this
      omega
    have eL : nmL v (k + 1) i = if letB (ocN v i) = true then nmL v k (i + 1) else i := rfl
    rw [eL]
    simp only [nmX]
    by_cases c : uN v >>> (8 * i) = 0
    · have c0 : ocN v i = 0 := by unfold ocN; rw [c]
      have cl : ¬ letB (ocN v i) = true := fun z => by
        have := (let_lg z).1
        omega
      rw [if_pos c, if_neg cl, z_nmZ v (8 - i) i (by omega) c]
      by_cases hi : 0 < i
      · rw [gt0_t hi, decide_eq_true (hv0 hi)]; rfl
      · have hi0 : i = 0 := by omega
        have e : v = 0 := by
          rw [hi0, Nat.mul_zero, Nat.shiftRight_zero] at c
          exact uN_z.mp c
        rw [hi0, e]; rfl
    · rw [if_neg c]
      by_cases cl : letB (ocN v i) = true
      · rw [if_pos cl, if_pos cl]
        refine nm_eq v k (i + 1) (by omega) (fun _ => ?_)
        by_cases hi : 0 < i
        · exact h0 hi
        · have : i = 0 := by omega
          rw [this] at cl
          exact cl
      · rw [if_neg cl, if_neg cl]
        have : nmZ v (8 - i) i = false := by
          cases hz : nmZ v (8 - i) i with
          | false => rfl
          | true => exact absurd (nmZ_0 v (8 - i) i (by omega) hz) c
        rw [this]
        rfl
theorem m_isName {N : Nat} {v : Int64} {u : q_St} (hN : 300 ≤ N) : fX11_isName N v u = some (b2i (isNm v), u) := by
  have k2 : ∀ (k i n n0 : Nat), i + k = 8 → k < n → q_lp (fX11_isName_b27 N) (fun _ _ _ _ => none) n v (nI n0) (nI i) u = some (b2i (nmZ v k i && gt0 n0), u) ∨ ¬ n0 ≤ 8 := by
    intro k
    induction k with
    | zero =>
      intro i n n0 h1 h2
      by_cases h8 : n0 ≤ 8
      · left
        rw [lp_1 _ _ (by omega), fX11_isName_b27, if_pos (show (8 : Int32) ≤ nI i from nI_le (a := 8) (by omega) (by omega))]
        by_cases c : n0 = 0
        · rw [c, if_pos (show nI 0 ≤ (0 : Int32) from by decide)]; rfl
        · rw [if_neg (show ¬ nI n0 ≤ (0 : Int32) from nI_ge (a := 0) (by omega) (by omega)), gt0_t (by omega)]; rfl
      · exact Or.inr h8
    | succ k ih =>
      intro i n n0 h1 h2
      by_cases h8 : n0 ≤ 8
      · left
        have hlt := ocN_lt v i
        rw [lp_1 _ _ (by omega), fX11_isName_b27, if_neg (show ¬ (8 : Int32) ≤ nI i from nI_ge (a := i) (b := 8) (by omega) (by omega)), m_letter (by omega), qb_s]
        simp only [nmZ]
        by_cases c : ocN v i = 0
        · rw [c, if_pos (show nI 0 = (0 : Int32) from rfl), if_pos rfl, qn_s, nI_1]
          rcases ih (i + 1) (n - 1) n0 (by omega) (by omega) with q | q
          · exact q
          · exact absurd h8 q
        · rw [if_neg (nI_ne0 (by omega) (by omega)), if_neg c]; rfl
      · exact Or.inr h8
  have k1 : ∀ (k i n : Nat), i + k = 8 → k < n → q_lp (fX11_isName_b2 N) (fun _ _ _ => none) n v (nI i) u = some (b2i (nmZ v (8 - nmL v k i) (nmL v k i) && gt0 (nmL v k i)), u) := by
    have fin : ∀ i, i ≤ 8 → fX11_isName_b25 N v (nI i) u = some (b2i (nmZ v (8 - i) i && gt0 i), u) := by
      intro i hi
      unfold fX11_isName_b25
      rcases k2 (8 - i) i N i (by omega) (by omega) with q | q
      · exact q
      · exact absurd hi q
    intro k
    induction k with
    | zero =>
      intro i n h1 h2
      rw [lp_1 _ _ (by omega), fX11_isName_b2, if_pos (show (8 : Int32) ≤ nI i from nI_le (a := 8) (by omega) (by omega)), fin i (by omega)]
      rfl
    | succ k ih =>
      intro i n h1 h2
      have hlt := ocN_lt v i
      rw [lp_1 _ _ (by omega), fX11_isName_b2, if_neg (show ¬ (8 : Int32) ≤ nI i from nI_ge (a := i) (b := 8) (by omega) (by omega)), m_letter (by omega), qb_s, m_let hlt, qb_s]
      simp only [nmL]
      cases hl : letB (ocN v i) with
      | false => rw [b2i_f, if_pos rfl, if_neg (by decide), fin i (by omega)]
      | true => rw [b2i_t, if_neg (by decide), if_pos rfl, qn_s, nI_1]; exact ih (i + 1) (n - 1) (by omega) (by omega)
  unfold fX11_isName isNm
  rw [nm_eq v 8 0 (by omega) (fun h => by omega)]
  exact k1 8 0 N (by omega) (by omega)
theorem isNm_ok {v : Int64} (h : isNm v = true) : okN v := by
  have key : ∀ k i, i + k = 8 → nmX v k i = true → v ≠ 0 ∧ ∀ j, i ≤ j → j < 8 → ocN v j < 128 := by
    intro k
    induction k with
    | zero =>
      intro i h1 h2
      simp only [nmX] at h2
      exact ⟨of_decide_eq_true h2, fun j q1 q2 => by omega⟩
    | succ k ih =>
      intro i h1 h2
      simp only [nmX] at h2
      by_cases c : uN v >>> (8 * i) = 0
      · rw [if_pos c] at h2
        refine ⟨of_decide_eq_true h2, fun j q1 q2 => ?_⟩
        unfold ocN
        rw [show 8 * j = 8 * i + (8 * j - 8 * i) by omega, Nat.shiftRight_add, c, Nat.zero_shiftRight]
        decide
      · rw [if_neg c] at h2
        by_cases cl : letB (ocN v i) = true
        · rw [if_pos cl] at h2
          obtain ⟨a1, a2⟩ := ih (i + 1) (by omega) h2
          refine ⟨a1, fun j q1 q2 => ?_⟩
          by_cases e : j = i
          · rw [e]; exact (let_lg cl).2
          · exact a2 j (by omega) q2
        · rw [if_neg cl] at h2; cases h2
  obtain ⟨a1, a2⟩ := key 8 0 (by omega) h
  exact ⟨a1, fun i hi => a2 i (Nat.zero_le _) hi⟩
