/-! ===== the NAME of a PART, from its bytes ===== -/
theorem oc_bt {v : Int64} {i : Nat} : bt v i = (ocN v (i / 8)).testBit (i % 8) := by
  rw [ocN_bt, decide_eq_true (show i % 8 < 8 by omega), Bool.true_and, show 8 * (i / 8) + i % 8 = i by omega]
theorem oc_ext {a b : Int64} (h : ∀ i, i < 8 → ocN a i = ocN b i) : a = b := bt_ext (fun i hi => by rw [oc_bt, oc_bt, h _ (by omega)])
theorem bt_i2l {b m : Nat} (h : b < 2 ^ 31) : bt (Int32.toInt64 (nI b)) m = b.testBit m := by unfold bt; rw [uN_i2l h]
theorem tb_8 {b m : Nat} (h : b < 256) (hm : 8 ≤ m) : b.testBit m = false := Nat.testBit_lt_two_pow (Nat.lt_of_lt_of_le h (Nat.pow_le_pow_right (show 0 < 2 by decide) hm))
theorem oc_orl {v : Int64} {b i j : Nat} (hb : b < 256) (hj : j < 8) (hi : i < 8) (h0 : ocN v j = 0) : ocN (v ||| q_lshl (Int32.toInt64 (nI b)) (nI (8 * j))) i = if i = j then b else ocN v i := by
  refine Nat.eq_of_testBit_eq fun t => ?_
  rw [ocN_bt, bt_or]
  by_cases ht : t < 8
  · rw [decide_eq_true ht, Bool.true_and, bt_lshl _ (by omega) (by omega), bt_i2l (by omega)]
    by_cases c : i = j
    · have e : bt v (8 * j + t) = false := by
        rw [oc_bt, show (8 * j + t) / 8 = j by omega, h0, Nat.zero_testBit]
      rw [if_pos c, c, e, Bool.false_or, decide_eq_true (show 8 * j ≤ 8 * j + t by omega), Bool.true_and, show 8 * j + t - 8 * j = t by omega]
    · have e : bt v (8 * i + t) = (ocN v i).testBit t := by
        rw [oc_bt, show (8 * i + t) / 8 = i by omega, show (8 * i + t) % 8 = t by omega]
      rw [if_neg c, e]
      by_cases c2 : 8 * j ≤ 8 * i + t
      · rw [tb_8 hb (show 8 ≤ 8 * i + t - 8 * j by omega), Bool.and_false, Bool.or_false]
      · rw [decide_eq_false c2, Bool.false_and, Bool.or_false]
  · rw [decide_eq_false ht, Bool.false_and]
    by_cases c : i = j
    · rw [if_pos c, tb_8 hb (by omega)]
    · rw [if_neg c, tb_8 (ocN_lt v i) (by omega)]
theorem oc_shl {v : Int64} {b i : Nat} (hb : b < 256) (hi : i < 8) : ocN (q_lshl v (nI 8) ||| Int32.toInt64 (nI b)) i = if i = 0 then b else ocN v (i - 1) := by
  refine Nat.eq_of_testBit_eq fun t => ?_
  rw [ocN_bt, bt_or]
  by_cases ht : t < 8
  · rw [decide_eq_true ht, Bool.true_and, bt_lshl _ (by decide) (by omega), bt_i2l (by omega)]
    by_cases c : i = 0
    · rw [if_pos c, c, decide_eq_false (show ¬ 8 ≤ 8 * 0 + t by omega), Bool.false_and, Bool.false_or, show 8 * 0 + t = t by omega]
    · rw [if_neg c, decide_eq_true (show 8 ≤ 8 * i + t by omega), Bool.true_and, tb_8 hb (show 8 ≤ 8 * i + t by omega), Bool.or_false, oc_bt, show (8 * i + t - 8) / 8 = i - 1 by omega, show (8 * i + t - 8) % 8 = t by omega]
  · rw [decide_eq_false ht, Bool.false_and]
    by_cases c : i = 0
    · rw [if_pos c, tb_8 hb (by omega)]
    · rw [if_neg c, tb_8 (ocN_lt v _) (by omega)]
def OC (v : Int64) (f : Nat → Nat) (len : Nat) : Prop := ∀ i, i < 8 → ocN v i = if i < len then f i else 0
theorem oc_0 (i : Nat) : ocN 0 i = 0 := by
  unfold ocN
  rw [uN_0, Nat.zero_shiftRight]
/-- of the class -/
theorem x_pname {L : Nat → Nat} {N fr len : Nat} {f : Nat → Nat} {u : q_St} (h38 : q_i u 38 = nI fr) (h39 : q_i u 39 = nI (fr + len)) (hfl : fr + len < 2 ^ 20) (hl : len ≤ 8) (hf : ∀ i, i < len → f i < 256) (hb : ∀ i, i < len → fX9_byteOf L N (q_i u 37) (nI (fr + i)) u = some (nI (f i), u)) :
    ∀ (k j m : Nat) (v : Int64), j + k = len → k < m → OC v f j → (∀ i, i < j → letB (f i) = true) → ∃ nv, q_lp (fX9_partName_b23 L N) (fun _ _ _ => none) m v (nI (fr + j)) u = some (nv, u) ∧ (((∀ i, i < len → letB (f i) = true) ∧ OC nv f len) ∨ (¬ (∀ i, i < len → letB (f i) = true) ∧ nv = 0)) := by
  intro k
  induction k with
  | zero =>
    intro j m v h1 h2 h3 h4
    have : j = len := by omega
    subst this
    exact ⟨v, by rw [lp_1 _ _ (by omega), fX9_partName_b23, h39, if_pos (nI_le (by omega) (by omega))], Or.inl ⟨h4, h3⟩⟩
  | succ k ih =>
    intro j m v h1 h2 h3 h4
    have hj : j < len := by omega
    have st : q_lp (fX9_partName_b23 L N) (fun _ _ _ => none) m v (nI (fr + j)) u = if b2i (letB (f j)) = 0 then some (0, u) else q_lp (fX9_partName_b23 L N) (fun _ _ _ => none) (m - 1) (v ||| q_lshl (Int32.toInt64 (nI (f j))) (nI (8 * j))) (nI (fr + (j + 1))) u := by
      rw [lp_1 _ _ (by omega), fX9_partName_b23, h39, if_neg (nI_ge (by omega) (by omega)), hb j hj, qb_s, x_let (hf j hj), qb_s, h38, pk_sub (by omega), show fr + j - fr = j by omega, show (8 : Int32) * nI j = nI (8 * j) from pk_mul 8 j, qn_s, qn_s, nI_1, Nat.add_assoc]
    cases hlt : letB (f j) with
    | false =>
      refine ⟨0, by rw [st, hlt, b2i_f, if_pos rfl], Or.inr ⟨fun z => ?_, rfl⟩⟩
      rw [z j hj] at hlt
      cases hlt
    | true =>
      obtain ⟨nv, q1, q2⟩ := ih (j + 1) (m - 1) (v ||| q_lshl (Int32.toInt64 (nI (f j))) (nI (8 * j))) (by omega) (by omega) (fun i hi => by
        rw [oc_orl (hf j hj) (by omega) hi (by rw [h3 j (by omega), if_neg (by omega)])]
        by_cases c : i = j
        · rw [if_pos c, if_pos (by omega), c]
        · rw [if_neg c, h3 i hi]
          by_cases c2 : i < j
          · rw [if_pos c2, if_pos (by omega)]
          · rw [if_neg c2, if_neg (by omega)]) (fun i hi => by
        by_cases c : i = j
        · rw [c]; exact hlt
        · exact h4 i (by omega))
      exact ⟨nv, by rw [st, hlt, b2i_t, if_neg (by decide)]; exact q1, q2⟩
/-- of the reference: what follows -/
def ptE (N : Nat) (x1 x5 : Int32) (x7 : Int64) (u : q_St) : Option (Int32 × q_St) := q_bnd (fX11_isWhole N x7 x5 u) (fun r13 u14 => (if r13 = 0 then (some ((-11), u14)) else (q_bnd (fX11_may N x1 1 u14) (fun r16 u17 => (if r16 = 0 then (some ((-20), u17)) else (q_bnd (fX11_slotOf N x1 x7 u17) (fun r19 u20 => (if r19 = (-1) then (some ((-12), u20)) else (q_rd 3072 (q_a u20 14) r19 (fun v22 => (q_rd 64 (q_a u20 5) v22 (fun v23 => (if v23 = 4 then (q_nm (q_si u20 31 ((q_i u20 31) + 1)) (fun u24 => (if (q_i u24 31) ≤ 8 then (q_bnd (fX11_begin N v22 x1 u24) (fun r25 u26 => (some (r25, u26)))) else (some ((-19), u24))))) else (some (v22, u20)))))))))))))))
theorem m_pname {N fr len : Nat} {f : Nat → Nat} {w : q_St} {x1 x2 : Int32} (hfl : fr + len < 2 ^ 20) (hl : len ≤ 8) (hf : ∀ i, i < len → f i < 256) (hb : ∀ i, i < len → fX11_byteOf N x2 (nI (fr + i)) w = some (sB (f i), w)) :
    ∀ (j m : Nat) (v : Int64), j ≤ len → j < m → (∀ i, i < 8 → ocN v i = if i + j < len then f (i + j) else 0) → ∃ nv, q_lp (fX11_part_b203 N) (fun _ _ _ _ _ _ _ => none) m x1 x2 (nI fr) (nI len) v (nI (fr + j) - 1) w = ptE N x1 (nI len) nv w ∧ OC nv f len := by
  intro j
  induction j with
  | zero =>
    intro m v h1 h2 h3
    refine ⟨v, ?_, h3⟩
    have c : nI (fr + 0) - 1 < nI fr := by
      rw [Int32.lt_iff_toInt_lt, show nI (fr + 0) - (1 : Int32) = nI fr - nI 1 from rfl, pk_sub_toInt (by omega) (by decide), nI_toInt (by omega)]
      omega
    rw [lp_1 _ _ (by omega), fX11_part_b203, if_pos c]
    rfl
  | succ j ih =>
    intro m v h1 h2 h3
    have e1 : nI (fr + (j + 1)) - 1 = nI (fr + j) := by
      rw [show nI (fr + (j + 1)) - (1 : Int32) = nI (fr + (j + 1) - 1) from pk_sub (b := 1) (by omega)]
      rfl
    obtain ⟨nv, q1, q2⟩ := ih (m - 1) (q_lshl v (nI 8) ||| Int32.toInt64 (nI (f j))) (by omega) (by omega) (fun i hi => by
      rw [oc_shl (hf j (by omega)) hi]
      by_cases c : i = 0
      · rw [if_pos c, c, if_pos (by omega), Nat.zero_add]
      · rw [if_neg c, h3 (i - 1) (by omega), show i - 1 + (j + 1) = i + j by omega])
    refine ⟨nv, ?_, q2⟩
    have ea : sB (f j) &&& 255 = nI (f j) := sB_and ⟨f j, hf j (by omega)⟩
    rw [e1, lp_1 _ _ (by omega), fX11_part_b203, if_neg (nI_nlt (by omega) (by omega)), hb j (by omega), qb_s, ea, qn_s, qn_s, ← q1, show (8 : Int32) = nI 8 from rfl, Int32.sub_eq_add_neg]
theorem nmX_iff {v : Int64} : ∀ k i, i + k = 8 → (nmX v k i = true ↔ v ≠ 0 ∧ ∀ j, i ≤ j → j < 8 → uN v >>> (8 * j) ≠ 0 → letB (ocN v j) = true)
  | 0, i, h => by
    simp only [nmX, decide_eq_true_eq]
    exact ⟨fun z => ⟨z, fun j h1 h2 => by omega⟩, fun z => z.1⟩
  | k + 1, i, h => by
    simp only [nmX]
    by_cases c : uN v >>> (8 * i) = 0
    · rw [if_pos c, decide_eq_true_eq]
      refine ⟨fun z => ⟨z, fun j h1 h2 h3 => absurd ?_ h3⟩, fun z => z.1⟩
      rw [show 8 * j = 8 * i + 8 * (j - i) by omega, Nat.shiftRight_add, c, Nat.zero_shiftRight]
    · rw [if_neg c]
      have := nmX_iff (v := v) k (i + 1) (by omega)
      by_cases c2 : letB (ocN v i) = true
      · rw [if_pos c2, this]
        refine ⟨fun z => ⟨z.1, fun j h1 h2 h3 => ?_⟩, fun z => ⟨z.1, fun j h1 h2 h3 => z.2 j (by omega) h2 h3⟩⟩
        by_cases c3 : j = i
        · rw [c3]; exact c2
        · exact z.2 j (by omega) h2 h3
      · rw [if_neg c2]
        exact ⟨fun z => (by cases z), fun z => absurd (z.2 i (by omega) (by omega) c) c2⟩
theorem OC_isNm {v : Int64} {f : Nat → Nat} {len : Nat} (h1 : 1 ≤ len) (h8 : len ≤ 8) (oc : OC v f len) : (∀ i, i < len → letB (f i) = true) ↔ isNm v = true ∧ f (len - 1) ≠ 0 := by
  unfold isNm
  rw [nmX_iff 8 0 (by omega)]
  constructor
  · intro h
    have hne : ∀ i, i < len → f i ≠ 0 := fun i hi => by have := (let_lg (h i hi)).1; omega
    refine ⟨⟨fun z => ?_, fun j _ hj hs => ?_⟩, hne _ (by omega)⟩
    · have := oc 0 (by decide)
      rw [z, oc_0, if_pos (by omega)] at this
      exact hne 0 (by omega) this.symm
    · by_cases c : j < len
      · rw [oc j hj, if_pos c]; exact h j c
      · exfalso
        apply hs
        refine Nat.eq_of_testBit_eq fun t => ?_
        rw [Nat.testBit_shiftRight, Nat.zero_testBit]
        show bt v (8 * j + t) = false
        by_cases c2 : 8 * j + t < 64
        · rw [oc_bt, oc _ (by omega), if_neg (by omega), Nat.zero_testBit]
        · exact bt_hi v (by omega)
  · rintro ⟨⟨h0, h2⟩, h3⟩ i hi
    have := h2 i (by omega) (by omega) (fun z => ?_)
    · rw [oc i (by omega), if_pos hi] at this
      exact this
    · apply h3
      have e := oc (len - 1) (by omega)
      rw [if_pos (by omega)] at e
      rw [← e]
      unfold ocN
      rw [show 8 * (len - 1) = 8 * i + 8 * (len - 1 - i) by omega, Nat.shiftRight_add, z, Nat.zero_shiftRight]
theorem m_whole {N len : Nat} {v : Int64} {f : Nat → Nat} {w : q_St} (hN : 300 ≤ N) (h1 : 1 ≤ len) (h8 : len ≤ 8) (oc : OC v f len) : ((∀ i, i < len → letB (f i) = true) → fX11_isWhole N v (nI len) w = some (1, w)) ∧ (¬ (∀ i, i < len → letB (f i) = true) → fX11_isWhole N v (nI len) w = some (0, w)) := by
  have hi := OC_isNm h1 h8 oc
  have hb : fX11_isWhole_b21 N v (nI len) w = if f (len - 1) = 0 then some (0, w) else some (1, w) := by
    have hlt := ocN_lt v (len - 1)
    unfold fX11_isWhole_b21
    rw [show nI len - (1 : Int32) = nI (len - 1) from pk_sub (b := 1) h1, m_letter (by omega), qb_s]
    have e := oc (len - 1) (by omega)
    rw [if_pos (by omega)] at e
    rw [e] at hlt ⊢
    by_cases c : f (len - 1) = 0
    · rw [if_pos c, if_pos (by rw [c]; rfl)]
    · rw [if_neg c, if_neg (nI_ne0 (by omega) (by omega))]
  have hw : fX11_isWhole N v (nI len) w = if isNm v = true then (if f (len - 1) = 0 then some (0, w) else some (1, w)) else some (0, w) := by
    unfold fX11_isWhole
    rw [m_isName hN, qb_s]
    cases hn : isNm v with
    | false => rw [b2i_f, if_pos rfl, if_neg (by decide)]
    | true =>
      rw [b2i_t, if_neg (by decide), if_pos rfl]
      by_cases c8 : len = 8
      · rw [if_pos (by rw [c8]; rfl)]; exact hb
      · rw [if_neg (show ¬ nI len = (8 : Int32) from fun z => c8 (nI_inj (b := 8) (by omega) (by decide) z)), m_letter (by omega), qb_s, oc len (by omega), if_neg (show ¬ len < len by omega), if_pos (show nI 0 = (0 : Int32) from rfl)]
        exact hb
  refine ⟨fun h => ?_, fun h => ?_⟩
  · obtain ⟨q1, q2⟩ := hi.mp h
    rw [hw, if_pos q1, if_neg q2]
  · rw [hw]
    by_cases c : isNm v = true
    · rw [if_pos c]
      by_cases c2 : f (len - 1) = 0
      · rw [if_pos c2]
      · exact absurd (hi.mpr ⟨c, c2⟩) h
    · rw [if_neg c]
