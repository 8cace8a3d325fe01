/-! ===== the class gives back: loops ===== -/
theorem hf0 {v : Int64} : v = 0 ↔ ∀ i, i < 4 → hfN v i = 0 := by
  constructor
  · intro h i hi
    unfold hfN
    rw [h, uN_0, Nat.zero_shiftRight]
  · intro h
    refine bt_ext (fun b hb => ?_)
    have e := hfN_bt v (b / 16) (b % 16)
    rw [h (b / 16) (by omega), Nat.zero_testBit, decide_eq_true (show b % 16 < 16 by omega), Bool.true_and, show 16 * (b / 16) + b % 16 = b by omega] at e
    rw [← e]
    unfold bt
    rw [uN_0, Nat.zero_testBit]
theorem Xs_half {B T S C W Ls hb y i : Nat} {um : q_St} {D K : Nat → Nat → Int64} {dd : Nat → Bool} {L : Nat → Nat} {N : Nat} {ux : q_St} (g : Geo B T S C W Ls) (gl : gL B C W Ls L) (s : XS B T S C W Ls hb um D K dd ux) (hy : y < Ls) (hy0 : y ≠ 0) (hi : i < 32) : fX6_half L N (nI y) (nI i) ux = some (nI (sH (K y) i), ux) := by
  rw [x_half g gl s hy hi]
  unfold kH
  rw [if_neg hy0]
  rfl
theorem x_gbT {B T S C W Ls na hb n sct a b : Nat} {um : q_St} {D K : Nat → Nat → Int64} {dd P0 : Nat → Bool} {A : Nat → Nat → Nat} {L : Nat → Nat} {N : Nat} (g : Geo B T S C W Ls) (gl : gL B C W Ls L) (hna : na = 80 + (Ls + 511) / 512) (t3 : TW3 W Ls (na + 64) A) (hn : n < 64) (ro : Nat → Nat) (hab : b ≤ 32) (hsct : sct ≠ 0 ∧ sct < Ls) (hro : ∀ q, a ≤ q → q < b → rk A n (ro q) ∧ tel A W na n (ro q) = sct ∧ hpl (ro q) = q ∧ (own (ro q) = true ∨ (ro q < 1068 ∧ tl A W n (trl (ro q)) ≠ 0 ∧ P0 (trl (ro q)) = false)) ∧ P0 (ro q) = false) :
    ∀ (k q m acc : Nat) (P1 : Nat → Bool) (K1 : Nat → Nat → Int64) (dd1 : Nat → Bool) (ux : q_St), q + k = b → k < m → a ≤ q → XS B T S C W Ls hb um D K1 dd1 ux → GB A W na n Ls P1 K K1 dd dd1 → (∀ r, P1 r = true ↔ P0 r = true ∨ ∃ q', a ≤ q' ∧ q' < q ∧ r = ro q' ∧ tl A W n r ≠ 0) → cnt P1 1400 = cnt P0 1400 + acc → acc ≤ q →
    ∃ u K2 dd2 P2 c, q_lp (fX0_giveBackTold_b6 L N) (fun _ _ _ _ _ => none) m (nI sct) (nI b) (nI acc) (nI q) ux = some (nI c, u) ∧ XS B T S C W Ls hb um D K2 dd2 u ∧ GB A W na n Ls P2 K K2 dd dd2 ∧ (∀ r, P2 r = true ↔ P0 r = true ∨ ∃ q', a ≤ q' ∧ q' < b ∧ r = ro q' ∧ tl A W n r ≠ 0) ∧ cnt P2 1400 = cnt P0 1400 + c ∧ c ≤ 32 ∧ Fr [13, 22] [5] [2] ux u := by
  have hl := g.l
  intro k
  induction k with
  | zero =>
    intro q m acc P1 K1 dd1 ux h1 h2 h3 s b1 b2 b3 b4
    have : q = b := by omega
    subst this
    exact ⟨ux, K1, dd1, P1, acc, by rw [lp_1 _ _ (by omega), fX0_giveBackTold_b6, if_pos (nI_le (by omega) (by omega))], s, b1, b2, b3, by omega, Fr.rf _ _ _ _⟩
  | succ k ih =>
    intro q m acc P1 K1 dd1 ux h1 h2 h3 s b1 b2 b3 b4
    obtain ⟨r1, r2, r3, r4, r5⟩ := hro q h3 (by omega)
    have hinj : ∀ q', a ≤ q' → q' < b → ro q' = ro q → q' = q := by
      intro q' z1 z2 z3
      have := (hro q' z1 z2).2.2.1
      rw [z3, r3] at this
      exact this.symm
    have hPq : P1 (ro q) = false := by
      cases hp : P1 (ro q) with
      | false => rfl
      | true =>
        rcases (b2 (ro q)).mp hp with z | ⟨q', z1, z2, z3, z4⟩
        · rw [r5] at z; cases z
        · have := hinj q' z1 (by omega) z3.symm
          omega
    have hal : own (ro q) = true ∨ (tl A W n (trl (ro q)) ≠ 0 ∧ P1 (trl (ro q)) = false) := by
      rcases r4 with z | ⟨z0, z1, z2⟩
      · exact Or.inl z
      · by_cases co : own (ro q) = true
        · exact Or.inl co
        · refine Or.inr ⟨z1, ?_⟩
          cases hp : P1 (trl (ro q)) with
          | false => rfl
          | true =>
            rcases (b2 _).mp hp with w | ⟨q', w1, w2, w3, w4⟩
            · rw [z2] at w; cases w
            · have h5 := trl_in co
              rcases (hro q' w1 (by omega)).2.2.2.1 with w5 | ⟨w5, -⟩
              · exfalso
                have h6 := own_t w5
                have h7 : ro q' = 1068 ∨ ro q' = 1069 := by omega
                have h8 := (hro q' w1 (by omega)).2.1
                rw [r2.symm] at h8
                unfold tel at h8
                rw [if_pos w5, if_neg co] at h8
                have := t3.2.1 n (trl (ro q)) hn z1
                omega
              · omega
    have val := b1.2.2.1 (ro q) r1 hal
    rw [r2, r3, hPq, if_neg (by decide)] at val
    have nx : ∀ r, (∃ q', a ≤ q' ∧ q' < q + 1 ∧ r = ro q' ∧ tl A W n r ≠ 0) ↔ (r = ro q ∧ tl A W n r ≠ 0) ∨ ∃ q', a ≤ q' ∧ q' < q ∧ r = ro q' ∧ tl A W n r ≠ 0 := by
      intro r
      constructor
      · rintro ⟨q', z1, z2, z3, z4⟩
        by_cases c : q' = q
        · left; rw [c] at z3; exact ⟨z3, z4⟩
        · right; exact ⟨q', z1, by omega, z3, z4⟩
      · rintro (⟨z3, z4⟩ | ⟨q', z1, z2, z3, z4⟩)
        · exact ⟨q, h3, by omega, z3, z4⟩
        · exact ⟨q', z1, by omega, z3, z4⟩
    rw [lp_1 _ _ (by omega), fX0_giveBackTold_b6, if_neg (nI_ge (by omega) (by omega)), Xs_half g gl s hsct.2 hsct.1 (by omega), qb_s, val]
    unfold fX0_giveBackTold_b52
    by_cases c : tl A W n (ro q) = 0
    · rw [c, if_pos (show nI 0 = (0 : Int32) from rfl), qn_s, nI_1]
      refine ih (q + 1) (m - 1) acc P1 K1 dd1 ux (by omega) (by omega) (by omega) s b1 (fun r => ?_) b3 (by omega)
      rw [b2 r, nx r]
      constructor
      · rintro (z | z)
        · exact Or.inl z
        · exact Or.inr (Or.inr z)
      · rintro (z | (⟨z1, z2⟩ | z))
        · exact Or.inl z
        · rw [z1] at z2; exact absurd c z2
        · exact Or.inr z
    · have hr := t3.2.1 n (ro q) hn c
      obtain ⟨u1, u2, K2, dd2, a1, a2, a3, a4, a5⟩ := gb_op (N := N) (r0 := ro q) g gl hna t3 hn s rfl c b1 r1 hPq hal
      rw [r2, r3] at a2
      have hro14 : ro q < 1400 := by
        unfold rk at r1
        omega
      obtain ⟨u, K3, dd3, P3, c3, d1, d2, d3, d4, d5, d6, d7⟩ := ih (q + 1) (m - 1) (acc + 1) (setb P1 (ro q) true) K2 dd2 u2 (by omega) (by omega) (by omega) a3 a4 (fun r => by
        rw [sbt, b2 r, nx r]
        constructor
        · rintro (z | (z | z))
          · exact Or.inr (Or.inl ⟨z, by rw [z]; exact c⟩)
          · exact Or.inl z
          · exact Or.inr (Or.inr z)
        · rintro (z | (⟨z1, z2⟩ | z))
          · exact Or.inr (Or.inl z)
          · exact Or.inl z1
          · exact Or.inr (Or.inr z)) (by rw [cnt_set hro14 hPq, b3]; omega) (by omega)
      refine ⟨u, K3, dd3, P3, c3, ?_, d2, d3, d4, d5, d6, a5.trans d7⟩
      rw [if_neg (nI_ne0 (by omega) (by omega)), a1, qb_s, a2, qb_s, qn_s, nI_1, qn_s, nI_1]
      exact d1
/-- an INDEX, or the DOUBLE, that tells none any more; fr: what it may tell -/
theorem x_gbE {B T S C W Ls na hb n r0 sct h : Nat} {um : q_St} {D K K1 : Nat → Nat → Int64} {dd dd1 P : Nat → Bool} {A : Nat → Nat → Nat} {L : Nat → Nat} {N : Nat} {ux : q_St} (g : Geo B T S C W Ls) (gl : gL B C W Ls L) (hna : na = 80 + (Ls + 511) / 512) (hN : 300 ≤ N) (t3 : TW3 W Ls (na + 64) A) (hn : n < 64) (h1 : A 5 n = 1) (s : XS B T S C W Ls hb um D K1 dd1 ux) (b : GB A W na n Ls P K K1 dd dd1) (hx0 : tl A W n r0 ≠ 0) (hr0 : 1068 ≤ r0 ∧ r0 < 1102) (hP0 : P r0 = false) (hal : own r0 = true ∨ (tl A W n (trl r0) ≠ 0 ∧ P (trl r0) = false)) (hs : tel A W na n r0 = sct) (hh : hpl r0 = h) (fr : Nat → Nat) (hfr : ∀ j, j < 32 → ¬ own (fr j) = true ∧ trl (fr j) = r0 ∧ hpl (fr j) = j ∧ fr j < 1102) :
    ((∀ j, j < 32 → P (fr j) = true ∨ tl A W n (fr j) = 0) ∧ ∃ u K2 dd2, fX0_giveBackEmpty L N (nI sct) (nI h) ux = some (1, u) ∧ XS B T S C W Ls hb um D K2 dd2 u ∧ GB A W na n Ls (setb P r0 true) K K2 dd dd2 ∧ Fr [13, 22] [5] [2] ux u) ∨
    ((¬ ∀ j, j < 32 → P (fr j) = true ∨ tl A W n (fr j) = 0) ∧ fX0_giveBackEmpty L N (nI sct) (nI h) ux = some (0, ux)) := by
  have hl := g.l
  have hrk : rk A n r0 := Or.inl ⟨h1, hr0.2⟩
  obtain ⟨x, hx⟩ : ∃ x, x = tl A W n r0 := ⟨_, rfl⟩
  have hr := t3.2.1 n r0 hn hx0
  rw [← hx] at hr
  obtain ⟨u1, u2, K2, dd2, a1, a2, a3, a4, a5⟩ := gb_op (N := N) (r0 := r0) g gl hna t3 hn s hx.symm (by rw [hx]; exact hx0) b hrk hP0 hal
  rw [hs, hh] at a2
  have hsct : sct ≠ 0 ∧ sct < Ls := by
    rw [← hs]
    unfold tel
    by_cases c : own r0 = true
    · rw [if_pos c]; omega
    · rw [if_neg c]
      rcases hal with z | ⟨z1, z2⟩
      · exact absurd z c
      · have := t3.2.1 n (trl r0) hn z1
        omega
  have val := b.2.2.1 r0 hrk hal
  rw [hs, hh, hP0, if_neg (by decide), ← hx] at val
  have hh32 : h < 32 := by rw [← hh]; exact hpl_lt (by omega)
  have hv : ∀ j, j < 32 → sH (K1 x) j = if P (fr j) = true then 0 else tl A W n (fr j) := by
    intro j hj
    obtain ⟨z1, z2, z3, z4⟩ := hfr j hj
    have := b.2.2.1 (fr j) (Or.inl ⟨h1, z4⟩) (Or.inr ⟨by rw [z2]; exact hx0, by rw [z2]; exact hP0⟩)
    unfold tel at this
    rw [if_neg z1, z2, z3, ← hx] at this
    exact this
  have hz : ∀ j, j < 32 → (sH (K1 x) j = 0 ↔ P (fr j) = true ∨ tl A W n (fr j) = 0) := by
    intro j hj
    rw [hv j hj]
    by_cases c : P (fr j) = true
    · rw [if_pos c]; simp [c]
    · rw [if_neg c]; simp [c]
  have hw : ∀ w, w < 8 → (K1 x w = 0 ↔ ∀ i, i < 4 → sH (K1 x) (4 * w + i) = 0) := by
    intro w hw
    rw [hf0]
    constructor
    · intro q i hi
      unfold sH
      rw [show (4 * w + i) / 4 = w by omega, show (4 * w + i) % 4 = i by omega]
      exact q i hi
    · intro q i hi
      have := q i hi
      unfold sH at this
      rw [show (4 * w + i) / 4 = w by omega, show (4 * w + i) % 4 = i by omega] at this
      exact this
  have e0 : fX0_giveBackEmpty L N (nI sct) (nI h) ux = q_lp (fX0_giveBackEmpty_b13 L N) (fun _ _ _ _ _ => none) N (nI sct) (nI h) (nI x) (nI 0) ux := by
    unfold fX0_giveBackEmpty
    rw [Xs_half g gl s hsct.2 hsct.1 hh32, qb_s, val]
    rfl
  by_cases c : ∀ j, j < 32 → P (fr j) = true ∨ tl A W n (fr j) = 0
  · left
    refine ⟨c, u2, K2, dd2, ?_, a3, a4, a5⟩
    have key : ∀ (k w m : Nat), w + k = 8 → k < m → q_lp (fX0_giveBackEmpty_b13 L N) (fun _ _ _ _ _ => none) m (nI sct) (nI h) (nI x) (nI w) ux = some (1, u2) := by
      intro k
      induction k with
      | zero =>
        intro w m q1 q2
        rw [lp_1 _ _ (by omega), fX0_giveBackEmpty_b13, if_pos (show (8 : Int32) ≤ nI w from nI_le (a := 8) (by omega) (by omega)), a1, qb_s, a2, qb_s]
      | succ k ih =>
        intro w m q1 q2
        have z : K1 x w = 0 := (hw w (by omega)).mpr (fun i hi => (hz _ (by omega)).mpr (c _ (by omega)))
        rw [lp_1 _ _ (by omega), fX0_giveBackEmpty_b13, if_neg (show ¬ (8 : Int32) ≤ nI w from nI_ge (b := 8) (by omega) (by omega)), x_word g gl s hr.2.1 (by omega), qb_s, z, if_pos ((lg_cmp_eq 0 0).mpr rfl), qn_s, nI_1]
        exact ih (w + 1) (m - 1) (by omega) (by omega)
    rw [e0]
    exact key 8 0 N (by omega) (by omega)
  · right
    refine ⟨c, ?_⟩
    have key : ∀ (k w m : Nat), w + k = 8 → k < m → (∀ j, j < 4 * w → P (fr j) = true ∨ tl A W n (fr j) = 0) → q_lp (fX0_giveBackEmpty_b13 L N) (fun _ _ _ _ _ => none) m (nI sct) (nI h) (nI x) (nI w) ux = some (0, ux) := by
      intro k
      induction k with
      | zero =>
        intro w m q1 q2 q3
        exact absurd (fun j hj => q3 j (by omega)) c
      | succ k ih =>
        intro w m q1 q2 q3
        rw [lp_1 _ _ (by omega), fX0_giveBackEmpty_b13, if_neg (show ¬ (8 : Int32) ≤ nI w from nI_ge (b := 8) (by omega) (by omega)), x_word g gl s hr.2.1 (by omega), qb_s]
        by_cases z : K1 x w = 0
        · rw [z, if_pos ((lg_cmp_eq 0 0).mpr rfl), qn_s, nI_1]
          refine ih (w + 1) (m - 1) (by omega) (by omega) (fun j hj => ?_)
          by_cases cj : j < 4 * w
          · exact q3 j cj
          · have := (hw w (by omega)).mp z (j - 4 * w) (by omega)
            rw [show 4 * w + (j - 4 * w) = j by omega] at this
            exact (hz j (by omega)).mp this
        · rw [if_neg (fun q => z ((lg_cmp_eq _ _).mp q))]
    rw [e0]
    exact key 8 0 N (by omega) (by omega) (fun j hj => absurd hj (by omega))
