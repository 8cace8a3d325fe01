/-! ===== a WRITE into a band out of the page ===== -/
theorem x_shl18 {B T S C W Ls : Nat} {L : Nat → Nat} {N : Nat} (g : Geo B T S C W Ls) (gl : gL B C W Ls L) {x1 x3 : Int32} {hi : Nat} (hh : hi ≤ Ls + W) : ∀ (k n i : Nat) (u : q_St), i + k = hi → k < n →
    q_lp (fX2_writeShingle_18_b75 L N) (fun _ _ _ _ _ => none) n x1 x3 (nI hi) (nI i) u = fX2_writeShingle_18_b106 L N x1 x3 (q_sa u 0 (stl (q_a u 0) i hi)) := by
  have hw := g.w
  have hl := g.l
  intro k
  induction k with
  | zero =>
    intro n i u h1 h2
    rw [lp_1 _ _ (by omega), fX2_writeShingle_18_b75, if_pos (nI_le (by omega) (by omega)), stl_0 _ (by omega), sa_self]
  | succ k ih =>
    intro n i u h1 h2
    rw [lp_1 _ _ (by omega), fX2_writeShingle_18_b75, if_neg (nI_ge (by omega) (by omega)), gl.2.1, if_neg (nI_ge (by omega) (by omega)), qw_n (by omega) (by omega), qn_s, nI_1, ih (n - 1) (i + 1) _ (by omega) (by omega), cl_n (by omega), nar_1]
    rw [qa_sa, if_pos rfl, sa_sa, stl_1 _ (by omega)]
theorem x_shingle18 {B T S C W Ls : Nat} {L : Nat → Nat} {N : Nat} (g : Geo B T S C W Ls) (gl : gL B C W Ls L) {u : q_St} (gx : gX B T S C W Ls u) (hN : 300 ≤ N) {x : Nat} (hx : x < Ls) :
    (fX2_spend L N u = some (0, q_si (q_si u 8 (-1)) 7 0) → fX2_writeShingle_18 L N (nI x) 0 u = some (0, q_sa (q_si (q_si u 8 (-1)) 7 0) 0 (shl W S (q_a u 0) x 1))) ∧
    (∀ c, fX2_spend L N u = some (1, q_si u 8 c) → fX2_writeShingle_18 L N (nI x) 0 u = some (1, q_si (q_sj (q_sa (q_si u 8 c) 0 (shl W S (q_a u 0) x 0)) 0 (va_cpy (q_j u 1) (q_j u 0) 0 (x * 8) 8)) 10 (q_i u 10 + 1))) := by
  have hw := g.w
  have hl := g.l
  obtain ⟨a, b, c, d, e, f⟩ := id g
  have m8 := Nat.mod_lt x (show 0 < 8 by decide)
  have mW := Nat.mod_lt x (show 0 < W by omega)
  have l8 : x % 8 ≤ x := Nat.mod_le _ _
  have lW : x % W ≤ x := Nat.mod_le _ _
  have d8 := sub_mod8 x 8 (by decide)
  have dW := sub_mod8 x W (by omega)
  have hb75 : fX2_writeShingle_18 L N (nI x) 0 u = fX2_writeShingle_18_b106 L N (nI x) 0 (q_sa u 0 (stl (q_a u 0) (x / 8 * 8 + 8) (min (x / W * W + W) (x / 8 * 8 + 8 + 8 * S)))) := by
    unfold fX2_writeShingle_18
    rw [if_neg (nI_pos (by omega)), gl.2.1, if_neg (nI_ge (by omega) (by omega)), if_neg (by decide), gl.2.2.2.2.2.2.1]
    rw [if_pos (show (0 : Int32) ≤ nI 8 - 8 by decide)]
    rw [show nI x - nI x / (8 : Int32) * (8 : Int32) = nI (x % 8) from rem_n (d := 8) (by omega) (by decide) (by decide), pk_sub l8, d8, show nI (x / 8 * 8) + (8 : Int32) = nI (x / 8 * 8 + 8) from nI_add _ _, qn_s]
    rw [gx.2.2.2.1, qd_n (by omega) (by omega), rem_n (by omega) (by omega) (by omega), pk_sub lW, dW, nI_add, qn_s, gx.2.2.1]
    rw [show (8 : Int32) * nI S = nI (8 * S) from pk_mul 8 S, nI_add, min_n (by omega) (by omega), qn_s]
    have hm : min (x / W * W + W) (x / 8 * 8 + 8 + 8 * S) ≤ Ls + W := by
      refine Nat.le_trans (Nat.min_le_left _ _) ?_
      have : x / W < B + 1 := (Nat.div_lt_iff_lt_mul (by omega)).mpr (by rw [Nat.add_mul, Nat.one_mul, ← f]; omega)
      have h3 : (x / W) * W ≤ B * W := Nat.mul_le_mul_right _ (by omega)
      omega
    by_cases hc : x / 8 * 8 + 8 ≤ min (x / W * W + W) (x / 8 * 8 + 8 + 8 * S)
    · exact x_shl18 g gl hm (min (x / W * W + W) (x / 8 * 8 + 8 + 8 * S) - (x / 8 * 8 + 8)) N _ u (by omega) (by omega)
    · rw [lp_1 _ _ (by omega), fX2_writeShingle_18_b75, if_pos (nI_le (by omega) (by omega)), stl_0 _ (by omega), sa_self]
  have hsp : ∀ F r v, fX2_spend L N u = some (r, v) → F = q_sa u 0 (stl (q_a u 0) (x / 8 * 8 + 8) (min (x / W * W + W) (x / 8 * 8 + 8 + 8 * S))) → fX2_spend L N F = some (r, q_sa v 0 (stl (q_a u 0) (x / 8 * 8 + 8) (min (x / W * W + W) (x / 8 * 8 + 8 + 8 * S)))) := by
    intro F r v h1 h2
    rw [h2]
    unfold fX2_spend at h1 ⊢
    rw [qi_sa]
    by_cases c0 : q_i u 8 = 0
    · rw [if_pos c0] at h1 ⊢
      cases h1
      rfl
    · rw [if_neg c0] at h1 ⊢
      by_cases c1 : q_i u 8 ≤ 0
      · rw [if_pos c1] at h1 ⊢
        cases h1
        rfl
      · rw [if_neg c1] at h1 ⊢
        cases h1
        rfl
  refine ⟨fun h => ?_, fun c h => ?_⟩
  · rw [hb75]
    unfold fX2_writeShingle_18_b106
    rw [hsp _ _ _ h rfl, qb_s, if_pos rfl]
    unfold fX2_writeShingle_18_b127
    rw [gl.2.1, qw_n (by omega) (by omega), if_pos rfl, cl_n (by omega), nar_1, qa_sa, if_pos rfl, sa_sa]
    rfl
  · rw [hb75]
    unfold fX2_writeShingle_18_b106
    rw [hsp _ _ _ h rfl, qb_s, if_neg (by decide)]
    unfold fX2_writeShingle_18_b127
    rw [gl.2.1, qw_n (by omega) (by omega), if_neg (by decide), cl_n (by omega), nar_0, qa_sa, if_pos rfl, sa_sa]
    rw [show nI x * (8 : Int32) = nI (x * 8) from pk_mul x 8, cl_n (show x * 8 < 2 ^ 31 by omega), show Int32.toNatClampNeg 0 = 0 from by decide, show Int32.toNatClampNeg 8 = 8 from by decide]
    unfold q_cp
    rw [gl.1, gl.2.2.2.2.2.2.1, if_neg (by
      rw [cl_n (show x * 8 < 2 ^ 31 by omega), show Int32.toNatClampNeg 0 = 0 from by decide, show Int32.toNatClampNeg 8 = 8 from by decide]
      rintro ((h1 | h1 | h1) | h1)
      · exact absurd h1 (by decide)
      · exact nI_pos (by omega) h1
      · exact absurd h1 (by decide)
      · omega)]
    dsimp only
    rw [qi_sj, qi_sa, qi_ne (by decide), gx.2.2.2.2.1]
    rw [if_neg (nI_ge hx (by omega))]
    rfl
