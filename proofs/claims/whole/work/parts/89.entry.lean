/-! ===== an ENTRY of the class: its words come out of memory (19) or out of the page (22) ===== -/
theorem x_entry19 {B T S C W Ls : Nat} {L : Nat → Nat} {N : Nat} (g : Geo B T S C W Ls) (gl : gL B C W Ls L) {u : q_St} (gx : gX B T S C W Ls u) {pl at_ : Nat} (hp : pl < C) (ha : at_ + 8 ≤ Ls * 8) :
    (fX2_spend L N u = some (0, q_si (q_si u 8 (-1)) 7 0) → fX2_writeEntry_19 L N (nI pl) (nI at_) u = some (0, q_si (q_si u 8 (-1)) 7 0)) ∧
    (∀ c, fX2_spend L N u = some (1, q_si u 8 c) → fX2_writeEntry_19 L N (nI pl) (nI at_) u = some (1, q_si (q_sj (q_si u 8 c) 0 (va_cpy (q_j u 2) (q_j u 0) at_ ((Ls + W + pl) * 8) 8)) 9 (q_i u 9 + 1))) := by
  have hw := g.w
  have hl := g.l
  obtain ⟨a, b, c, d, e, f⟩ := id g
  have pre : ∀ (K : Option (Int32 × q_St)), (if nI pl < 0 then (some (0, u) : Option (Int32 × q_St)) else if q_i u 6 ≤ nI pl then some (0, u) else if nI at_ < 0 then some (0, u) else if nI (L 7) - 8 < nI at_ then some (0, u) else K) = K := by
    intro K
    rw [if_neg (nI_pos (by omega)), gx.2.2.2.2.2.1, if_neg (nI_ge hp (by omega)), if_neg (nI_pos (by omega)), gl.2.2.2.2.2.2.2.1, show nI (Ls * 8) - (8 : Int32) = nI (Ls * 8 - 8) from pk_sub (a := Ls * 8) (b := 8) (by omega), if_neg (nI_nlt (by omega) (by omega))]
  unfold fX2_writeEntry_19
  rw [pre]
  refine ⟨fun h => ?_, fun c h => ?_⟩
  · rw [h, qb_s, if_pos rfl]
  · rw [h, qb_s, if_neg (by decide), qi_ne (show (5 : Nat) ≠ 8 by decide), qi_ne (show (4 : Nat) ≠ 8 by decide), gx.2.2.2.2.1, gx.2.2.2.1, nI_add, nI_add, show nI (Ls + W + pl) * (8 : Int32) = nI ((Ls + W + pl) * 8) from pk_mul _ 8, cl_n (show (Ls + W + pl) * 8 < 2 ^ 31 by omega), cl_n (show at_ < 2 ^ 31 by omega), show Int32.toNatClampNeg 8 = 8 from by decide]
    unfold q_cp
    rw [gl.1, gl.2.2.2.2.2.2.2.1, if_neg (by
      rw [cl_n (show (Ls + W + pl) * 8 < 2 ^ 31 by omega), cl_n (show at_ < 2 ^ 31 by omega), show Int32.toNatClampNeg 8 = 8 from by decide]
      rintro ((h1 | h1 | h1) | h1)
      · exact nI_pos (by omega) h1
      · exact nI_pos (by omega) h1
      · exact absurd h1 (by decide)
      · omega)]
    rfl
theorem x_entry22 {B T S C W Ls : Nat} {L : Nat → Nat} {N : Nat} (g : Geo B T S C W Ls) (gl : gL B C W Ls L) {u : q_St} (gx : gX B T S C W Ls u) {pl at_ : Nat} (hp : pl < C) (ha : at_ + 8 ≤ 8) :
    (fX2_spend L N u = some (0, q_si (q_si u 8 (-1)) 7 0) → fX2_writeEntry_22 L N (nI pl) (nI at_) u = some (0, q_si (q_si u 8 (-1)) 7 0)) ∧
    (∀ c, fX2_spend L N u = some (1, q_si u 8 c) → fX2_writeEntry_22 L N (nI pl) (nI at_) u = some (1, q_si (q_sj (q_si u 8 c) 0 (va_cpy (q_j u 3) (q_j u 0) at_ ((Ls + W + pl) * 8) 8)) 9 (q_i u 9 + 1))) := by
  have hw := g.w
  have hl := g.l
  obtain ⟨a, b, c, d, e, f⟩ := id g
  have pre : ∀ (K : Option (Int32 × q_St)), (if nI pl < 0 then (some (0, u) : Option (Int32 × q_St)) else if q_i u 6 ≤ nI pl then some (0, u) else if nI at_ < 0 then some (0, u) else if nI (L 10) - 8 < nI at_ then some (0, u) else K) = K := by
    intro K
    rw [if_neg (nI_pos (by omega)), gx.2.2.2.2.2.1, if_neg (nI_ge hp (by omega)), if_neg (nI_pos (by omega)), gl.2.2.2.2.2.2.2.2.2.2.1, show nI 8 - (8 : Int32) = nI (8 - 8) from pk_sub (a := 8) (b := 8) (by omega), if_neg (nI_nlt (by omega) (by omega))]
  unfold fX2_writeEntry_22
  rw [pre]
  refine ⟨fun h => ?_, fun c h => ?_⟩
  · rw [h, qb_s, if_pos rfl]
  · rw [h, qb_s, if_neg (by decide), qi_ne (show (5 : Nat) ≠ 8 by decide), qi_ne (show (4 : Nat) ≠ 8 by decide), gx.2.2.2.2.1, gx.2.2.2.1, nI_add, nI_add, show nI (Ls + W + pl) * (8 : Int32) = nI ((Ls + W + pl) * 8) from pk_mul _ 8, cl_n (show (Ls + W + pl) * 8 < 2 ^ 31 by omega), cl_n (show at_ < 2 ^ 31 by omega), show Int32.toNatClampNeg 8 = 8 from by decide]
    unfold q_cp
    rw [gl.1, gl.2.2.2.2.2.2.2.2.2.2.1, if_neg (by
      rw [cl_n (show (Ls + W + pl) * 8 < 2 ^ 31 by omega), cl_n (show at_ < 2 ^ 31 by omega), show Int32.toNatClampNeg 8 = 8 from by decide]
      rintro ((h1 | h1 | h1) | h1)
      · exact nI_pos (by omega) h1
      · exact nI_pos (by omega) h1
      · exact absurd h1 (by decide)
      · omega)]
    rfl
