/-! ===== WRITES in both: the CUT, RECORDS, tracks ===== -/
theorem qi_ne {σ : q_St} {k j : Nat} {v : Int32} (h : j ≠ k) : q_i (q_si σ k v) j = q_i σ j := if_neg h
theorem qi_eq {σ : q_St} {k : Nat} {v : Int32} : q_i (q_si σ k v) k = v := if_pos rfl
theorem qa_ne {σ : q_St} {k j : Nat} {f : Nat → Int32} (h : j ≠ k) : q_a (q_sa σ k f) j = q_a σ j := if_neg h
theorem qa_eq {σ : q_St} {k : Nat} {f : Nat → Int32} : q_a (q_sa σ k f) k = f := if_pos rfl
theorem qj_ne {σ : q_St} {k j : Nat} {f : Nat → Int64} (h : j ≠ k) : q_j (q_sj σ k f) j = q_j σ j := if_neg h
theorem qj_eq {σ : q_St} {k : Nat} {f : Nat → Int64} : q_j (q_sj σ k f) k = f := if_pos rfl
theorem si_self (u : q_St) (k : Nat) : q_si u k (q_i u k) = u := by
  unfold q_si q_i
  refine Prod.ext (funext fun j => ?_) rfl
  show (if j = k then u.1 k else u.1 j) = u.1 j
  split
  · rename_i e; rw [e]
  · rfl
theorem sa_sa (u : q_St) (k : Nat) (f g : Nat → Int32) : q_sa (q_sa u k f) k g = q_sa u k g := by
  unfold q_sa
  refine Prod.ext rfl (Prod.ext (funext fun j => ?_) rfl)
  show (if j = k then g else if j = k then f else u.2.1 j) = if j = k then g else u.2.1 j
  split <;> rfl
theorem sa_self (u : q_St) (k : Nat) : q_sa u k (q_a u k) = u := by
  unfold q_sa q_a
  refine Prod.ext rfl (Prod.ext (funext fun j => ?_) rfl)
  show (if j = k then u.2.1 k else u.2.1 j) = u.2.1 j
  split
  · rename_i e; rw [e]
  · rfl
/-- spend and lasts -/
theorem l_spend {L : Nat → Nat} {N : Nat} {ux um : q_St} (h8 : q_i ux 8 = q_i um 10) :
    (fX2_spend L N ux = some (0, q_si (q_si ux 8 (-1)) 7 0) ∧ fX11_lasts N um = some (0, q_si (q_si um 10 (-1)) 9 0)) ∨
    ∃ c, fX2_spend L N ux = some (1, q_si ux 8 c) ∧ fX11_lasts N um = some (1, q_si um 10 c) := by
  unfold fX2_spend fX11_lasts fX11_lasts_b40
  rw [h8]
  by_cases c0 : q_i um 10 = 0
  · rw [if_pos c0, if_pos c0]
    exact Or.inl ⟨rfl, rfl⟩
  · rw [if_neg c0, if_neg c0]
    by_cases c1 : q_i um 10 ≤ 0
    · have c2 : ¬ 0 ≤ q_i um 10 := fun q => c0 (Int32.le_antisymm c1 q)
      rw [if_pos c1, if_neg c2]
      exact Or.inr ⟨q_i um 10, by rw [← h8, si_self], rfl⟩
    · have c2 : 0 ≤ q_i um 10 := by
        rw [Int32.le_iff_toInt_le] at c1 ⊢
        omega
      rw [if_neg c1, if_pos c2]
      exact Or.inr ⟨q_i um 10 - 1, rfl, rfl⟩
theorem l_record {L : Nat → Nat} {N : Nat} {ux um : q_St} (h8 : q_i ux 8 = q_i um 10) :
    (fX2_writeRecord L N ux = some (0, q_si (q_si ux 8 (-1)) 7 0) ∧ fX11_record N um = some (0, q_si (q_si um 10 (-1)) 9 0)) ∨
    ∃ c, fX2_writeRecord L N ux = some (1, q_si (q_si ux 8 c) 12 (q_i ux 12 + 1)) ∧ fX11_record N um = some (1, q_si (q_si um 10 c) 14 (q_i um 14 + 1)) := by
  unfold fX2_writeRecord fX11_record
  rcases l_spend (L := L) (N := N) h8 with ⟨e1, e2⟩ | ⟨c, e1, e2⟩
  · rw [e1, e2, qb_s, qb_s, if_pos rfl, if_pos rfl]
    exact Or.inl ⟨rfl, rfl⟩
  · rw [e1, e2, qb_s, qb_s, if_neg (by decide), if_neg (by decide)]
    exact Or.inr ⟨c, rfl, rfl⟩
/-- what a write destroys -/
def stl (f : Nat → Int32) (lo hi : Nat) : Nat → Int32 := fun j => if lo ≤ j ∧ j < hi then 1 else f j
theorem stl_0 (f : Nat → Int32) {lo hi : Nat} (h : hi ≤ lo) : stl f lo hi = f := by
  funext j
  unfold stl
  rw [if_neg (by omega)]
theorem stl_1 (f : Nat → Int32) {lo hi : Nat} (h : lo < hi) : stl (upd f lo 1) (lo + 1) hi = stl f lo hi := by
  funext j
  unfold stl upd
  by_cases c : j = lo
  · rw [c, if_neg (by omega), if_pos rfl, if_pos ⟨Nat.le_refl _, h⟩]
  · by_cases c2 : lo + 1 ≤ j ∧ j < hi
    · rw [if_pos c2, if_pos (by omega)]
    · rw [if_neg c2, if_neg c, if_neg (by omega)]
theorem x_shl12 {B T S C W Ls : Nat} {L : Nat → Nat} {N : Nat} (g : Geo B T S C W Ls) (gl : gL B C W Ls L) {x1 x3 : Int32} {hi : Nat} (hh : hi ≤ Ls + W) : ∀ (k n i : Nat) (u : q_St), i + k = hi → k < n →
    q_lp (fX2_writeShingle_12_b75 L N) (fun _ _ _ _ _ => none) n x1 x3 (nI hi) (nI i) u = fX2_writeShingle_12_b106 L N x1 x3 (q_sa u 0 (stl (q_a u 0) i hi)) := by
  have hw := g.w
  have hl := g.l
  intro k
  induction k with
  | zero =>
    intro n i u h1 h2
    rw [lp_1 _ _ (by omega), fX2_writeShingle_12_b75, if_pos (nI_le (by omega) (by omega)), stl_0 _ (by omega), sa_self]
  | succ k ih =>
    intro n i u h1 h2
    rw [lp_1 _ _ (by omega), fX2_writeShingle_12_b75, if_neg (nI_ge (by omega) (by omega)), gl.2.1, if_neg (nI_ge (by omega) (by omega)), qw_n (by omega) (by omega), qn_s, nI_1, ih (n - 1) (i + 1) _ (by omega) (by omega), cl_n (by omega), nar_1]
    rw [qa_sa, if_pos rfl, sa_sa, stl_1 _ (by omega)]

/-- a write into a band or SCRATCH, of the class: where the power lasts, and where it fails -/
def shl (W S : Nat) (f : Nat → Int32) (x : Nat) (bad : Int32) : Nat → Int32 := upd (stl f (x / 8 * 8 + 8) (min (x / W * W + W) (x / 8 * 8 + 8 + 8 * S))) x bad
def cpy8 (f : Nat → Int64) (src dst : Nat) : Nat → Int64 := va_cpy f f src dst 8
theorem sub_mod8 (x d : Nat) (hd : 0 < d) : x - x % d = x / d * d := by
  have := Nat.div_add_mod x d
  rw [Nat.mul_comm] at this
  omega
theorem min_n {a b : Nat} (ha : a < 2 ^ 31) (hb : b < 2 ^ 31) : q_min (nI a) (nI b) = nI (min a b) := by
  unfold q_min
  by_cases c : b < a
  · rw [if_pos (nI_lt c ha), Nat.min_eq_right (by omega)]
  · rw [if_neg (nI_nlt (by omega) (by omega)), Nat.min_eq_left (by omega)]
theorem x_shingle12 {B T S C W Ls : Nat} {L : Nat → Nat} {N : Nat} (g : Geo B T S C W Ls) (gl : gL B C W Ls L) {u : q_St} (gx : gX B T S C W Ls u) (hN : 300 ≤ N) {x at_ : Nat} (hx : x < Ls + W) (ha : at_ + 8 ≤ ((Ls + W) + C) * 8) :
    (fX2_spend L N u = some (0, q_si (q_si u 8 (-1)) 7 0) → fX2_writeShingle_12 L N (nI x) (nI at_) u = some (0, q_sa (q_si (q_si u 8 (-1)) 7 0) 0 (shl W S (q_a u 0) x 1))) ∧
    (∀ c, fX2_spend L N u = some (1, q_si u 8 c) → fX2_writeShingle_12 L N (nI x) (nI at_) u = some (1, if x < Ls then q_si (q_sj (q_sa (q_si u 8 c) 0 (shl W S (q_a u 0) x 0)) 0 (cpy8 (q_j u 0) at_ (x * 8))) 10 (q_i u 10 + 1) else q_si (q_sj (q_sa (q_si u 8 c) 0 (shl W S (q_a u 0) x 0)) 0 (cpy8 (q_j u 0) at_ (x * 8))) 11 (q_i u 11 + 1))) := by
  have hw := g.w
  have hl := g.l
  obtain ⟨a, b, c, d, e, f⟩ := id g
  have m8 := Nat.mod_lt x (show 0 < 8 by decide)
  have mW := Nat.mod_lt x (show 0 < W by omega)
  have l8 : x % 8 ≤ x := Nat.mod_le _ _
  have lW : x % W ≤ x := Nat.mod_le _ _
  have d8 := sub_mod8 x 8 (by decide)
  have dW := sub_mod8 x W (by omega)
  have hb75 : fX2_writeShingle_12 L N (nI x) (nI at_) u = fX2_writeShingle_12_b106 L N (nI x) (nI at_) (q_sa u 0 (stl (q_a u 0) (x / 8 * 8 + 8) (min (x / W * W + W) (x / 8 * 8 + 8 + 8 * S)))) := by
    unfold fX2_writeShingle_12
    rw [if_neg (nI_pos (by omega)), gl.2.1, if_neg (nI_ge (by omega) (by omega)), if_neg (nI_pos (by omega)), gl.1]
    rw [show nI (((Ls + W) + C) * 8) - (8 : Int32) = nI (((Ls + W) + C) * 8 - 8) from pk_sub (a := ((Ls + W) + C) * 8) (b := 8) (by omega), if_pos (nI_le (by omega) (by omega))]
    rw [show nI x - nI x / (8 : Int32) * (8 : Int32) = nI (x % 8) from rem_n (d := 8) (by omega) (by decide) (by decide), pk_sub l8, d8, show nI (x / 8 * 8) + (8 : Int32) = nI (x / 8 * 8 + 8) from nI_add _ _, qn_s]
    rw [gx.2.2.2.1, qd_n (by omega) (by omega), rem_n (by omega) (by omega) (by omega), pk_sub lW, dW, nI_add, qn_s, gx.2.2.1]
    rw [show (8 : Int32) * nI S = nI (8 * S) from pk_mul 8 S, nI_add, min_n (by omega) (by omega), qn_s]
    have hm : min (x / W * W + W) (x / 8 * 8 + 8 + 8 * S) ≤ Ls + W := by
      refine Nat.le_trans (Nat.min_le_left _ _) ?_
      have : x / W < B + 1 := (Nat.div_lt_iff_lt_mul (by omega)).mpr (by rw [Nat.add_mul, Nat.one_mul, ← f]; exact hx)
      have h3 : (x / W) * W ≤ B * W := Nat.mul_le_mul_right _ (by omega)
      omega
    by_cases hc : x / 8 * 8 + 8 ≤ min (x / W * W + W) (x / 8 * 8 + 8 + 8 * S)
    · exact x_shl12 g gl hm (min (x / W * W + W) (x / 8 * 8 + 8 + 8 * S) - (x / 8 * 8 + 8)) N _ u (by omega) (by omega)
    · rw [lp_1 _ _ (by omega), fX2_writeShingle_12_b75, if_pos (nI_le (by omega) (by omega)), stl_0 _ (by omega), sa_self]
  have hsp : ∀ F r v, fX2_spend L N u = some (r, v) → F = q_sa u 0 (stl (q_a u 0) (x / 8 * 8 + 8) (min (x / W * W + W) (x / 8 * 8 + 8 + 8 * S))) → fX2_spend L N F = some (r, q_sa v 0 (stl (q_a u 0) (x / 8 * 8 + 8) (min (x / W * W + W) (x / 8 * 8 + 8 + 8 * S)))) := by
    intro F r v h1 h2
    rw [h2]
    unfold fX2_spend at h1 ⊢
    rw [qi_sa]
    by_cases c0 : q_i u 8 = 0
    · rw [if_pos c0] at h1 ⊢
      cases h1
      rfl
    · rw [if_neg c0] at h1 ⊢
      by_cases c1 : q_i u 8 ≤ 0
      · rw [if_pos c1] at h1 ⊢
        cases h1
        rfl
      · rw [if_neg c1] at h1 ⊢
        cases h1
        rfl
  refine ⟨fun h => ?_, fun c h => ?_⟩
  · rw [hb75]
    unfold fX2_writeShingle_12_b106
    rw [hsp _ _ _ h rfl, qb_s, if_pos rfl]
    unfold fX2_writeShingle_12_b127
    rw [gl.2.1, qw_n (by omega) (by omega), if_pos rfl, cl_n (by omega), nar_1, qa_sa, if_pos rfl, sa_sa]
    rfl
  · rw [hb75]
    unfold fX2_writeShingle_12_b106
    rw [hsp _ _ _ h rfl, qb_s, if_neg (by decide)]
    unfold fX2_writeShingle_12_b127
    rw [gl.2.1, qw_n (by omega) (by omega), if_neg (by decide), cl_n (by omega), nar_0, qa_sa, if_pos rfl, sa_sa]
    rw [show nI x * (8 : Int32) = nI (x * 8) from pk_mul x 8, cl_n (show x * 8 < 2 ^ 31 by omega), cl_n (show at_ < 2 ^ 31 by omega), show Int32.toNatClampNeg 8 = 8 from by decide]
    unfold q_cp
    rw [gl.1, if_neg (by
      rw [cl_n (show x * 8 < 2 ^ 31 by omega), cl_n (show at_ < 2 ^ 31 by omega), show Int32.toNatClampNeg 8 = 8 from by decide]
      rintro ((h1 | h1 | h1) | h1)
      · exact nI_pos (by omega) h1
      · exact nI_pos (by omega) h1
      · exact absurd h1 (by decide)
      · omega)]
    dsimp only
    rw [qi_sj, qi_sa, qi_ne (by decide), gx.2.2.2.2.1]
    by_cases hq : x < Ls
    · rw [if_neg (nI_ge hq (by omega)), if_pos hq]
      rfl
    · rw [if_pos (nI_le (by omega) (by omega)), if_neg hq]
      rfl
