/-! ===== the reference's writes into bands and SCRATCH ===== -/
theorem i32_add0 (x : Int32) : x + 0 = x := by simp
theorem shl_lo {B T S C W Ls b t k : Nat} (g : Geo B T S C W Ls) (ht : t < T) (hk : k < 8) : (b * W + 8 * t + k) / 8 * 8 + 8 = b * W + 8 * (t + 1) := by
  obtain ⟨_, _, _, _, e, f⟩ := g
  have : b * W = 8 * (b * T) := by rw [e, Nat.mul_left_comm]
  omega
theorem shl_hi {B T S C W Ls b t k : Nat} (g : Geo B T S C W Ls) (ht : t < T) (hk : k < 8) : (b * W + 8 * t + k) / W * W + W = (b + 1) * W := by
  have hw := g.w
  obtain ⟨_, _, _, _, e, f⟩ := g
  have : (b * W + 8 * t + k) / W = b := by
    rw [Nat.add_assoc, Nat.mul_comm, Nat.mul_add_div (by omega), Nat.div_eq_of_lt (by omega)]
    omega
  rw [this, Nat.add_mul, Nat.one_mul]
theorem m_shlB {B T S C W Ls b t : Nat} {N : Nat} (g : Geo B T S C W Ls) (hb : b < B) (ht : t < T) {x4 : Int32} : ∀ (k n i : Nat) (u : q_St), gM B T S C W Ls u → i + k = min ((b + 1) * W) (b * W + 8 * (t + 1) + 8 * S) → k < n →
    q_lp (fX11_writeBand_b53 N) (fun _ _ _ _ _ => none) n (nI b) (nI t) x4 (nI i) u = fX11_writeBand_b103 N x4 (q_sa u 0 (stl (q_a u 0) i (min ((b + 1) * W) (b * W + 8 * (t + 1) + 8 * S)))) := by
  have hw := g.w
  have hl := g.l
  obtain ⟨a, b', c, d, e, f⟩ := id g
  have hbW : (b + 1) * W ≤ B * W := Nat.mul_le_mul_right _ hb
  have hbW2 : b * W ≤ B * W := Nat.mul_le_mul_right _ (by omega)
  have hm1 := Nat.min_le_left ((b + 1) * W) (b * W + 8 * (t + 1) + 8 * S)
  have hm2 := Nat.min_le_right ((b + 1) * W) (b * W + 8 * (t + 1) + 8 * S)
  intro k
  induction k with
  | zero =>
    intro n i u gm h1 h2
    rw [lp_1 _ _ (by omega), fX11_writeBand_b53, gm.2.2.2.2.1, gm.2.2.1, pk_mul, nI_1, nI_add, show (8 : Int32) * nI (t + 1 + S) = nI (8 * (t + 1 + S)) from pk_mul 8 _, nI_add, nI_1, pk_mul]
    by_cases c1 : b * W + 8 * (t + 1 + S) ≤ i
    · rw [if_pos (nI_le c1 (by omega)), stl_0 _ (by omega), sa_self]
    · have c2 : (b + 1) * W ≤ i := by
        rcases Nat.le_total ((b + 1) * W) (b * W + 8 * (t + 1) + 8 * S) with q | q
        · rw [Nat.min_eq_left q] at h1; omega
        · rw [Nat.min_eq_right q] at h1; omega
      rw [if_neg (nI_ge (by omega) (by omega)), if_pos (nI_le c2 (by omega)), stl_0 _ (by omega), sa_self]
  | succ k ih =>
    intro n i u gm h1 h2
    rw [lp_1 _ _ (by omega), fX11_writeBand_b53, gm.2.2.2.2.1, gm.2.2.1, pk_mul, nI_1, nI_add, show (8 : Int32) * nI (t + 1 + S) = nI (8 * (t + 1 + S)) from pk_mul 8 _, nI_add, nI_1, pk_mul]
    rw [if_neg (nI_ge (by omega) (by omega)), if_neg (nI_ge (by omega) (by omega)), qw_n (by omega) (by omega), qn_s, nI_1, ih (n - 1) (i + 1) (q_sa u 0 (upd (q_a u 0) (Int32.toNatClampNeg (nI i)) (vp_nar .boolean 1))) gm (by omega) (by omega), cl_n (by omega), nar_1]
    rw [qa_eq, sa_sa, stl_1 _ (by omega)]
/-- a flag of lasts -/
theorem m_writeBand {B T S C W Ls b t k : Nat} {N : Nat} (g : Geo B T S C W Ls) {um : q_St} (gm : gM B T S C W Ls um) (hN : 300 ≤ N) (hb : b < B) (ht : t < T) (hk : k < 8) :
    (fX11_lasts N um = some (0, q_si (q_si um 10 (-1)) 9 0) → fX11_writeBand N (nI b) (nI t) (nI k) um = some (0, q_sa (q_si (q_si um 10 (-1)) 9 0) 0 (shl W S (q_a um 0) (b * W + 8 * t + k) 1))) ∧
    (∀ c, fX11_lasts N um = some (1, q_si um 10 c) → fX11_writeBand N (nI b) (nI t) (nI k) um = some (1, q_si (q_sa (q_si um 10 c) 0 (shl W S (q_a um 0) (b * W + 8 * t + k) 0)) 12 (q_i um 12 + 1))) := by
  have hw := g.w
  have hl := g.l
  obtain ⟨a, b', c, d, e, f⟩ := id g
  have hbW : (b + 1) * W ≤ B * W := Nat.mul_le_mul_right _ hb
  have hbW3 : (b + 1) * W = b * W + W := by rw [Nat.add_mul, Nat.one_mul]
  have hx : b * W + 8 * t + k < Ls := by omega
  have h1 := shl_lo (b := b) g ht hk
  have h2 := shl_hi (b := b) g ht hk
  have hm1 := Nat.min_le_left ((b + 1) * W) (b * W + 8 * (t + 1) + 8 * S)
  have swap : ∀ (f0 : Nat → Int32) (bad : Int32), stl (upd f0 (b * W + 8 * t + k) bad) (b * W + 8 * (t + 1)) (min ((b + 1) * W) (b * W + 8 * (t + 1) + 8 * S)) = shl W S f0 (b * W + 8 * t + k) bad := by
    intro f0 bad
    unfold shl
    rw [h1, h2]
    funext j
    unfold stl upd
    by_cases c1 : j = b * W + 8 * t + k
    · rw [if_neg (by omega), if_pos c1, if_pos c1]
    · rw [if_neg c1, if_neg c1]
  have go : ∀ (r bad : Int32) (v : q_St), gM B T S C W Ls v → fX11_writeBand_b37 N (nI b) (nI t) r bad (nI (b * W + 8 * t + k)) v = fX11_writeBand_b103 N r (q_sa v 0 (shl W S (q_a v 0) (b * W + 8 * t + k) (vp_nar .boolean bad))) := by
    intro r bad v gv
    unfold fX11_writeBand_b37
    rw [qw_n (by omega) (by omega), cl_n (by omega), qi_sa, gv.2.2.2.2.1, pk_mul, nI_1, show (8 : Int32) * nI (t + 1) = nI (8 * (t + 1)) from pk_mul 8 _, nI_add, qn_s]
    have gv2 : gM B T S C W Ls (q_sa v 0 (upd (q_a v 0) (b * W + 8 * t + k) (vp_nar .boolean bad))) := gv
    by_cases hc : b * W + 8 * (t + 1) ≤ min ((b + 1) * W) (b * W + 8 * (t + 1) + 8 * S)
    · rw [m_shlB g hb ht (min ((b + 1) * W) (b * W + 8 * (t + 1) + 8 * S) - (b * W + 8 * (t + 1))) N _ _ gv2 (by omega) (by omega), qa_eq, sa_sa, swap]
    · exfalso
      apply hc
      refine Nat.le_min.mpr ⟨by omega, by omega⟩
  unfold fX11_writeBand
  refine ⟨fun h => ?_, fun c h => ?_⟩
  · rw [h, qb_s, qi_ne (by decide), qi_ne (by decide), gm.2.2.2.2.1, pk_mul, show (8 : Int32) * nI t = nI (8 * t) from pk_mul 8 _, nI_add, nI_add, qn_s, if_pos rfl, go 0 1 (q_si (q_si um 10 (-1)) 9 0) gm]
    unfold fX11_writeBand_b103 fX11_writeBand_b118
    rw [if_pos rfl, qn_s, i32_add0, si_self, nar_1]
    rfl
  · rw [h, qb_s, qi_ne (by decide), gm.2.2.2.2.1, pk_mul, show (8 : Int32) * nI t = nI (8 * t) from pk_mul 8 _, nI_add, nI_add, qn_s, if_neg (by decide), go 1 0 (q_si um 10 c) gm]
    unfold fX11_writeBand_b103 fX11_writeBand_b118
    rw [if_neg (by decide), qn_s, nar_0]
    rfl

theorem m_shlS {B T S C W Ls t : Nat} {N : Nat} (g : Geo B T S C W Ls) (ht : t < T) {x4 : Int32} : ∀ (k n i : Nat) (u : q_St), gM B T S C W Ls u → i + k = min W (8 * (t + 1) + 8 * S) → k < n →
    q_lp (fX11_writeScratch_b33 N) (fun _ _ _ _ => none) n (nI t) x4 (nI i) u = fX11_writeScratch_b72 N x4 (q_sa u 1 (stl (q_a u 1) i (min W (8 * (t + 1) + 8 * S)))) := by
  have hw := g.w
  have hl := g.l
  obtain ⟨a, b', c, d, e, f⟩ := id g
  have hm1 := Nat.min_le_left W (8 * (t + 1) + 8 * S)
  have hm2 := Nat.min_le_right W (8 * (t + 1) + 8 * S)
  intro k
  induction k with
  | zero =>
    intro n i u gm h1 h2
    rw [lp_1 _ _ (by omega), fX11_writeScratch_b33, gm.2.2.2.2.1, gm.2.2.1, nI_1, nI_add, show (8 : Int32) * nI (t + 1 + S) = nI (8 * (t + 1 + S)) from pk_mul 8 _]
    by_cases c1 : 8 * (t + 1 + S) ≤ i
    · rw [if_pos (nI_le c1 (by omega)), stl_0 _ (by omega), sa_self]
    · have c2 : W ≤ i := by
        rcases Nat.le_total W (8 * (t + 1) + 8 * S) with q | q
        · rw [Nat.min_eq_left q] at h1; omega
        · rw [Nat.min_eq_right q] at h1; omega
      rw [if_neg (nI_ge (by omega) (by omega)), if_pos (nI_le c2 (by omega)), stl_0 _ (by omega), sa_self]
  | succ k ih =>
    intro n i u gm h1 h2
    rw [lp_1 _ _ (by omega), fX11_writeScratch_b33, gm.2.2.2.2.1, gm.2.2.1, nI_1, nI_add, show (8 : Int32) * nI (t + 1 + S) = nI (8 * (t + 1 + S)) from pk_mul 8 _]
    rw [if_neg (nI_ge (by omega) (by omega)), if_neg (nI_ge (by omega) (by omega)), qw_n (by omega) (by omega), qn_s, nI_1, ih (n - 1) (i + 1) (q_sa u 1 (upd (q_a u 1) (Int32.toNatClampNeg (nI i)) (vp_nar .boolean 1))) gm (by omega) (by omega), cl_n (by omega), nar_1]
    rw [qa_eq, sa_sa, stl_1 _ (by omega)]
theorem m_writeScratch {B T S C W Ls t k : Nat} {N : Nat} (g : Geo B T S C W Ls) {um : q_St} (gm : gM B T S C W Ls um) (hN : 300 ≤ N) (ht : t < T) (hk : k < 8) :
    (fX11_lasts N um = some (0, q_si (q_si um 10 (-1)) 9 0) → fX11_writeScratch N (nI t) (nI k) um = some (0, q_sa (q_si (q_si um 10 (-1)) 9 0) 1 (shl W S (q_a um 1) (8 * t + k) 1))) ∧
    (∀ c, fX11_lasts N um = some (1, q_si um 10 c) → fX11_writeScratch N (nI t) (nI k) um = some (1, q_si (q_sa (q_si um 10 c) 1 (shl W S (q_a um 1) (8 * t + k) 0)) 13 (q_i um 13 + 1))) := by
  have hw := g.w
  have hl := g.l
  obtain ⟨a, b', c, d, e, f⟩ := id g
  have hx : 8 * t + k < W := by omega
  have h1 : (8 * t + k) / 8 * 8 + 8 = 8 * (t + 1) := by omega
  have h2 : (8 * t + k) / W * W + W = W := by rw [Nat.div_eq_of_lt hx]; omega
  have hm1 := Nat.min_le_left W (8 * (t + 1) + 8 * S)
  have swap : ∀ (f0 : Nat → Int32) (bad : Int32), stl (upd f0 (8 * t + k) bad) (8 * (t + 1)) (min W (8 * (t + 1) + 8 * S)) = shl W S f0 (8 * t + k) bad := by
    intro f0 bad
    unfold shl
    rw [h1, h2]
    funext j
    unfold stl upd
    by_cases c1 : j = 8 * t + k
    · rw [if_neg (by omega), if_pos c1, if_pos c1]
    · rw [if_neg c1, if_neg c1]
  have go : ∀ (r bad : Int32) (v : q_St), gM B T S C W Ls v → fX11_writeScratch_b24 N (nI t) r bad (nI (8 * t + k)) v = fX11_writeScratch_b72 N r (q_sa v 1 (shl W S (q_a v 1) (8 * t + k) (vp_nar .boolean bad))) := by
    intro r bad v gv
    unfold fX11_writeScratch_b24
    rw [qw_n (by omega) (by omega), cl_n (by omega), nI_1, show (8 : Int32) * nI (t + 1) = nI (8 * (t + 1)) from pk_mul 8 _, qn_s]
    have gv2 : gM B T S C W Ls (q_sa v 1 (upd (q_a v 1) (8 * t + k) (vp_nar .boolean bad))) := gv
    have hc : 8 * (t + 1) ≤ min W (8 * (t + 1) + 8 * S) := Nat.le_min.mpr ⟨by omega, by omega⟩
    rw [m_shlS g ht (min W (8 * (t + 1) + 8 * S) - (8 * (t + 1))) N _ _ gv2 (by omega) (by omega), qa_eq, sa_sa, swap]
  unfold fX11_writeScratch
  refine ⟨fun h => ?_, fun c h => ?_⟩
  · rw [h, qb_s, show (8 : Int32) * nI t = nI (8 * t) from pk_mul 8 _, nI_add, if_pos rfl, go 0 1 (q_si (q_si um 10 (-1)) 9 0) gm]
    unfold fX11_writeScratch_b72 fX11_writeScratch_b86
    rw [if_pos rfl, qn_s, i32_add0, si_self, nar_1]
    rfl
  · rw [h, qb_s, show (8 : Int32) * nI t = nI (8 * t) from pk_mul 8 _, nI_add, if_neg (by decide), go 1 0 (q_si um 10 c) gm]
    unfold fX11_writeScratch_b72 fX11_writeScratch_b86
    rw [if_neg (by decide), qn_s, nar_0]
    rfl
