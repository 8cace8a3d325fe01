/-! ===== lay: which band ===== -/
theorem VV_band {B T S C W Ls hb : Nat} {sm : Option Nat} {D : Nat → Nat → Int64} {ux um : q_St} (v : VV B T S C W Ls hb sm D ux um) : q_i ux 16 = q_i um 19 := by
  obtain ⟨h, t, cl, -, vu, -⟩ := v
  have k := vu.2.2.2.2.2.1
  unfold kR at k
  cases cl with
  | none => rw [k.1.1, k.1.2.1]
  | some c =>
    obtain ⟨b, lim, sf, tr⟩ := c
    rw [k.1.1, k.1.2.1]
def allB (P : Nat → Bool) : Nat → Nat → Bool
  | 0, _ => true
  | k + 1, i => P i && allB P k (i + 1)
theorem allB_t {P : Nat → Bool} : ∀ k i, allB P k i = true → ∀ j, i ≤ j → j < i + k → P j = true
  | 0, i, _, j, h1, h2 => by omega
  | k + 1, i, h, j, h1, h2 => by
    have e : allB P (k + 1) i = (P i && allB P k (i + 1)) := rfl
    rw [e, Bool.and_eq_true] at h
    by_cases c : j = i
    · rw [c]; exact h.1
    · exact allB_t k (i + 1) h.2 j (by omega) (by omega)
/-- free, and free when it was KEPT -/
def eP (A Ak : Nat → Nat → Nat) (x : Nat) : Bool := decide (A 17 x = 0) && decide (Ak 17 x = 0)
theorem x_wasSet {B T S C W Ls na hb : Nat} {um : q_St} {D kv K : Nat → Nat → Int64} {dd : Nat → Bool} {A Ak : Nat → Nat → Nat} {nm : Nat → Int64} {L : Nat → Nat} {N : Nat} {ux : q_St} (x : Xr B T S C W Ls na hb um D K dd A nm L ux) (mm : mMap Ls Ak kv) (hD : ∀ z, 80 ≤ z → z < na → ∀ w, w < 8 → D z w = kv z w) {y : Nat} (hy : y < Ls) (h17 : Ak 17 y ≤ 1) : fX5_wasSet L N (nI y) ux = some (b2i (decide (¬ Ak 17 y = 0)), ux) := by
  obtain ⟨⟨g, gl, hna⟩, s, rx, tw⟩ := id x
  have hl := g.l
  have m := mm y (by omega)
  have hd : decide (y < Ls) = true := decide_eq_true hy
  rw [hd, Bool.true_and] at m
  have cw := x_cword (N := N) (w := y % 512 / 64) g gl s (x := 80 + y / 512) (by omega) (by omega)
  rw [hD _ (by omega) (by omega) _ (by omega)] at cw
  unfold fX5_wasSet
  rw [show nI y / (512 : Int32) = nI (y / 512) from pk_div (d := 512) (by omega) (by decide) (by decide), show (80 : Int32) + nI (y / 512) = nI (80 + y / 512) from nI_add 80 _, show nI (y / 512) * (512 : Int32) = nI (y / 512 * 512) from pk_mul _ 512, pk_sub (by omega), show y - y / 512 * 512 = y % 512 by omega, show nI (y % 512) / (64 : Int32) = nI (y % 512 / 64) from pk_div (d := 64) (by omega) (by decide) (by decide), cw, qb_s, show nI y / (64 : Int32) = nI (y / 64) from pk_div (d := 64) (by omega) (by decide) (by decide), show nI (y / 64) * (64 : Int32) = nI (y / 64 * 64) from pk_mul _ 64, pk_sub (by omega), show y - y / 64 * 64 = y % 64 by omega]
  by_cases c : Ak 17 y = 0
  · rw [decide_eq_false (fun z => by rw [c] at z; omega)] at m
    rw [if_pos ((lg_cmp_eq _ _).mpr ((bit_0 (by omega)).mpr m)), decide_eq_false (fun z => z c)]
    rfl
  · rw [decide_eq_true (show Ak 17 y = 1 by omega)] at m
    rw [if_neg (fun z => by
      have := (bit_0 (by omega)).mp ((lg_cmp_eq _ _).mp z)
      rw [m] at this
      cases this), decide_eq_true c]
    rfl
theorem x_bandFree {B T S C W Ls na hb b : Nat} {um : q_St} {D kv K : Nat → Nat → Int64} {dd : Nat → Bool} {A Ak : Nat → Nat → Nat} {nm : Nat → Int64} {L : Nat → Nat} {N : Nat} {ux : q_St} (x : Xr B T S C W Ls na hb um D K dd A nm L ux) (hN : 3000 ≤ N) (mm : mMap Ls Ak kv) (hD : ∀ z, 80 ≤ z → z < na → ∀ w, w < 8 → D z w = kv z w) (h17 : ∀ y, Ak 17 y ≤ 1) (hb2 : b * W + W ≤ Ls) : fX5_isBandFree L N (nI b) ux = some (b2i (allB (eP A Ak) W (b * W)), ux) := by
  obtain ⟨⟨g, gl, hna⟩, s, rx, tw⟩ := id x
  have hl := g.l
  have hw := g.w
  have e26 := s.1.gx.2.2.2.2.2.2.2.1
  have key : ∀ (k i m : Nat), i + k = b * W + W → k < m → q_lp (fX5_isBandFree_b9 L N) (fun _ _ _ => none) m (nI (b * W)) (nI i) ux = some (b2i (allB (eP A Ak) k i), ux) := by
    intro k
    induction k with
    | zero =>
      intro i m q1 q2
      rw [lp_1 _ _ (by omega), fX5_isBandFree_b9, e26, nI_add, if_pos (nI_le (by omega) (by omega))]
      rfl
    | succ k ih =>
      intro i m q1 q2
      have e : allB (eP A Ak) (k + 1) i = (eP A Ak i && allB (eP A Ak) k (i + 1)) := rfl
      rw [lp_1 _ _ (by omega), fX5_isBandFree_b9, e26, nI_add, if_neg (nI_ge (by omega) (by omega)), x_isFree x (by omega), qb_s, e]
      unfold eP
      by_cases c1 : A 17 i = 0
      · rw [decide_eq_true c1, b2i_t, if_neg (by decide), x_wasSet x mm hD (by omega) (h17 i), qb_s]
        by_cases c2 : Ak 17 i = 0
        · rw [decide_eq_true c2, decide_eq_false (fun z => z c2), b2i_f, if_pos rfl, qn_s, nI_1, ih (i + 1) (m - 1) (by omega) (by omega)]
          rfl
        · rw [decide_eq_false c2, decide_eq_true c2, b2i_t, if_neg (by decide)]
          rfl
      · rw [decide_eq_false c1, b2i_f, if_pos rfl]
        rfl
  unfold fX5_isBandFree
  rw [e26, pk_mul, qn_s]
  exact key W (b * W) N rfl (by omega)
theorem m_bandFree {B T S C W Ls b : Nat} {A Ak : Nat → Nat → Nat} {nm nk : Nat → Int64} {N : Nat} {um : q_St} (g : Geo B T S C W Ls) (hN : 3000 ≤ N) (rm : RM Ls A nm (q_a um) (q_j um 0)) (rk : RM Ls Ak nk (fun k => q_a um (k + 14)) (q_j um 1)) (e4 : q_i um 4 = nI W) (h17 : ∀ y, A 17 y ≤ 1 ∧ Ak 17 y ≤ 1) (hb2 : b * W + W ≤ Ls) (hcl : ¬ nI b = q_i um 19) : fX11_isEmptyBand N (nI b) um = some (b2i (allB (eP A Ak) W (b * W)), um) := by
  have hl := g.l
  have hw := g.w
  have hm : (nI b + 1) * nI W = nI (b * W + W) := by rw [nI_1, pk_mul, Nat.succ_mul]
  have flag0 : ∀ (i m : Nat), 0 < m → q_lp (fX11_isEmptyBand_b21 N) (fun _ _ _ _ => none) m (nI b) 0 (nI i) um = some (0, um) := by
    intro i m h
    have ez : q_rz 0 um = some (0, um) := by unfold q_rz; rw [if_pos (Or.inl rfl)]
    rw [lp_1 _ _ h, fX11_isEmptyBand_b21, if_pos rfl, ez]
    split <;> rfl
  have key : ∀ (k i m : Nat), i + k = b * W + W → k + 1 < m → q_lp (fX11_isEmptyBand_b21 N) (fun _ _ _ _ => none) m (nI b) 1 (nI i) um = some (b2i (allB (eP A Ak) k i), um) := by
    intro k
    induction k with
    | zero =>
      intro i m q1 q2
      rw [lp_1 _ _ (by omega), fX11_isEmptyBand_b21, e4, hm, if_pos (nI_le (by omega) (by omega))]
      unfold q_rz
      rw [if_pos (Or.inr rfl)]
      rfl
    | succ k ih =>
      intro i m q1 q2
      have e : allB (eP A Ak) (k + 1) i = (eP A Ak i && allB (eP A Ak) k (i + 1)) := rfl
      have r1 := rm.2.2.2.2.2.2.1 i (by omega)
      have r2 : q_a um 31 i = nI (Ak 17 i) := rk.2.2.2.2.2.2.1 i (by omega)
      have h1 := h17 i
      rw [lp_1 _ _ (by omega), fX11_isEmptyBand_b21, e4, hm, if_neg (nI_ge (by omega) (by omega)), if_neg (by decide), qr_n (by omega) (by omega), r1, e]
      unfold fX11_isEmptyBand_b59 fX11_isEmptyBand_b60 eP
      by_cases c1 : A 17 i = 0
      · rw [decide_eq_true c1, if_pos (by rw [c1]; rfl), qr_n (by omega) (by omega), r2]
        by_cases c2 : Ak 17 i = 0
        · rw [decide_eq_true c2, if_pos (by rw [c2]; rfl), qn_s, nI_1, ih (i + 1) (m - 1) (by omega) (by omega)]
          rfl
        · rw [decide_eq_false c2, if_neg (nI_ne0 (by omega) (by omega)), qn_s, nI_1, flag0 _ _ (by omega)]
          rfl
      · rw [decide_eq_false c1, if_neg (nI_ne0 (by omega) (by omega)), qn_s, nI_1, flag0 _ _ (by omega)]
        rfl
  unfold fX11_isEmptyBand fX11_isEmptyBand_b13
  rw [if_neg hcl, e4, pk_mul, qn_s]
  exact key W (b * W) N rfl (by omega)
theorem m_bandClean {B T S C W Ls b : Nat} {N : Nat} {um : q_St} (g : Geo B T S C W Ls) (hN : 3000 ≤ N) (e4 : q_i um 4 = nI W) (hcl : nI b = q_i um 19) : fX11_isEmptyBand N (nI b) um = some (0, um) := by
  have ez : q_rz 0 um = some (0, um) := by unfold q_rz; rw [if_pos (Or.inl rfl)]
  unfold fX11_isEmptyBand fX11_isEmptyBand_b13
  rw [if_pos hcl, e4, pk_mul, qn_s, lp_1 _ _ (by omega), fX11_isEmptyBand_b21, if_pos rfl, ez]
  split <;> rfl
/-- which band, in both -/
theorem l_bandTo {B T S C W Ls na hb : Nat} {D kv : Nat → Nat → Int64} {Ak : Nat → Nat → Nat} {nk : Nat → Int64} {K : Nat → Nat → Int64} {dd : Nat → Bool} {A : Nat → Nat → Nat} {nm : Nat → Int64} {L : Nat → Nat} {N : Nat} {ux um : q_St} (t : Tn B T S C W Ls na hb D kv Ak nk K dd A nm ux um) (g : Geo B T S C W Ls) (gl : gL B C W Ls L) (hna : na = 80 + (Ls + 511) / 512) (hN : 3000 ≤ N) :
    (fX10_bandToLay L N ux = some (-1, ux) ∧ fX11_emptyBand N um = some (-1, um)) ∨ (∃ b, b < B ∧ fX10_bandToLay L N ux = some (nI b, ux) ∧ fX11_emptyBand N um = some (nI b, um) ∧ ¬ q_i um 19 = nI b ∧ ∀ x, x / W = b → A 17 x = 0 ∧ Ak 17 x = 0) := by
  have hl := g.l
  have hw := g.w
  have x := t.x g gl hna
  obtain ⟨al, h7, dh, xs, ms, h80, rm, tw, rx, nb⟩ := id t
  have gm := al.1.gm
  have rk := al.2.2.1
  have twk := al.2.2.2.1
  have rxk := al.2.2.2.2.1
  have hBL : Ls = B * W := g.2.2.2.2.2
  have hB := g.1
  have eb := VV_band al.1
  have hD : ∀ z, 80 ≤ z → z < na → ∀ w, w < 8 → D z w = kv z w := by
    intro z z1 z2 w hw2
    refine dh z z1 (by omega) ?_ w hw2
    have : q_a um 31 z = nI (Ak 17 z) := rk.2.2.2.2.2.2.1 z (by omega)
    rw [this, twk.2.2.1.2.2.2 z (by omega)]
    decide
  have key : ∀ (b m m2 : Nat), b < B → b + 1 < m → b + 1 < m2 → (q_lp (fX10_bandToLay_b11 L N) (fun _ _ => none) m (nI b) ux = some (-1, ux) ∧ q_lp (fX11_emptyBand_b7 N) (fun _ _ => none) m2 (nI b) um = some (-1, um)) ∨ (∃ b', b' < B ∧ q_lp (fX10_bandToLay_b11 L N) (fun _ _ => none) m (nI b) ux = some (nI b', ux) ∧ q_lp (fX11_emptyBand_b7 N) (fun _ _ => none) m2 (nI b) um = some (nI b', um) ∧ ¬ q_i um 19 = nI b' ∧ ∀ x, x / W = b' → A 17 x = 0 ∧ Ak 17 x = 0) := by
    intro b
    induction b with
    | zero =>
      intro m m2 q0 q1 q2
      have z1 : q_lp (fX10_bandToLay_b11 L N) (fun _ _ => none) (m - 1) (nI 0 + (-1)) ux = some (-1, ux) := by
        rw [lp_1 _ _ (by omega), fX10_bandToLay_b11, if_pos (by decide)]
      have z2 : q_lp (fX11_emptyBand_b7 N) (fun _ _ => none) (m2 - 1) (nI 0 + (-1)) um = some (-1, um) := by
        rw [lp_1 _ _ (by omega), fX11_emptyBand_b7, if_pos (by decide)]
        rfl
      rw [lp_1 _ _ (by omega), fX10_bandToLay_b11, if_neg (nI_pos (by omega)), lp_1 (fX11_emptyBand_b7 N) _ (n := m2) (by omega), fX11_emptyBand_b7, if_neg (nI_pos (by omega)), eb]
      unfold fX10_bandToLay_b39
      by_cases cc : nI 0 = q_i um 19
      · left
        rw [if_pos cc, m_bandClean g hN gm.2.2.2.2.1 cc, qb_s, if_pos rfl, qn_s, qn_s]
        exact ⟨z1, z2⟩
      · rw [if_neg cc, x_bandFree x hN rxk.1 hD (fun y => twk.1.2.2.2.2.2.2.2 y) (by omega), qb_s, m_bandFree g hN rm rk gm.2.2.2.2.1 (fun y => ⟨tw.1.2.2.2.2.2.2.2 y, twk.1.2.2.2.2.2.2.2 y⟩) (by omega) cc, qb_s]
        cases ha : allB (eP A Ak) W (0 * W) with
        | false =>
          left
          rw [b2i_f, if_pos rfl, if_pos rfl, qn_s, qn_s]
          exact ⟨z1, z2⟩
        | true =>
          right
          rw [b2i_t, if_neg (by decide), if_neg (by decide)]
          refine ⟨0, q0, rfl, rfl, fun z => cc z.symm, fun z hz => ?_⟩
          have := allB_t W (0 * W) ha z (by omega) (by
            have := Nat.div_add_mod z W
            have := Nat.mod_lt z (show 0 < W by omega)
            rw [hz, Nat.mul_zero] at *
            omega)
          unfold eP at this
          simpa using this
    | succ b ih =>
      intro m m2 q0 q1 q2
      have e1 : nI (b + 1) + (-1) = nI b := by
        rw [← Int32.sub_eq_add_neg]
        exact pk_sub (a := b + 1) (b := 1) (by omega)
      have hbW : (b + 1) * W + W ≤ Ls := by
        have : (b + 1 + 1) * W ≤ B * W := Nat.mul_le_mul_right W (by omega)
        rw [Nat.succ_mul] at this
        omega
      rw [lp_1 _ _ (by omega), fX10_bandToLay_b11, if_neg (nI_pos (by omega)), lp_1 (fX11_emptyBand_b7 N) _ (n := m2) (by omega), fX11_emptyBand_b7, if_neg (nI_pos (by omega)), eb]
      unfold fX10_bandToLay_b39
      by_cases cc : nI (b + 1) = q_i um 19
      · rw [if_pos cc, m_bandClean g hN gm.2.2.2.2.1 cc, qb_s, if_pos rfl, qn_s, qn_s, e1]
        exact ih (m - 1) (m2 - 1) (by omega) (by omega) (by omega)
      · rw [if_neg cc, x_bandFree x hN rxk.1 hD (fun y => twk.1.2.2.2.2.2.2.2 y) hbW, qb_s, m_bandFree g hN rm rk gm.2.2.2.2.1 (fun y => ⟨tw.1.2.2.2.2.2.2.2 y, twk.1.2.2.2.2.2.2.2 y⟩) hbW cc, qb_s]
        cases ha : allB (eP A Ak) W ((b + 1) * W) with
        | false =>
          rw [b2i_f, if_pos rfl, if_pos rfl, qn_s, qn_s, e1]
          exact ih (m - 1) (m2 - 1) (by omega) (by omega) (by omega)
        | true =>
          right
          rw [b2i_t, if_neg (by decide), if_neg (by decide)]
          refine ⟨b + 1, q0, rfl, rfl, fun z => cc z.symm, fun z hz => ?_⟩
          have d1 := Nat.div_add_mod z W
          have d2 := Nat.mod_lt z (show 0 < W by omega)
          rw [hz, Nat.mul_comm] at d1
          have := allB_t W ((b + 1) * W) ha z (by omega) (by omega)
          unfold eP at this
          simpa using this
  have l2 : L 2 = B := gl.2.2.1
  unfold fX10_bandToLay fX11_emptyBand
  rw [l2, gm.1, show nI B - (1 : Int32) = nI (B - 1) from pk_sub (b := 1) (by omega), qn_s, qn_s]
  exact key (B - 1) N N (by omega) (by omega) (by omega)
