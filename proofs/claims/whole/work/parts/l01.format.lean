/-! ===== the start: what the class writes ===== -/
theorem sa_id {u : q_St} {k : Nat} {a : Nat → Int32} (h : q_a u k = a) : q_sa u k a = u := by
  unfold q_sa
  refine Prod.ext rfl (Prod.ext ?_ rfl)
  funext j
  show (if j = k then a else u.2.1 j) = u.2.1 j
  by_cases c : j = k
  · rw [if_pos c, ← h, c]; rfl
  · rw [if_neg c]
theorem sj_id {u : q_St} {k : Nat} {a : Nat → Int64} (h : q_j u k = a) : q_sj u k a = u := by
  unfold q_sj
  refine Prod.ext rfl (Prod.ext rfl ?_)
  funext j
  show (if j = k then a else u.2.2 j) = u.2.2 j
  by_cases c : j = k
  · rw [if_pos c, ← h, c]; rfl
  · rw [if_neg c]
/-- no SECTOR has an ENTRY -/
def lF (i : Nat) : Nat → Int32 := fun j => if j < i then -1 else 0
theorem lF_1 {i : Nat} : upd (lF i) i (-1) = lF (i + 1) := by
  funext j
  exact fl_1 (g := fun _ => 0) (fun _ => rfl) j
theorem g_fill {L : Nat → Nat} {N Ls : Nat} (hL : L 0 = Ls) (h : Ls ≤ 2048) (hN : 3000 ≤ N) : fG7_fill L N (-1) q_z = some ((), q_sa q_z 0 (lF Ls)) := by
  have key : ∀ (k i m : Nat), i + k = Ls → k < m → q_lp (fG7_fill_b5 L N) (fun _ _ _ _ => none) m (-1) (nI i) (nI Ls) (q_sa q_z 0 (lF i)) = some ((), q_sa q_z 0 (lF Ls)) := by
    intro k
    induction k with
    | zero =>
      intro i m h1 h2
      have : i = Ls := by omega
      subst this
      rw [lp_1 _ _ (by omega), fG7_fill_b5, if_pos (nI_le (by omega) (by omega))]
    | succ k ih =>
      intro i m h1 h2
      rw [lp_1 _ _ (by omega), fG7_fill_b5, if_neg (nI_ge (by omega) (by omega)), hL, qw_n (by omega) (by omega), cl_n (by omega), qn_s, nI_1, qa_eq, sa_sa, lF_1]
      exact ih (i + 1) (m - 1) (by omega) (by omega)
  unfold fG7_fill
  rw [qn_s, hL]
  have := key Ls 0 N (by omega) (by omega)
  rw [sa_id (show q_a q_z 0 = lF 0 from by funext j; unfold lF; rw [if_neg (Nat.not_lt_zero _)]; rfl)] at this
  exact this
/-- the map, so far -/
def cF : Nat → Nat → Int64
  | 0 => fun _ => 0
  | i + 1 => vp_updL (cF i) (640 + i / 64) (cF i (640 + i / 64) ||| q_lshl 1 (nI (i % 64)))
theorem cF_o : ∀ (i k : Nat), (k < 640 ∨ 640 + (i + 63) / 64 ≤ k) → cF i k = 0
  | 0, k, _ => rfl
  | i + 1, k, h => by
    have e : cF (i + 1) = vp_updL (cF i) (640 + i / 64) (cF i (640 + i / 64) ||| q_lshl 1 (nI (i % 64))) := rfl
    rw [e, upL_n (by omega)]
    exact cF_o i k (by omega)
theorem cF_b : ∀ (i y z : Nat), z < 64 → bt (cF i (640 + y)) z = decide (64 * y + z < i)
  | 0, y, z, _ => by
    have e : cF 0 (640 + y) = 0 := rfl
    rw [e, decide_eq_false (Nat.not_lt_zero _)]
    unfold bt
    rw [uN_0, Nat.zero_testBit]
  | i + 1, y, z, hz => by
    have e : cF (i + 1) = vp_updL (cF i) (640 + i / 64) (cF i (640 + i / 64) ||| q_lshl 1 (nI (i % 64))) := rfl
    have hs : i % 64 < 64 := Nat.mod_lt _ (by decide)
    rw [e]
    by_cases c : y = i / 64
    · rw [c, upL_s, bt_or, cF_b i (i / 64) z hz, bt_lshl 1 hs hz, bt_one, Bool.eq_iff_iff, Bool.or_eq_true, Bool.and_eq_true, decide_eq_true_iff, decide_eq_true_iff, decide_eq_true_iff, decide_eq_true_iff]
      omega
    · rw [upL_n (by omega), cF_b i y z hz, Bool.eq_iff_iff, decide_eq_true_iff, decide_eq_true_iff]
      omega
theorem f_format {L : Nat → Nat} {N M fb na Ls : Nat} {u : q_St} (hL : L 0 = M) (hM : M < 2 ^ 31) (hN : 3000 ≤ N) (hf : fb ≤ 2048) (h1 : 640 + fb / 64 < M) (h2 : na * 8 < M) (h4 : q_i u 4 = nI Ls) (h5 : na < Ls) (h6 : Ls ≤ 2048) (h0 : q_j u 0 = fun _ => 0) : fF2_format L N (nI fb) (nI na) u = some ((), q_sj u 0 (vp_updL (cF fb) (na * 8) 4128770)) := by
  have key : ∀ (k i m : Nat), i + k = fb → k < m → q_lp (fF2_format_b2 L N) (fun _ _ _ _ => none) m (nI fb) (nI na) (nI i) (q_sj u 0 (cF i)) = some ((), q_sj u 0 (vp_updL (cF fb) (na * 8) 4128770)) := by
    intro k
    induction k with
    | zero =>
      intro i m e1 e2
      have : i = fb := by omega
      subst this
      rw [lp_1 _ _ (by omega), fF2_format_b2, if_pos (nI_le (by omega) (by omega)), if_neg (nI_pos (by omega)), show q_i (q_sj u 0 (cF i)) 4 = nI Ls from h4, if_neg (nI_ge (by omega) (by omega)), hL, show nI na * (8 : Int32) = nI (na * 8) from pk_mul na 8, qw_n (by omega) (by omega), cl_n (by omega), qj_eq, sj_sj]
    | succ k ih =>
      intro i m e1 e2
      have hd : (640 : Int32) + nI i / 64 = nI (640 + i / 64) := by
        rw [show (64 : Int32) = nI 64 from rfl, pk_div (by omega) (by decide) (by decide), show (640 : Int32) = nI 640 from rfl, nI_add]
      have hr : nI i - nI i / 64 * 64 = nI (i % 64) := rem_n (d := 64) (by omega) (by decide) (by decide)
      have hlt : 640 + i / 64 < M := by omega
      rw [lp_1 _ _ (by omega), fF2_format_b2, if_neg (nI_ge (by omega) (by omega)), qn_s, hd, hL, if_neg (nI_ge hlt (by omega)), qr_n hlt hM, qw_n hlt hM, cl_n (by omega), hr, qj_eq, sj_sj]
      unfold fF2_format_b43
      rw [qn_s, nI_1]
      exact ih (i + 1) (m - 1) (by omega) (by omega)
  unfold fF2_format
  have := key fb 0 N (by omega) (by omega)
  rw [sj_id (show q_j u 0 = cF 0 from h0)] at this
  exact this
