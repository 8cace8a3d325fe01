/-! ===== count ===== -/
theorem x_lostNow {B C W Ls : Nat} {L : Nat → Nat} {N : Nat} {ux : q_St} (gl : gL B C W Ls L) (hN : 3000 ≤ N) (hl : Ls ≤ 2048) (hw : W ≤ 256) : fX2_lostNow L N ux = some (nI (cnt (fun i => !decide (q_a ux 0 i = 0)) (Ls + W)), ux) := by
  have key : ∀ (k i n : Nat), i + k = Ls + W → k < n → q_lp (fX2_lostNow_b4 L N) (fun _ _ _ => none) n (nI (cnt (fun i => !decide (q_a ux 0 i = 0)) i)) (nI i) ux = some (nI (cnt (fun i => !decide (q_a ux 0 i = 0)) (Ls + W)), ux) := by
    intro k
    induction k with
    | zero =>
      intro i n h1 h2
      have : i = Ls + W := by omega
      subst this
      rw [lp_1 _ _ (by omega), fX2_lostNow_b4, gl.2.1, if_pos (nI_le (by omega) (by omega))]
    | succ k ih =>
      intro i n h1 h2
      have ihh := ih (i + 1) (n - 1) (by omega) (by omega)
      have e : cnt (fun i => !decide (q_a ux 0 i = 0)) (i + 1) = cnt (fun i => !decide (q_a ux 0 i = 0)) i + if (!decide (q_a ux 0 i = 0)) = true then 1 else 0 := rfl
      rw [lp_1 _ _ (by omega), fX2_lostNow_b4, gl.2.1, if_neg (nI_ge (by omega) (by omega)), qr_n (by omega) (by omega)]
      unfold fX2_lostNow_b25
      by_cases c : q_a ux 0 i = 0
      · rw [if_pos c, qn_s, nI_1]
        rw [e, decide_eq_true c] at ihh
        exact ihh
      · rw [if_neg c, qn_s, nI_1, qn_s, nI_1]
        rw [e, decide_eq_false c] at ihh
        exact ihh
  unfold fX2_lostNow
  exact key (Ls + W) 0 N (by omega) (by omega)
theorem m_lost {B T S C W Ls : Nat} {N : Nat} {um : q_St} (gm : gM B T S C W Ls um) (hN : 3000 ≤ N) (hl : Ls ≤ 2048) (hw : W ≤ 256) : fX11_lost N um = some (nI (cnt (fun i => !decide (q_a um 0 i = 0)) Ls + cnt (fun i => !decide (q_a um 1 i = 0)) W), um) := by
  have k2 : ∀ (k i n : Nat), i + k = W → k < n → q_lp (fX11_lost_b37 N) (fun _ _ _ => none) n (nI (cnt (fun i => !decide (q_a um 0 i = 0)) Ls + cnt (fun i => !decide (q_a um 1 i = 0)) i)) (nI i) um = some (nI (cnt (fun i => !decide (q_a um 0 i = 0)) Ls + cnt (fun i => !decide (q_a um 1 i = 0)) W), um) := by
    intro k
    induction k with
    | zero =>
      intro i n h1 h2
      have : i = W := by omega
      subst this
      rw [lp_1 _ _ (by omega), fX11_lost_b37, gm.2.2.2.2.1, if_pos (nI_le (by omega) (by omega))]
    | succ k ih =>
      intro i n h1 h2
      have ihh := ih (i + 1) (n - 1) (by omega) (by omega)
      have e : cnt (fun i => !decide (q_a um 1 i = 0)) (i + 1) = cnt (fun i => !decide (q_a um 1 i = 0)) i + if (!decide (q_a um 1 i = 0)) = true then 1 else 0 := rfl
      rw [lp_1 _ _ (by omega), fX11_lost_b37, gm.2.2.2.2.1, if_neg (nI_ge (by omega) (by omega)), qr_n (by omega) (by omega)]
      unfold fX11_lost_b60
      by_cases c : q_a um 1 i = 0
      · rw [if_pos c, qn_s, i32_add0, qn_s, nI_1]
        rw [e, decide_eq_true c] at ihh
        exact ihh
      · rw [if_neg c, qn_s, nI_1, qn_s, nI_1]
        rw [e, decide_eq_false c, ← Nat.add_assoc] at ihh
        exact ihh
  have k1 : ∀ (k i n : Nat), i + k = Ls → k < n → q_lp (fX11_lost_b4 N) (fun _ _ _ => none) n (nI (cnt (fun i => !decide (q_a um 0 i = 0)) i)) (nI i) um = some (nI (cnt (fun i => !decide (q_a um 0 i = 0)) Ls + cnt (fun i => !decide (q_a um 1 i = 0)) W), um) := by
    intro k
    induction k with
    | zero =>
      intro i n h1 h2
      have : i = Ls := by omega
      subst this
      rw [lp_1 _ _ (by omega), fX11_lost_b4, gm.2.2.2.2.2.1, if_pos (nI_le (by omega) (by omega))]
      exact k2 W 0 N (by omega) (by omega)
    | succ k ih =>
      intro i n h1 h2
      have ihh := ih (i + 1) (n - 1) (by omega) (by omega)
      have e : cnt (fun i => !decide (q_a um 0 i = 0)) (i + 1) = cnt (fun i => !decide (q_a um 0 i = 0)) i + if (!decide (q_a um 0 i = 0)) = true then 1 else 0 := rfl
      rw [lp_1 _ _ (by omega), fX11_lost_b4, gm.2.2.2.2.2.1, if_neg (nI_ge (by omega) (by omega)), qr_n (by omega) (by omega)]
      unfold fX11_lost_b27
      by_cases c : q_a um 0 i = 0
      · rw [if_pos c, qn_s, i32_add0, qn_s, nI_1]
        rw [e, decide_eq_true c] at ihh
        exact ihh
      · rw [if_neg c, qn_s, nI_1, qn_s, nI_1]
        rw [e, decide_eq_false c] at ihh
        exact ihh
  unfold fX11_lost
  exact k1 Ls 0 N (by omega) (by omega)
theorem x_live {B T S C W Ls h t : Nat} {L : Nat → Nat} {N : Nat} {ux um : q_St} (g : Geo B T S C W Ls) (gl : gL B C W Ls L) (hN : 300 ≤ N) (gx : gX B T S C W Ls ux) (v : vW B C W Ls h t um) (r : vR B C W Ls ux um) : fX8_liveEntries L N ux = some (nI (cq (lvb C W um none) (h - t) t), ux) := by
  obtain ⟨a1, a2, a3, a4, a5, a6⟩ := id g
  have hh := v.2.2.2.2.1
  have e1 : q_i ux 14 = nI h := r.1.trans v.1
  have e2 : q_i ux 15 = nI t := r.2.1.trans v.2.1
  have key : ∀ k n q acc, q + k = h → k < n → acc + k < 2 ^ 28 → q_lp (fX8_liveEntries_b7 L N) (fun _ _ _ => none) n (nI acc) (nI q) ux = some (nI (acc + cq (lvb C W um none) k q), ux) := by
    intro k
    induction k with
    | zero =>
      intro n q acc h1 h2 h3
      rw [lp_1 _ _ (by omega), fX8_liveEntries_b7, e1, if_pos (nI_le (by omega) (by omega))]
      rfl
    | succ k ih =>
      intro n q acc h1 h2 h3
      have e : cq (lvb C W um none) (k + 1) q = (if lvb C W um none q = true then 1 else 0) + cq (lvb C W um none) k (q + 1) := rfl
      have el : lvb C W um none q = lvm C W um q := by unfold lvb; simp
      rw [lp_1 _ _ (by omega), fX8_liveEntries_b7, e1, if_neg (nI_ge (by omega) (by omega)), x_isLive g gl gx v r (by omega), qb_s, e, el]
      unfold fX8_liveEntries_b26
      cases hq : lvm C W um q with
      | false =>
        rw [b2i_f, if_pos rfl, qn_s, nI_1, ih (n - 1) (q + 1) acc (by omega) (by omega) (by omega)]
        simp
      | true =>
        rw [b2i_t, if_neg (by decide), qn_s, nI_1, qn_s, nI_1, ih (n - 1) (q + 1) (acc + 1) (by omega) (by omega) (by omega), if_pos rfl, Nat.add_assoc]
  unfold fX8_liveEntries
  have h9 := v.2.2.1
  have h10 := v.2.2.2.1
  rw [e2, qn_s]
  have := key (h - t) N t 0 (by omega) (by omega) (by omega)
  rw [Nat.zero_add] at this
  exact this
theorem x_freeNodes {B T S C W Ls na hb : Nat} {um : q_St} {D K : Nat → Nat → Int64} {dd : Nat → Bool} {A : Nat → Nat → Nat} {nm : Nat → Int64} {L : Nat → Nat} {N : Nat} {ux : q_St} (x : Xr B T S C W Ls na hb um D K dd A nm L ux) (hN : 300 ≤ N) : fX4_freeCount L N ux = some (nI (cnt (fun n => decide (A 5 n = 0)) 64), ux) := by
  have key : ∀ (k i n : Nat), i + k = 64 → k < n → q_lp (fX4_freeCount_b4 L N) (fun _ _ _ => none) n (nI (cnt (fun n => decide (A 5 n = 0)) i)) (nI i) ux = some (nI (cnt (fun n => decide (A 5 n = 0)) 64), ux) := by
    intro k
    induction k with
    | zero =>
      intro i n h1 h2
      have : i = 64 := by omega
      subst this
      rw [lp_1 _ _ (by omega), fX4_freeCount_b4, if_pos (by decide)]
    | succ k ih =>
      intro i n h1 h2
      have ihh := ih (i + 1) (n - 1) (by omega) (by omega)
      have h5 := x.k4 (show i < 64 by omega)
      have e : cnt (fun n => decide (A 5 n = 0)) (i + 1) = cnt (fun n => decide (A 5 n = 0)) i + if decide (A 5 i = 0) = true then 1 else 0 := rfl
      rw [lp_1 _ _ (by omega), fX4_freeCount_b4, if_neg (show ¬ (64 : Int32) ≤ nI i from nI_ge (a := i) (b := 64) (by omega) (by omega)), x_kindOf x (by omega), qb_s]
      unfold fX4_freeCount_b21
      by_cases c : A 5 i = 0
      · rw [c, if_pos (show nI 0 = (0 : Int32) from rfl), qn_s, nI_1, qn_s, nI_1]
        rw [e, decide_eq_true c] at ihh
        exact ihh
      · rw [if_neg (nI_ne0 (by omega) (by omega)), qn_s, nI_1]
        rw [e, decide_eq_false c] at ihh
        exact ihh
  unfold fX4_freeCount
  exact key 64 0 N (by omega) (by omega)
theorem m_freeNodes {Ls : Nat} {A : Nat → Nat → Nat} {nm : Nat → Int64} {N : Nat} {um : q_St} (r : RM Ls A nm (q_a um) (q_j um 0)) (hN : 300 ≤ N) (h5 : ∀ n, n < 64 → A 5 n ≤ 4) : fX11_freeNodes N um = some (nI (cnt (fun n => decide (A 5 n = 0)) 64), um) := by
  have key : ∀ (k i n : Nat), i + k = 64 → k < n → q_lp (fX11_freeNodes_b4 N) (fun _ _ _ => none) n (nI (cnt (fun n => decide (A 5 n = 0)) i)) (nI i) um = some (nI (cnt (fun n => decide (A 5 n = 0)) 64), um) := by
    intro k
    induction k with
    | zero =>
      intro i n h1 h2
      have : i = 64 := by omega
      subst this
      rw [lp_1 _ _ (by omega), fX11_freeNodes_b4, if_pos (by decide)]
    | succ k ih =>
      intro i n h1 h2
      have ihh := ih (i + 1) (n - 1) (by omega) (by omega)
      have h := h5 i (by omega)
      have e : cnt (fun n => decide (A 5 n = 0)) (i + 1) = cnt (fun n => decide (A 5 n = 0)) i + if decide (A 5 i = 0) = true then 1 else 0 := rfl
      rw [lp_1 _ _ (by omega), fX11_freeNodes_b4, if_neg (show ¬ (64 : Int32) ≤ nI i from nI_ge (a := i) (b := 64) (by omega) (by omega)), qr_n (by omega) (by omega), r.r7 (by decide) (by omega)]
      unfold fX11_freeNodes_b25
      by_cases c : A 5 i = 0
      · rw [c, if_pos (show nI 0 = (0 : Int32) from rfl), qn_s, nI_1, qn_s, nI_1]
        rw [e, decide_eq_true c] at ihh
        exact ihh
      · rw [if_neg (nI_ne0 (by omega) (by omega)), qn_s, i32_add0, qn_s, nI_1]
        rw [e, decide_eq_false c] at ihh
        exact ihh
  unfold fX11_freeNodes
  exact key 64 0 N (by omega) (by omega)
theorem p_count {B T S C W Ls na : Nat} {L : Nat → Nat} {N : Nat} (g : Geo B T S C W Ls) (gl : gL B C W Ls L) (hna : na = 80 + (Ls + 511) / 512) (hN : 3000 ≤ N) : st_count (Iv B T S C W Ls na) L N := by
  intro k ux um o hk h
  have hl := g.l
  have hw := g.w
  obtain ⟨sm, D, kv, Ak, nk, al, on⟩ := id h
  have cr := al.1.cr
  have gx := al.1.gx
  have gm := al.1.gm
  have lost : fX2_lostNow L N ux = some (nI (cnt (fun i => !decide (q_a ux 0 i = 0)) (Ls + W)), ux) ∧ fX11_lost N um = some (nI (cnt (fun i => !decide (q_a ux 0 i = 0)) (Ls + W)), um) := by
    refine ⟨x_lostNow gl hN hl.2 hw.2, ?_⟩
    rw [m_lost gm hN hl.2 hw.2, cnt_add]
    obtain ⟨h0, t, cl, hhb, hv, -⟩ := al.1
    have lr := hv.2.2.2.2.1
    have e1 : cnt (fun i => !decide (q_a um 0 i = 0)) Ls = cnt (fun i => !decide (q_a ux 0 i = 0)) Ls := cnt_congr (fun i hi => by rw [lr.1 i hi])
    have e2 : cnt (fun i => !decide (q_a um 1 i = 0)) W = cnt (fun i => (fun i => !decide (q_a ux 0 i = 0)) (Ls + i)) W := cnt_congr (fun i hi => by rw [← lr.2 i hi])
    rw [e1, e2]
  have fin : (∃ r, fX10_count L N o ux = some (r, ux) ∧ fX11_count N o um = some (r, um)) → ∃ r vx vm, fX10_count L N o ux = some (r, vx) ∧ fX11_count N o um = some (r, vm) ∧ Iv B T S C W Ls na (k + 1) vx vm := fun ⟨r, q1, q2⟩ => ⟨r, ux, um, q1, q2, Iv_up h⟩
  refine fin ?_
  unfold fX10_count fX11_count
  by_cases c0 : o = 0
  · rw [if_pos c0, if_pos c0, cr.2.2.1]; exact ⟨_, rfl, rfl⟩
  rw [if_neg c0, if_neg c0]
  by_cases c1 : o = 1
  · rw [if_pos c1, if_pos c1, cr.2.2.2.1]; exact ⟨_, rfl, rfl⟩
  rw [if_neg c1, if_neg c1]
  by_cases c2 : o = 2
  · rw [if_pos c2, if_pos c2, cr.2.2.2.2.1]; exact ⟨_, rfl, rfl⟩
  rw [if_neg c2, if_neg c2]
  by_cases c3 : o = 3
  · rw [if_pos c3, if_pos c3, cr.2.2.2.2.2.1]; exact ⟨_, rfl, rfl⟩
  rw [if_neg c3, if_neg c3]
  by_cases c4 : o = 4
  · rw [if_pos c4, if_pos c4, cr.2.2.2.2.2.2.1]; exact ⟨_, rfl, rfl⟩
  rw [if_neg c4, if_neg c4]
  by_cases c10 : o = 10
  · rw [if_pos c10, if_pos c10, cr.2.2.2.2.2.2.2.1]; exact ⟨_, rfl, rfl⟩
  rw [if_neg c10, if_neg c10]
  by_cases c11 : o = 11
  · rw [if_pos c11, if_pos c11, cr.2.2.2.2.2.2.2.2]; exact ⟨_, rfl, rfl⟩
  rw [if_neg c11, if_neg c11]
  by_cases c12 : o = 12
  · rw [if_pos c12, if_pos c12, lost.1, lost.2, qb_s, qb_s]; exact ⟨_, rfl, rfl⟩
  rw [if_neg c12, if_neg c12]
  by_cases c13 : o = 13
  · rw [if_pos c13, if_pos c13, gx.2.2.2.2.1, gm.2.2.2.2.2.1]; exact ⟨_, rfl, rfl⟩
  rw [if_neg c13, if_neg c13, Iv_on h]
  rcases on with q | ⟨q1, h7, dh, K, dd, A, nm, xs, ms, c75, h80, rm, tw, rx, nb⟩
  · rw [if_pos q, if_pos q]; exact ⟨_, rfl, rfl⟩
  · subst q1
    have x : Xr B T S C W Ls na (300 * k) um D K dd A nm L ux := ⟨⟨g, gl, hna⟩, xs, rx, tw⟩
    obtain ⟨h0, t, cl, hhb, hv, -⟩ := id xs.1
    obtain ⟨-, vw, vr, -, lr, kr, -⟩ := id hv
    rw [h7, if_neg (show ¬ (1 : Int32) = 0 by decide), if_neg (show ¬ (1 : Int32) = 0 by decide)]
    unfold fX10_countInMemory fX11_now
    by_cases c5 : o = 5
    · obtain ⟨f1, f2⟩ := l_free (L := L) (N := N) hv
      rw [if_pos c5, if_pos c5, f1, f2, qb_s, qb_s, qb_s, qb_s]; exact ⟨_, rfl, rfl⟩
    rw [if_neg c5, if_neg c5]
    by_cases c6 : o = 6
    · have ml : fX11_live N (-1) um = _ := m_live (N := N) g gm vw (by omega) none (fun k e => by cases e)
      rw [if_pos c6, if_pos c6, x_live g gl (by omega) gx vw vr, ml, qb_s, qb_s, qb_s, qb_s]; exact ⟨_, rfl, rfl⟩
    rw [if_neg c6, if_neg c6]
    by_cases c7 : o = 7
    · rw [if_pos c7, if_pos c7, qb_s, qb_s, xs.2.2.1, ms.2]; exact ⟨_, rfl, rfl⟩
    rw [if_neg c7, if_neg c7]
    by_cases c8 : o = 8
    · rw [if_pos c8, if_pos c8, x_freeCount g gl (by omega) xs rx.1, m_freeBlocks (fb := na + 64) hN hl.2 (by omega) rm gm.2.2.2.2.2.1 (by rw [gm.2.2.2.2.2.2.1]; congr 1; omega) tw.1.2.2.2.2.2.2.2 tw.2.2.1.2.2.2, qb_s, qb_s, qb_s, qb_s]; exact ⟨_, rfl, rfl⟩
    rw [if_neg c8, if_neg c8]
    by_cases c9 : o = 9
    · rw [if_pos c9, if_pos c9, x_freeNodes x (by omega), m_freeNodes rm (by omega) (fun n hn => x.k4 hn), qb_s, qb_s, qb_s, qb_s]; exact ⟨_, rfl, rfl⟩
    rw [if_neg c9, if_neg c9]
    by_cases c14 : o = 14
    · have e : q_i ux 16 = q_i um 19 := by
        cases cl with
        | none => exact kr.1.1.trans kr.1.2.1.symm
        | some q => exact kr.1.1.trans kr.1.2.1.symm
      rw [if_pos c14, if_pos c14, qb_s, qb_s, e]; exact ⟨_, rfl, rfl⟩
    rw [if_neg c14, if_neg c14]
    by_cases c15 : o = 15
    · obtain ⟨n1, n2⟩ := l_nextKind (N := N) g gl (by omega) hv
      rw [if_pos c15, if_pos c15, n1, n2, qb_s, qb_s, qb_s, qb_s]; exact ⟨_, rfl, rfl⟩
    rw [if_neg c15, if_neg c15, qb_s, qb_s]
    exact ⟨_, rfl, rfl⟩
