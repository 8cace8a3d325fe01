/-! ===== walk ===== -/
theorem l_next {B T S C W Ls na hb : Nat} {um : q_St} {D K : Nat → Nat → Int64} {dd : Nat → Bool} {A : Nat → Nat → Nat} {nm : Nat → Int64} {L : Nat → Nat} {N : Nat} {len dp pt here : Nat} {b : Nat → Nat} {u w : q_St} {s : Nat → Option Nat} {nx : Nat → Nat} (hN : 3000 ≤ N) (xx : WX B T S C W Ls na hb um D K dd A nm L len b u) (xm : WM Ls A nm len b w) (h40 : ∀ n, n < 64 → A 5 n = 4 → A 6 n ≤ 40) (r : WR A len s nx (dp + 1) pt here u w) :
    ∃ v z fr to nx' dp', fX9_nextPart L N u = some ((), v) ∧ fX11_part N (nI here) w = fX11_part_b93 N (nI here) (sI (s dp)) (nI fr) (nI to) z ∧ WR A len s nx' dp' pt here v z ∧ q_i v 37 = sI (s dp) ∧ q_i v 38 = nI fr ∧ q_i v 39 = nI to ∧ fr ≤ to ∧ to ≤ Wsz A len (s dp) ∧ sM A len s nx' dp' + 1 ≤ sM A len s nx (dp + 1) ∧ Fr [34, 35, 36, 37, 38, 39, 40] [7, 10, 11, 12, 13, 14] [4] u v ∧ Fr [29, 31] [36, 37] [] w z := by
  obtain ⟨r1, r2, r3, r4, r5, r6, r7, r8, r9⟩ := r
  obtain ⟨t1, t2, t3, t4, t5, t6⟩ := r9 dp (by omega)
  have hs := (W_bd xx t1).1
  have gl := xx.1.1.2.1
  have l15 : L 15 = 9 := gl.2.2.2.2.2.2.2.2.2.2.2.2.2.2.2.1
  have l16 : L 16 = 9 := gl.2.2.2.2.2.2.2.2.2.2.2.2.2.2.2.2.1
  obtain ⟨fr, hfr⟩ : ∃ q, q = nx dp := ⟨_, rfl⟩
  obtain ⟨sz, hsz⟩ : ∃ q, q = Wsz A len (s dp) := ⟨_, rfl⟩
  rw [← hfr] at t2 t4 t6
  rw [← hsz] at t2 hs
  obtain ⟨u3, hu3⟩ : ∃ q, q = q_si u 37 (sI (s dp)) := ⟨_, rfl⟩
  obtain ⟨u5, hu5⟩ : ∃ q, q = q_si u3 38 (nI fr) := ⟨_, rfl⟩
  obtain ⟨u9, hu9⟩ : ∃ q, q = q_si u5 39 (nI fr) := ⟨_, rfl⟩
  have f3 : Fr [37, 38, 39] [] [] u u3 := by rw [hu3]; exact fr_si1 _ (by decide)
  have f5 : Fr [37, 38, 39] [] [] u u5 := f3.trans (by rw [hu5]; exact fr_si1 _ (by decide))
  have f9 : Fr [37, 38, 39] [] [] u u9 := f5.trans (by rw [hu9]; exact fr_si1 _ (by decide))
  have i37 : q_i u5 37 = sI (s dp) := by rw [hu5, qi_ne (by decide), hu3]; exact qi_eq
  have i38 : q_i u5 38 = nI fr := by rw [hu5]; exact qi_eq
  have j37 : q_i u9 37 = sI (s dp) := by rw [hu9, qi_ne (by decide)]; exact i37
  have j38 : q_i u9 38 = nI fr := by rw [hu9, qi_ne (by decide)]; exact i38
  have xx5 := WX_fr xx (f5.mono (by decide) (by decide) (by decide))
  have xx9 := WX_fr xx (f9.mono (by decide) (by decide) (by decide))
  obtain ⟨to, v, o1, o2, o3, o4, o5, o6⟩ := l_scan (N := N) (x1 := nI dp) (y1 := nI here) (y3 := nI fr) xm h40 t1 hsz (sz - fr) fr N N u9 (by omega) (by omega) (by omega) xx9 j37 (by rw [hu9]; exact qi_eq)
  have fv : Fr [37, 38, 39] [] [] u v := f9.trans (o6.mono (by decide) (by decide) (by decide))
  obtain ⟨v1, hv1⟩ : ∃ q, q = q_sa v 11 (upd (q_a v 11) dp (nI (to + 1))) := ⟨_, rfl⟩
  have fv1 : Fr [34, 37, 38, 39] [11] [] u v1 := (fv.mono (by decide) (by decide) (by decide)).trans (by rw [hv1]; exact fr_sa1 _ (by decide))
  have hx : fX9_nextPart L N u = fX9_nextPart_b126 L N (nI dp) (nI sz) v := by
    have b79 : fX9_nextPart_b79 L N (nI dp) (nI sz) u5 = fX9_nextPart_b126 L N (nI dp) (nI sz) v := by
      unfold fX9_nextPart_b79
      rw [i38, ← hu9, qn_s]
      exact o3
    unfold fX9_nextPart
    rw [r1, show nI (dp + 1) - (1 : Int32) = nI (dp + 1 - 1) from pk_sub (b := 1) (by omega), show dp + 1 - 1 = dp from rfl, qn_s, if_neg (nI_pos (by omega)), l15, l16, if_neg (nI_ge (by omega) (by decide)), if_pos (nI_lt (by omega) (by decide)), qr_n (by omega) (by decide), t3, qn_s, ← hu3, qr_n (by omega) (by decide), show q_a u3 11 = q_a u 11 from f3.2.1 11 (by decide), t4, qn_s, ← hu5, i37, xx5.2.1]
    cases hsd : s dp with
    | none =>
      rw [hsd] at hsz
      have hsz : sz = len := hsz
      show (if sI none = (-1 : Int32) then _ else _) = _
      rw [if_pos (show sI none = (-1 : Int32) from rfl), ← hsz]
      exact b79
    | some n =>
      rw [hsd] at hsz t1
      have hsz : sz = A 6 n := hsz
      have k4 : A 5 n = 4 := t1.2
      show (if sI (some n) = (-1 : Int32) then _ else _) = _
      rw [if_neg (show ¬ sI (some n) = (-1 : Int32) from m1_ne n (by have := t1.1; omega)), show sI (some n) = nI n from rfl, x_lengthOf xx5.1 t1.1 (by omega), qb_s, if_pos (Or.inr k4), ← hsz]
      exact b79
  have hm : fX11_part N (nI here) w = fX11_part_b55 N (nI here) (sI (s dp)) (nI fr) (nI to) w := by
    unfold fX11_part
    rw [r2, show nI (dp + 1) - (1 : Int32) = nI (dp + 1 - 1) from pk_sub (b := 1) (by omega), show dp + 1 - 1 = dp from rfl, qr_n (by omega) (by decide), t5, qr_n (by omega) (by decide), t6]
    exact o4
  have b126 : fX9_nextPart_b126 L N (nI dp) (nI sz) v = if to < sz then some ((), v1) else some ((), q_si v1 34 (nI dp)) := by
    unfold fX9_nextPart_b126
    rw [l16, qw_n (by omega) (by decide), cl_n (by omega), o5, nI_1, ← hv1, show q_i v1 39 = nI to from by rw [hv1]; exact o5]
    by_cases c : to < sz
    · rw [if_pos c, if_pos (nI_lt c (by omega))]
    · rw [if_neg c, if_neg (nI_nlt (by omega) (by omega)), qn_s]
  have a11 : ∀ i, q_a v1 11 i = upd (q_a u 11) dp (nI (to + 1)) i := fun i => by rw [hv1, qa_eq, fv.2.1 11 (by decide)]
  have e7 : q_i v1 37 = sI (s dp) := by rw [hv1]; exact (o6.1 37 (by decide)).trans j37
  have e8 : q_i v1 38 = nI fr := by rw [hv1]; exact (o6.1 38 (by decide)).trans j38
  have e9 : q_i v1 39 = nI to := by rw [hv1]; exact o5
  have e34 : q_i v1 34 = nI (dp + 1) := by
    have : q_i v1 34 = q_i v 34 := by rw [hv1]; rfl
    rw [this, fv.1 34 (by decide)]
    exact r1
  by_cases c : to < sz
  · obtain ⟨w1, hw1⟩ : ∃ q, q = q_sa w 37 (upd (q_a w 37) dp (nI (to + 1))) := ⟨_, rfl⟩
    have fw1 : Fr [29, 31] [36, 37] [] w w1 := by rw [hw1]; exact fr_sa1 _ (by decide)
    refine ⟨v1, w1, fr, to, fun i => if i = dp then to + 1 else nx i, dp + 1, by rw [hx, b126, if_pos c], ?_, ⟨e34, ?_, (fv1.1 35 (by decide)).trans r3, ?_, (fv1.1 36 (by decide)).trans r5, r6, r7, r8, fun i hi => ?_⟩, e7, e8, e9, o1, by rw [← hsz]; exact o2, ?_, fv1.mono (by decide) (by decide) (by decide), fw1⟩
    · rw [hm]
      unfold fX11_part_b55
      rw [m_wsz xm t1, qb_s, ← hsz, if_neg (fun z => by have := nI_inj (by omega) (by omega) z; omega), r2, show nI (dp + 1) - (1 : Int32) = nI (dp + 1 - 1) from pk_sub (b := 1) (by omega), show dp + 1 - 1 = dp from rfl, qw_n (by omega) (by decide), cl_n (by omega), nI_1, ← hw1]
    · rw [hw1]; exact r2
    · rw [hw1]; exact r4
    · have q36 : q_a w1 36 i = q_a w 36 i := by rw [hw1, qa_ne (by decide)]
      have q37 : q_a w1 37 i = upd (q_a w 37) dp (nI (to + 1)) i := by rw [hw1, qa_eq]
      rw [fv1.2.1 10 (by decide), a11, q36, q37]
      by_cases ci : i = dp
      · subst ci
        rw [up_s, up_s]
        simp only [if_true]
        exact ⟨t1, by rw [← hsz]; omega, t3, trivial, t5, trivial⟩
      · rw [up_n ci, up_n ci]
        simp only [if_neg ci]
        exact r9 i hi
    · simp only [sM, if_true]
      rw [sM_cg (s := s) (nx := nx) dp (fun i hi => by
        have : i ≠ dp := by omega
        simp only [if_neg this]
        exact ⟨trivial, trivial⟩), ← hsz, ← hfr]
      omega
  · have fz : Fr [34] [] [] v1 (q_si v1 34 (nI dp)) := fr_si1 _ (by decide)
    have fw : Fr [29, 31] [36, 37] [] w (q_si w 29 (nI dp)) := fr_si1 _ (by decide)
    refine ⟨q_si v1 34 (nI dp), q_si w 29 (nI dp), fr, to, nx, dp, by rw [hx, b126, if_neg c], ?_, ⟨qi_eq, qi_eq, ?_, ?_, ?_, r6, by omega, r8, fun i hi => ?_⟩, ?_, ?_, ?_, o1, by rw [← hsz]; exact o2, ?_, (fv1.trans (fz.mono (by decide) (by decide) (by decide))).mono (by decide) (by decide) (by decide), fw⟩
    · rw [hm]
      unfold fX11_part_b55
      rw [m_wsz xm t1, qb_s, ← hsz, if_pos (show nI to = nI sz by rw [show to = sz by omega]), r2, show nI (dp + 1) - (1 : Int32) = nI (dp + 1 - 1) from pk_sub (b := 1) (by omega), show dp + 1 - 1 = dp from rfl, qn_s]
    · rw [qi_ne (by decide)]; exact (fv1.1 35 (by decide)).trans r3
    · rw [qi_ne (by decide)]; exact r4
    · rw [qi_ne (by decide)]; exact (fv1.1 36 (by decide)).trans r5
    · rw [qa_si, qa_si, qa_si, qa_si, fv1.2.1 10 (by decide), a11, up_n (show i ≠ dp by omega)]
      exact r9 i (by omega)
    · rw [qi_ne (by decide)]; exact e7
    · rw [qi_ne (by decide)]; exact e8
    · rw [qi_ne (by decide)]; exact e9
    · simp only [sM]
      rw [← hsz, ← hfr]
      omega
theorem l_follow {B T S C W Ls na hb : Nat} {um : q_St} {D K : Nat → Nat → Int64} {dd : Nat → Bool} {A : Nat → Nat → Nat} {nm : Nat → Int64} {L : Nat → Nat} {N : Nat} {len : Nat} {b : Nat → Nat} {x2 : Int32} (hN : 3000 ≤ N) (h40 : ∀ n, n < 64 → A 5 n = 4 → A 6 n ≤ 40) :
    ∀ (M c m m2 : Nat) (s : Nat → Option Nat) (nx : Nat → Nat) (dp pt here : Nat) (u w : q_St), sM A len s nx dp + 41 * (8 - pt) ≤ M → M + c ≤ 4096 → M < m → M < m2 → WX B T S C W Ls na hb um D K dd A nm L len b u → WM Ls A nm len b w → WR A len s nx dp pt here u w → x2 = q_i w 28 →
    ∃ r v z, q_lp (fX9_follow_b22 L N) (fun _ _ _ => none) m x2 (nI c) u = some (r, v) ∧ q_lp (fX11_walk_b51 N) (fun _ _ => none) m2 (nI here) w = some (r, z) ∧ Fr [34, 35, 36, 37, 38, 39, 40] [7, 10, 11, 12, 13, 14] [4] u v ∧ Fr [29, 31] [36, 37] [] w z := by
  have stop : ∀ (c m m2 : Nat) (s : Nat → Option Nat) (nx : Nat → Nat) (pt here : Nat) (u w : q_St), c ≤ 4096 → 0 < m → 0 < m2 → WR A len s nx 0 pt here u w → ∃ r v z, q_lp (fX9_follow_b22 L N) (fun _ _ _ => none) m x2 (nI c) u = some (r, v) ∧ q_lp (fX11_walk_b51 N) (fun _ _ => none) m2 (nI here) w = some (r, z) ∧ Fr [34, 35, 36, 37, 38, 39, 40] [7, 10, 11, 12, 13, 14] [4] u v ∧ Fr [29, 31] [36, 37] [] w z := by
    intro c m m2 s nx pt here u w hc h1 h2 wr
    refine ⟨nI here, u, w, ?_, ?_, Fr.rf _ _ _ _, Fr.rf _ _ _ _⟩
    · rw [lp_1 _ _ h1, fX9_follow_b22, wr.1, if_pos (show nI 0 ≤ (0 : Int32) by decide)]
      unfold fX9_follow_b61
      rw [wr.2.2.2.2.1]
      split <;> rfl
    · rw [lp_1 _ _ h2, fX11_walk_b51, wr.2.1, if_pos (show nI 0 ≤ (0 : Int32) by decide)]
  intro M
  induction M with
  | zero =>
    intro c m m2 s nx dp pt here u w h1 h2 h3 h4 xx xm wr e
    cases dp with
    | zero => exact stop c m m2 s nx pt here u w (by omega) (by omega) (by omega) wr
    | succ dp =>
      exfalso
      have := (wr.2.2.2.2.2.2.2.2 dp (by omega)).2.1
      simp only [sM] at h1
      omega
  | succ M ih =>
    intro c m m2 s nx dp pt here u w h1 h2 h3 h4 xx xm wr e
    cases dp with
    | zero => exact stop c m m2 s nx pt here u w (by omega) (by omega) (by omega) wr
    | succ dp =>
      obtain ⟨v, z, fr, to, nx', dp', a1, a2, a3, a4, a5, a6, a7, a8, a9, a10, a11⟩ := l_next (N := N) hN xx xm h40 wr
      have t1 := (wr.2.2.2.2.2.2.2.2 dp (by omega)).1
      have hdp := wr.2.2.2.2.2.2.1
      have hpt := wr.2.2.2.2.2.2.2.1
      have xx2 := WX_fr xx a10
      have xm2 := WM_fr xm a11
      have hst : q_lp (fX9_follow_b22 L N) (fun _ _ _ => none) m x2 (nI c) u = q_bnd (fX9_goPart L N x2 v) (fun r10 u11 => if r10 = 0 then q_lp (fX9_follow_b22 L N) (fun _ _ _ => none) (m - 1) x2 (nI (c + 1)) u11 else some (r10, u11)) := by
        rw [lp_1 _ _ (by omega), fX9_follow_b22, if_neg (show ¬ (4096 : Int32) ≤ nI c from nI_ge (b := 4096) (by omega) (by decide)), wr.1, if_neg (show ¬ nI (dp + 1) ≤ (0 : Int32) from nI_ge (a := 0) (by omega) (by omega)), a1, qb_s]
        simp only [nI_1]
        rfl
      have hsm : q_lp (fX11_walk_b51 N) (fun _ _ => none) m2 (nI here) w = q_bnd (fX11_part_b93 N (nI here) (sI (s dp)) (nI fr) (nI to) z) (fun r11 u12 => q_lp (fX11_walk_b51 N) (fun _ _ => none) (m2 - 1) r11 u12) := by
        rw [lp_1 _ _ (by omega), fX11_walk_b51, wr.2.1, if_neg (show ¬ nI (dp + 1) ≤ (0 : Int32) from nI_ge (a := 0) (by omega) (by omega)), if_neg (nI_pos (by have := wr.2.2.2.2.2.1; omega)), a2]
      rcases l_go hN xx2 xm2 h40 a3 a4 a5 a6 t1 a7 a8 (e.trans (a11.1 28 (by decide)).symm) with ⟨er, v2, z2, g1, g2, g3, g4, g5, g6⟩ | ⟨v2, z2, here', s', nx2, dp2, pt2, g1, g2, g3, g4, g5, g6⟩
      · refine ⟨er, v2, z2, ?_, ?_, a10.trans g5, a11.trans g6⟩
        · rw [hst, g1, qb_s, if_neg g4]
        · rw [hsm, g2, qb_s, lp_1 _ _ (by omega), fX11_walk_b51, if_pos g3]
          split <;> rfl
      · obtain ⟨rr, v3, z3, k1, k2, k3, k4⟩ := ih (c + 1) (m - 1) (m2 - 1) s' nx2 dp2 pt2 here' v2 z2 (by omega) (by omega) (by omega) (by omega) (WX_fr xx2 g5) (WM_fr xm2 g6) g3 (e.trans ((a11.trans g6).1 28 (by decide)).symm)
        refine ⟨rr, v3, z3, ?_, ?_, (a10.trans g5).trans k3, (a11.trans g6).trans k4⟩
        · rw [hst, g1, qb_s, if_pos rfl]; exact k1
        · rw [hsm, g2, qb_s]; exact k2
theorem p_walk {B T S C W Ls na : Nat} {L : Nat → Nat} {N : Nat} (g : Geo B T S C W Ls) (gl : gL B C W Ls L) (hna : na = 80 + (Ls + 511) / 512) (hN : 140000 ≤ N) : st_walk (Iq B T S C W Ls na) L N := by
  intro k ux um x0 hk h
  obtain ⟨u1, hu1⟩ : ∃ q, q = q_si um 30 (q_i um 27) := ⟨_, rfl⟩
  have fq : Fr [29, 30, 31] [36, 37] [] um u1 := by rw [hu1]; exact fr_si1 _ (by decide)
  have h1 : Iq B T S C W Ls na k ux u1 := ⟨Iv_sc h.1 (Fr.rf _ _ _ _) fq, h.2.trans (fq.1 27 (by decide)).symm⟩
  obtain ⟨len, n1, n2, n3, n4, hI⟩ := tp_beg h1
  obtain ⟨u2, hu2⟩ : ∃ q, q = q_si u1 27 0 := ⟨_, rfl⟩
  rw [← hu2] at hI
  have i27 : q_i u2 27 = 0 := by rw [hu2]; exact qi_eq
  have i30 : q_i u2 30 = nI len := by
    rw [hu2, qi_ne (by decide), hu1]
    have e : q_i u1 27 = q_i um 27 := fq.1 27 (by decide)
    rw [← e, n2]
    exact qi_eq
  have i35 : q_a u2 35 = q_a u1 35 := by rw [hu2]; rfl
  have e9 := Iv_on hI
  obtain ⟨sm, D, kv, Ak, nk, al, on⟩ := id hI
  unfold fX10_walk fX11_walk fX10_walk_b42 fX10_walk_b43
  rw [← hu1, qn_s, qn_s, ← hu2, qn_s]
  rcases on with q | ⟨q1, h7, dh, K, dd, A, nm, xs, ms, c75, h80, rm, tw, rx, nb⟩
  · rw [if_pos q, if_pos (e9.trans q)]
    exact ⟨_, _, u2, rfl, rfl, fin_tp (Iv_up hI) i27⟩
  · subst q1
    rw [if_neg (show ¬ q_i ux 7 = 0 by rw [h7]; decide), if_neg (show ¬ q_i u2 9 = 0 by rw [e9, h7]; decide)]
    have x : Xr B T S C W Ls na (300 * k) u2 D K dd A nm L ux := ⟨⟨g, gl, hna⟩, xs, rx, tw⟩
    have wh := al.2.2.2.2.2.2.2
    have fin : ∀ r vx vm, Fr [34, 35, 36, 37, 38, 39, 40] [7, 10, 11, 12, 13, 14] [4] ux vx → Fr [29, 31] [36, 37] [] u2 vm → ∃ (r' : Int32) (v z : q_St), (q_nm (q_si vx 32 0) (fun u1 => some (r, u1))) = some (r', v) ∧ some (r, vm) = some (r', z) ∧ Iq B T S C W Ls na (k + 1) v z := by
      intro r vx vm a1 a2
      rw [qn_s]
      exact ⟨_, _, vm, rfl, rfl, fin_tp (Iv_up (Iv_sc hI a1 (a2.mono (by decide) (by decide) (by decide)))) ((a2.1 27 (by decide)).trans i27)⟩
    rcases nod x0 with ⟨n, hn, e⟩ | e
    · subst e
      have hk4 := x.k4 hn
      rw [x_kindOf x hn, qb_s, m_isDir rm hn hk4, qb_s]
      by_cases c2 : A 5 n = 2
      · rw [if_pos (show nI (A 5 n) = (2 : Int32) by rw [c2]; rfl), if_pos c2, if_neg (by decide)]
        obtain ⟨v1, hv1⟩ : ∃ q, q = q_si ux 34 0 := ⟨_, rfl⟩
        obtain ⟨v2, hv2⟩ : ∃ q, q = q_si v1 35 0 := ⟨_, rfl⟩
        obtain ⟨v3, hv3⟩ : ∃ q, q = q_si v2 36 (nI n) := ⟨_, rfl⟩
        have fv : Fr [34, 35, 36, 37, 38, 39, 40] [7, 10, 11, 12, 13, 14] [4] ux v3 := by
          have a1 : Fr [34, 35, 36, 37, 38, 39, 40] [7, 10, 11, 12, 13, 14] [4] ux v1 := by rw [hv1]; exact fr_si1 _ (by decide)
          have a2 : Fr [34, 35, 36, 37, 38, 39, 40] [7, 10, 11, 12, 13, 14] [4] v1 v2 := by rw [hv2]; exact fr_si1 _ (by decide)
          have a3 : Fr [34, 35, 36, 37, 38, 39, 40] [7, 10, 11, 12, 13, 14] [4] v2 v3 := by rw [hv3]; exact fr_si1 _ (by decide)
          exact (a1.trans a2).trans a3
        obtain ⟨w1, hw1⟩ : ∃ q, q = q_si u2 29 0 := ⟨_, rfl⟩
        obtain ⟨w2, hw2⟩ : ∃ q, q = q_si w1 31 0 := ⟨_, rfl⟩
        have fw : Fr [29, 31] [36, 37] [] u2 w2 := by
          have a1 : Fr [29, 31] [36, 37] [] u2 w1 := by rw [hw1]; exact fr_si1 _ (by decide)
          have a2 : Fr [29, 31] [36, 37] [] w1 w2 := by rw [hw2]; exact fr_si1 _ (by decide)
          exact a1.trans a2
        have h40 : ∀ n, n < 64 → A 5 n = 4 → A 6 n ≤ 40 := fun n hn h4 => (tw.1.2.2.2.1 n hn h4).2
        have xx : WX B T S C W Ls na (300 * k) u2 D K dd A nm L len (tb ux) v3 := WX_fr ⟨x, n3, n1, fun i hi => ⟨(n4 i hi).1, (n4 i hi).2.1⟩⟩ fv
        have xm : WM Ls A nm len (tb ux) w2 := WM_fr ⟨rm, i30, fun i hi => by rw [i35]; exact (n4 i hi).2.2⟩ fw
        have wr : WR A len (fun _ => none) (fun _ => 0) 0 0 n v3 w2 := by
          refine ⟨?_, ?_, ?_, ?_, ?_, hn, by omega, by omega, fun i hi => absurd hi (Nat.not_lt_zero _)⟩
          · rw [hv3, qi_ne (by decide), hv2, qi_ne (by decide), hv1]; exact qi_eq
          · rw [hw2, qi_ne (by decide), hw1]; exact qi_eq
          · rw [hv3, qi_ne (by decide), hv2]; exact qi_eq
          · rw [hw2]; exact qi_eq
          · rw [hv3]; exact qi_eq
        obtain ⟨v, z, here', s', nx', y1, y2, y3, y4, y5, y6⟩ := l_begin (N := N) (sn := none) xx xm h40 wr (by omega) trivial
        have y1 : fX9_begin L N (-1) v3 = some ((), v) := y1
        have y2 : fX11_begin N (-1) (nI n) w2 = some (nI here', z) := y2
        have y4 : sM A len s' nx' 1 = 0 + len + 1 := y4
        obtain ⟨rr, vx, vm, k1, k2, k3, k4⟩ := l_follow (N := N) (x2 := q_i ux 0) (by omega) h40 (len + 1 + 41 * 8) 0 N N s' nx' 1 0 here' v z (by omega) (by omega) (by omega) (by omega) (WX_fr xx y5) (WM_fr xm y6) y3 (by rw [y6.1 28 (by decide), fw.1 28 (by decide)]; exact wh.1)
        unfold fX9_follow
        rw [← hv1, qn_s, ← hv2, qn_s, ← hv3, qn_s, y1, qb_s, ← hw1, qn_s, ← hw2, qn_s, y2, qb_s]
        have k1 : q_lp (fX9_follow_b22 L N) (fun _ _ _ => none) N (q_i ux 0) 0 v = some (rr, vx) := k1
        rw [k1, k2, qb_s]
        exact fin rr vx vm ((fv.trans y5).trans k3) ((fw.trans y6).trans k4)
      · rw [if_neg (show ¬ nI (A 5 n) = (2 : Int32) from nI_k (b := 2) hk4 (by decide) c2), if_neg c2, if_pos rfl]
        exact fin _ ux u2 (Fr.rf _ _ _ _) (Fr.rf _ _ _ _)
    · rw [x_kindOut e, qb_s, m_isDirOut e, qb_s, if_neg (by decide), if_pos rfl]
      exact fin _ ux u2 (Fr.rf _ _ _ _) (Fr.rf _ _ _ _)
