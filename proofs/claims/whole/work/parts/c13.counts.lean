/-! ===== mark, where, scrub, count ===== -/
theorem p_mark {B T S C W Ls na : Nat} {L : Nat → Nat} {N : Nat} (g : Geo B T S C W Ls) (gl : gL B C W Ls L) (hna : na = 80 + (Ls + 511) / 512) : st_mark (Iv B T S C W Ls na) L N := by
  intro k ux um x0 hk h
  obtain ⟨a1, a2, a3, a4, a5, a6⟩ := id g
  refine rd_only (off := -99) g gl hna h (fun q1 q2 => ?_) (fun hb D K dd A nm q1 q2 x rm wh ms => ?_)
  · unfold fX10_mark fX11_mark
    rw [if_pos q1, if_pos q2]
    exact ⟨rfl, rfl⟩
  · obtain ⟨h0, t, cl, hhb, hv, -⟩ := x.2.1.1
    have vr := hv.2.2.1
    have gm := hv.1.2
    unfold fX10_mark fX11_mark fX10_mark_b29 fX11_mark_b22
    rw [q1, q2, if_neg (show ¬ (1 : Int32) = 0 by decide), if_neg (show ¬ (1 : Int32) = 0 by decide), gl.2.2.1, gm.1]
    by_cases c0 : x0 < 0
    · rw [if_pos c0, if_pos c0]
      exact ⟨_, rfl, rfl⟩
    · rw [if_neg c0, if_neg c0]
      by_cases c1 : x0 < nI B
      · obtain ⟨b, hb2, e⟩ := i_nat c0 c1 (by omega)
        subst e
        rw [if_pos c1, if_pos c1, qr_n hb2 (by omega), qr_n (by omega) (by omega), vr.2.2.2.2 b hb2]
        exact ⟨_, rfl, rfl⟩
      · rw [if_neg c1, if_neg c1]
        exact ⟨_, rfl, rfl⟩
theorem p_where {B T S C W Ls na : Nat} {L : Nat → Nat} {N : Nat} (g : Geo B T S C W Ls) (gl : gL B C W Ls L) (hna : na = 80 + (Ls + 511) / 512) : st_where (Iv B T S C W Ls na) L N := by
  intro k ux um x0 hk h
  have hl := g.l
  have hwd := g.w
  obtain ⟨a1, a2, a3, a4, a5, a6⟩ := id g
  refine rd_only (off := -99) g gl hna h (fun q1 q2 => ?_) (fun hb D K dd A nm q1 q2 x rm wh ms => ?_)
  · unfold fX10_where fX11_where
    rw [if_pos q1, if_pos q2]
    exact ⟨rfl, rfl⟩
  · obtain ⟨h0, t, cl, hhb, hv, -⟩ := x.2.1.1
    obtain ⟨⟨gx, gm⟩, vw, vr, cr, lr, kr, vc, e1, e2, e3, e4⟩ := id hv
    have hh := vw.2.2.2.2.1
    have ht := vw.2.2.1
    unfold fX10_where fX11_where fX10_where_b28
    rw [q1, q2, if_neg (show ¬ (1 : Int32) = 0 by decide), if_neg (show ¬ (1 : Int32) = 0 by decide), gx.2.2.2.2.1, gm.2.2.2.2.2.1]
    by_cases c0 : x0 < 0
    · rw [if_pos c0, if_pos c0]
      exact ⟨_, rfl, rfl⟩
    · rw [if_neg c0, if_neg c0]
      by_cases c1 : x0 < nI Ls
      · obtain ⟨y, hy, e⟩ := i_nat c0 c1 (by omega)
        subst e
        have hbd := g.band hy
        obtain ⟨mk, mk1, mk2⟩ := vw.2.2.2.2.2.2.2 (y / W) hbd
        unfold fX8_liveEntryOf
        rw [if_pos c1, if_pos c1, if_neg c0, gl.2.2.2.2.1, if_pos c1, qr_n hy (by omega), vr.2.2.2.1 y hy, gx.2.2.2.1, qd_n (by omega) (by omega), pk_div (by omega) (by omega) (by omega), qn_s, vr.2.1, vw.2.1, gl.2.2.1, if_neg (nI_ge hbd (by omega)), qr_n hbd (by omega), vr.2.2.2.2 _ hbd, mk2, qr_n (by omega) (by omega), qr_n (by omega) (by omega)]
        rcases vw.2.2.2.2.2.2.1 y hy with z | ⟨q, hq, z⟩
        · rw [z, if_pos (m1_lt t (by omega)), if_pos rfl, qb_s]
          exact ⟨_, rfl, rfl⟩
        · rw [z, if_neg (m1_ne q (by omega))]
          by_cases ct : q < t
          · have hz : fX11_isLive N (nI q) um = some (0, um) := by
              have ho := vw.ho (by omega) hl.2 q
              have hm := Nat.mod_lt q (show 0 < C by omega)
              unfold fX11_isLive
              rw [gm.2.2.2.1, gm.2.2.2.2.1, vw.1, vw.2.1, rem_n (by omega) (by omega) (by omega), qd_n (by omega) (by omega), qr_n (by omega) (by omega), if_pos (nI_lt ct (by omega))]
            rw [if_pos (nI_lt ct (by omega)), hz, qb_s, qb_s, if_pos rfl]
            exact ⟨_, rfl, rfl⟩
          · have hho := e2 y hy q (by omega) hq z
            rw [if_neg (nI_nlt (by omega) (by omega)), m_isLive g gm vw (by omega) hq, qb_s]
            unfold lvm
            rw [hho, z, mk2]
            by_cases cm : q < mk
            · have n1 : nI q < nI mk := nI_lt cm (by omega)
              rw [if_pos n1, qb_s]
              simp only [n1]
              exact ⟨_, rfl, rfl⟩
            · have n1 : ¬ nI q < nI mk := nI_nlt (by omega) (by omega)
              rw [if_neg n1, qb_s]
              have : b2i (decide (nI q = nI q) && decide (¬ nI q < nI mk)) = 1 := by simp [n1, b2i]
              rw [this, if_neg (by decide), qr_n (by omega) (by omega), z]
              exact ⟨_, rfl, rfl⟩
      · rw [if_neg c1, if_neg c1]
        exact ⟨_, rfl, rfl⟩
theorem bit_0 {r : Int64} {s : Nat} (hs : s < 64) : (q_lush r (nI s)) &&& 1 = 0 ↔ bt r s = false := by
  have e : uN ((q_lush r (nI s)) &&& 1) = (uN r >>> s) % 2 := by
    rw [uN_and, uN_lush _ hs, show uN 1 = 2 ^ 1 - 1 from by decide +kernel, Nat.and_two_pow_sub_one_eq_mod]
  have e2 : bt r s = decide ((uN r >>> s) % 2 = 1) := by
    unfold bt
    have := Nat.testBit_shiftRight (uN r) (i := s) (j := 0)
    rw [Nat.add_zero] at this
    rw [← this, Nat.testBit_zero]
  rw [← uN_z, e, e2]
  constructor
  · intro h
    rw [h]; rfl
  · intro h
    have := of_decide_eq_false h
    omega
theorem x_isSet {B T S C W Ls hb : Nat} {um : q_St} {D K : Nat → Nat → Int64} {dd : Nat → Bool} {A : Nat → Nat → Nat} {L : Nat → Nat} {N : Nat} {ux : q_St} (g : Geo B T S C W Ls) (gl : gL B C W Ls L) (s : XS B T S C W Ls hb um D K dd ux) (mm : mMap Ls A K) {x : Nat} (hx : x < Ls) : fX5_isSet L N (nI x) ux = some (b2i (decide (A 17 x = 1)), ux) := by
  have hl := g.l
  have m := mm x (by omega)
  have hd : decide (x < Ls) = true := decide_eq_true hx
  rw [hd, Bool.true_and] at m
  unfold fX5_isSet
  rw [show nI x / (512 : Int32) = nI (x / 512) from pk_div (d := 512) (by omega) (by decide) (by decide), show (80 : Int32) + nI (x / 512) = nI (80 + x / 512) from nI_add 80 _, show nI (x / 512) * (512 : Int32) = nI (x / 512 * 512) from pk_mul _ 512, pk_sub (by omega), show x - x / 512 * 512 = x % 512 by omega, show nI (x % 512) / (64 : Int32) = nI (x % 512 / 64) from pk_div (d := 64) (by omega) (by decide) (by decide), x_word g gl s (by omega) (by omega), qb_s, show nI x / (64 : Int32) = nI (x / 64) from pk_div (d := 64) (by omega) (by decide) (by decide), show nI (x / 64) * (64 : Int32) = nI (x / 64 * 64) from pk_mul _ 64, pk_sub (by omega), show x - x / 64 * 64 = x % 64 by omega]
  cases hb2 : decide (A 17 x = 1) with
  | false =>
    rw [hb2] at m
    rw [if_pos ((lg_cmp_eq _ _).mpr ((bit_0 (by omega)).mpr m))]
    rfl
  | true =>
    rw [hb2] at m
    rw [if_neg (fun z => by
      have := (bit_0 (by omega)).mp ((lg_cmp_eq _ _).mp z)
      rw [m] at this
      cases this)]
    rfl
theorem x_isFree {B T S C W Ls na hb : Nat} {um : q_St} {D K : Nat → Nat → Int64} {dd : Nat → Bool} {A : Nat → Nat → Nat} {nm : Nat → Int64} {L : Nat → Nat} {N : Nat} {ux : q_St} (x : Xr B T S C W Ls na hb um D K dd A nm L ux) {y : Nat} (hy : y < Ls) : fX5_isFree L N (nI y) ux = some (b2i (decide (A 17 y = 0)), ux) := by
  obtain ⟨⟨g, gl, hna⟩, s, rx, tw⟩ := id x
  have hl := g.l
  have gx := s.1.gx
  have h17 := tw.1.2.2.2.2.2.2.2 y
  unfold fX5_isFree
  rw [gx.2.2.2.2.2.2.2.2.2.2.1, gx.2.2.2.2.2.2.1]
  by_cases c : y < 144 + (Ls + 511) / 512
  · have := tw.2.2.1.2.2.2 y (by omega)
    rw [if_pos (nI_lt c (by omega)), this]
    rfl
  · rw [if_neg (nI_nlt (by omega) (by omega)), if_neg (nI_ge hy (by omega)), x_isSet g gl s rx.1 hy, qb_s]
    by_cases c0 : A 17 y = 0
    · rw [c0]; rfl
    · have : A 17 y = 1 := by omega
      rw [this]; rfl
theorem p_scrub {B T S C W Ls na : Nat} {L : Nat → Nat} {N : Nat} (g : Geo B T S C W Ls) (gl : gL B C W Ls L) (hna : na = 80 + (Ls + 511) / 512) (hN : 3000 ≤ N) : st_scrub (Iv B T S C W Ls na) L N := by
  intro k ux um hk h
  have hl := g.l
  refine rd_only (off := -99) g gl hna h (fun q1 q2 => ?_) (fun hb D K dd A nm q1 q2 x rm wh ms => ?_)
  · unfold fX10_scrub fX11_scrub
    rw [if_pos q1, if_pos q2]
    exact ⟨rfl, rfl⟩
  · have gx := x.2.1.1.gx
    have gm := x.2.1.1.gm
    have tw := x.2.2.2
    have h17 := tw.1.2.2.2.2.2.2.2
    have key : ∀ (k y n : Nat), y + k = Ls → k < n → q_lp (fX10_scrub_b17 L N) (fun _ _ _ => none) n (nI (uC A y)) (nI y) ux = some (nI (uC A Ls), ux) := by
      intro k
      induction k with
      | zero =>
        intro y n h1 h2
        have : y = Ls := by omega
        subst this
        rw [lp_1 _ _ (by omega), fX10_scrub_b17, gx.2.2.2.2.1, if_pos (nI_le (by omega) (by omega))]
      | succ k ih =>
        intro y n h1 h2
        have h1y := h17 y
        have e : uC A (y + 1) = uC A y + if decide (A 17 y = 1) = true then 1 else 0 := rfl
        have ihh := ih (y + 1) (n - 1) (by omega) (by omega)
        rw [lp_1 _ _ (by omega), fX10_scrub_b17, gx.2.2.2.2.1, if_neg (nI_ge (by omega) (by omega)), x_isFree x (by omega), qb_s]
        unfold fX10_scrub_b51
        by_cases c : A 17 y = 0
        · rw [c, if_neg (by decide), qn_s, nI_1]
          rw [e, c] at ihh
          exact ihh
        · have c1 : A 17 y = 1 := by omega
          obtain ⟨sp, p1, p2, p3⟩ := v_spot (N := N) g gl x.2.1.1 (show y < Ls by omega)
          rw [c1, if_pos (by decide), p1, qb_s, qn_s, nI_1, qn_s, nI_1]
          rw [e, c1] at ihh
          exact ihh
    have hle : uC A Ls ≤ Ls := cnt_le _ _
    have k0 : q_lp (fX10_scrub_b17 L N) (fun _ _ _ => none) N 0 0 ux = some (nI (uC A Ls), ux) := key Ls 0 N (by omega) (by omega)
    unfold fX10_scrub fX11_scrub
    rw [q1, q2, if_neg (show ¬ (1 : Int32) = 0 by decide), if_neg (show ¬ (1 : Int32) = 0 by decide), k0, m_freeBlocks (fb := na + 64) hN hl.2 (by omega) rm gm.2.2.2.2.2.1 (by rw [gm.2.2.2.2.2.2.1]; congr 1; omega) h17 tw.2.2.1.2.2.2, qb_s, gm.2.2.2.2.2.1, pk_sub (by omega), show Ls - (Ls - uC A Ls) = uC A Ls by omega]
    exact ⟨_, rfl, rfl⟩
