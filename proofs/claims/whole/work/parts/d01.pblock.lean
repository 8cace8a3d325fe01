/-! ===== block, byteAt: the calls ===== -/
theorem i_pos {o : Int32} (h : ¬ o < 0) : ∃ p, p < 2 ^ 31 ∧ o = nI p := by
  have a := i_nlt.mp h
  rw [Int32.le_iff_toInt_le] at a
  have a2 : (0 : Int32).toInt = 0 := by decide
  have b := o.toInt_lt
  refine ⟨o.toInt.toNat, by omega, Int32.toInt_inj.mp ?_⟩
  rw [nI_toInt (by omega)]
  omega
/-- -1 and down -/
theorem i_neg {o : Int32} (h : o < 0) : ∃ j, j < 2 ^ 31 ∧ o = -1 - nI j := by
  rw [Int32.lt_iff_toInt_lt] at h
  have a2 : (0 : Int32).toInt = 0 := by decide
  have a1 : (-1 : Int32).toInt = -1 := by decide
  have b := o.le_toInt
  have e : (-1 - o).toInt = -1 - o.toInt := by
    rw [Int32.toInt_sub, a1]
    exact Int.bmod_eq_of_le (by omega) (by omega)
  have c0 : ¬ (-1 - o) < 0 := by
    rw [Int32.lt_iff_toInt_lt, e]
    omega
  obtain ⟨p, p1, p2⟩ := i_pos c0
  exact ⟨p, p1, by rw [← p2]; grind⟩
theorem neg_toInt {j : Nat} (h : j < 2 ^ 31) : (-1 - nI j).toInt = -1 - (j : Int) := by
  have a1 : (-1 : Int32).toInt = -1 := by decide
  rw [Int32.toInt_sub, a1, nI_toInt h]
  exact Int.bmod_eq_of_le (by omega) (by omega)
theorem neg_lt0 {j : Nat} (h : j < 2 ^ 31) : (-1 - nI j) < 0 := by
  rw [Int32.lt_iff_toInt_lt, neg_toInt h]
  have a2 : (0 : Int32).toInt = 0 := by decide
  omega
theorem fin0 {v : Nat} {u : q_St} (h : v < 2 ^ 31) : (if nI v = 0 then some ((-1 : Int32), u) else some (nI v, u)) = some (i0 v, u) := by
  unfold i0
  by_cases c : v = 0
  · rw [if_pos c, c, if_pos (show nI 0 = (0 : Int32) from rfl)]
  · rw [if_neg c, if_neg (nI_ne0 (by omega) h)]
theorem x_laidBlock {B T S C W Ls na hb : Nat} {um : q_St} {D K : Nat → Nat → Int64} {dd : Nat → Bool} {A : Nat → Nat → Nat} {nm : Nat → Int64} {L : Nat → Nat} {N : Nat} {ux : q_St} (x : Xr B T S C W Ls na hb um D K dd A nm L ux) {n p : Nat} (hn : n < 64) (h3 : A 5 n = 3) (hp : p < W) : fX0_laidBlock L N (nI n) (nI p) ux = some (nI (A 13 (12 * n) + p), ux) := by
  have mn := (x.2.2.1.2.1 n hn).2.2.2.2.1 h3
  have hw := x.1.1.w
  have e31 := x.2.1.1.gx.2.2.2.2.2.2.2.2.2.2.2.2.1
  unfold fX0_laidBlock
  rw [if_neg (nI_pos (by omega)), e31, if_pos (nI_lt hp (by omega)), x_holderOf x hn, qb_s, e31, pk_mul, nI_add, mn]
theorem x_laidOut {L : Nat → Nat} {N W p : Nat} {ux : q_St} {o : Int32} (e31 : q_i ux 31 = nI W) (hp : W ≤ p) (hp2 : p < 2 ^ 31) : fX0_laidBlock L N o (nI p) ux = some (0, ux) := by
  unfold fX0_laidBlock fX0_laidBlock_b12
  rw [if_neg (nI_pos hp2), e31, if_neg (nI_nlt hp hp2)]
theorem tl_l {A : Nat → Nat → Nat} {W n i : Nat} (h3 : A 5 n = 3) (hi : i < W) : tl A W n (1114 + i) = A 13 (12 * n) + i := by
  unfold tl
  rw [if_neg (by omega), if_neg (by omega), if_pos h3, if_pos (by omega), show 1114 + i - 1114 = i by omega]
theorem Xr.lai {B T S C W Ls na hb : Nat} {um : q_St} {D K : Nat → Nat → Int64} {dd : Nat → Bool} {A : Nat → Nat → Nat} {nm : Nat → Int64} {L : Nat → Nat} {ux : q_St} (x : Xr B T S C W Ls na hb um D K dd A nm L ux) {n i : Nat} (hn : n < 64) (h3 : A 5 n = 3) (hi : i < W) : 0 < A 13 (12 * n) ∧ A 13 (12 * n) + i < Ls ∧ mRole A nm n (1114 + i) (A 13 (12 * n) + i) (K (A 13 (12 * n) + i)) := by
  have e := tl_l (A := A) (n := n) h3 hi
  have h0 := (x.2.2.2.1.2.2.2.2.1 n hn h3).2.1
  have t3 := x.2.2.2.2.2.1.2.1 n (1114 + i) hn (by rw [e]; omega)
  have r := x.2.2.1.2.2 n (1114 + i) hn (by rw [e]; omega)
  rw [e] at t3 r
  exact ⟨by omega, t3.2.1, r⟩
theorem p_block {B T S C W Ls na : Nat} {L : Nat → Nat} {N : Nat} (g : Geo B T S C W Ls) (gl : gL B C W Ls L) (hna : na = 80 + (Ls + 511) / 512) : st_block (Iv B T S C W Ls na) L N := by
  intro k ux um x0 o hk h
  refine rd_only (off := -99) g gl hna h (fun q1 q2 => ?_) (fun hb D K dd A nm q1 q2 x rm wh ms => ?_)
  · unfold fX10_block fX11_block
    rw [if_pos q1, if_pos q2]
    exact ⟨rfl, rfl⟩
  · have hl := g.l
    have hw := g.w
    have gm := x.2.1.1.gm
    unfold fX10_block fX11_block fX0_blockOf fX0_blockOf_b24
    rw [q1, q2, if_neg (by decide), if_neg (by decide)]
    rcases nod x0 with ⟨n, hn, e⟩ | e
    · subst e
      have hk4 := x.k4 hn
      rw [x_kindOf x hn, qb_s, m_isNode rm hn hk4, qb_s]
      by_cases c0 : A 5 n = 0
      · rw [if_pos c0, c0, if_pos rfl, if_neg (by decide), if_neg (by decide), if_neg (by decide), qb_s, if_pos rfl]
        exact ⟨_, rfl, rfl⟩
      · rw [if_neg c0, if_neg (show ¬ (1 : Int32) = 0 by decide), qr_n hn (by decide), rm.r7 (by decide) hn]
        by_cases co : o < 0
        · have no : ¬ (0 : Int32) ≤ o := fun z => i_nlt.mpr z co
          rw [if_neg no, if_neg no]
          by_cases c1 : A 5 n = 1
          · have mn := (x.2.2.1.2.1 n hn).2.2.2.1 c1
            rw [c1, if_neg (show ¬ nI 1 = (2 : Int32) by decide), if_neg (show ¬ nI 1 = (3 : Int32) by decide), if_pos (show nI 1 = (1 : Int32) from rfl), if_pos (show nI 1 = (1 : Int32) from rfl)]
            obtain ⟨j, j1, j2⟩ := i_neg co
            subst j2
            have ej : ((34 : Int32) * nI n - 1) - (-1 - nI j) = nI (34 * n + j) := by
              rw [show (34 : Int32) * nI n = nI (34 * n) from pk_mul 34 n, ← nI_add]
              grind
            rw [ej]
            have le34 : (-34 : Int32) ≤ -1 - nI j ↔ j < 34 := by
              rw [Int32.le_iff_toInt_le, neg_toInt j1]
              have : (-34 : Int32).toInt = -34 := by decide
              omega
            unfold fX4_sectorOf
            by_cases c34 : j < 34
            · have hi := (x.idx hn c1 c34).1
              rw [if_pos (le34.mpr c34), qr_n (by omega) (by omega), rm.2.1 _ (by omega)]
              by_cases j0 : j = 0
              · rw [j0, if_pos (by decide), qb_s, show (16 : Int32) = nI 16 from rfl, x_hlf x hn (by decide), qb_s, qb_s, mn.2.1, Nat.add_zero, fin0 (by rw [j0] at hi; exact Nat.lt_of_lt_of_le hi (by omega))]
                exact ⟨_, rfl, rfl⟩
              · rw [if_neg (fun z => j0 (by
                  have := congrArg Int32.toInt z
                  rw [neg_toInt j1] at this
                  have a1 : (-1 : Int32).toInt = -1 := by decide
                  omega))]
                by_cases j1' : j = 1
                · rw [j1', if_pos (by decide), qb_s, show (17 : Int32) = nI 17 from rfl, x_hlf x hn (by decide), qb_s, qb_s, mn.2.2, fin0 (by rw [j1'] at hi; exact Nat.lt_of_lt_of_le hi (by omega))]
                  exact ⟨_, rfl, rfl⟩
                · rw [if_neg (fun z => j1' (by
                    have := congrArg Int32.toInt z
                    rw [neg_toInt j1] at this
                    have a1 : (-2 : Int32).toInt = -2 := by decide
                    omega)), show (-3 : Int32) - (-1 - nI j) = nI (j - 2) by
                      have : nI j = nI (j - 2) + nI 2 := by rw [nI_add, Nat.sub_add_cancel (by omega)]
                      rw [this, show nI 2 = (2 : Int32) from rfl]
                      grind, x_farIndex x hn c1 (by omega), qb_s, qb_s, show 2 + (j - 2) = j by omega, fin0 (by omega)]
                  exact ⟨_, rfl, rfl⟩
            · rw [if_neg (fun z => c34 (le34.mp z)), if_neg (fun z => c34 (by
                have := congrArg Int32.toInt z
                rw [neg_toInt j1] at this
                have a1 : (-1 : Int32).toInt = -1 := by decide
                omega)), if_neg (fun z => c34 (by
                have := congrArg Int32.toInt z
                rw [neg_toInt j1] at this
                have a1 : (-2 : Int32).toInt = -2 := by decide
                omega)), show (-3 : Int32) - (-1 - nI j) = nI (j - 2) by
                      have : nI j = nI (j - 2) + nI 2 := by rw [nI_add, Nat.sub_add_cancel (by omega)]
                      rw [this, show nI 2 = (2 : Int32) from rfl]
                      grind]
              unfold fX0_farIndex fX0_farIndex_b10
              rw [if_neg (nI_pos (by omega)), if_neg (show ¬ nI (j - 2) < 32 from nI_nlt (b := 32) (by omega) (by omega)), qb_s, qb_s, if_pos rfl]
              exact ⟨_, rfl, rfl⟩
          · have n1 : ¬ nI (A 5 n) = (1 : Int32) := nI_k (b := 1) hk4 (by decide) c1
            have er : (if (-34 : Int32) ≤ o then (if nI (A 5 n) = 1 then q_rd 2176 (q_a um 10) ((34 * nI n - 1) - o) (fun v9 => some (v9, um)) else some ((-1 : Int32), um)) else some (-1, um)) = some (-1, um) := by
              rw [if_neg n1]
              split <;> rfl
            rw [er, if_neg n1, if_pos co]
            unfold fX0_laidBlock fX0_laidBlock_b12
            rw [if_pos co]
            refine ⟨-1, ?_, rfl⟩
            by_cases c2 : nI (A 5 n) = 2
            · rw [if_pos c2, qb_s, if_pos rfl]
            · rw [if_neg c2]
              by_cases c3 : nI (A 5 n) = 3
              · rw [if_pos c3, qb_s, qb_s, if_pos rfl]
              · rw [if_neg c3, qb_s, if_pos rfl]
        · obtain ⟨p, p1, p2⟩ := i_pos co
          subst p2
          have h34 : (-34 : Int32) ≤ nI p := by
            rw [Int32.le_iff_toInt_le, nI_toInt p1]
            have : (-34 : Int32).toInt = -34 := by decide
            omega
          have h0p : (0 : Int32) ≤ nI p := nI_le (a := 0) (by omega) p1
          rw [if_pos h34, if_pos h0p, if_pos h0p, if_neg co]
          by_cases c3 : A 5 n = 3
          · rw [c3, if_neg (show ¬ nI 3 = (2 : Int32) by decide), if_pos (show nI 3 = (3 : Int32) from rfl), if_pos (show nI 3 = (3 : Int32) from rfl), gm.2.2.2.2.1]
            by_cases cw : p < W
            · have hx := x.lai hn c3 cw
              rw [x_laidBlock x hn c3 cw, qb_s, qb_s, if_neg (nI_ge cw (by omega)), show (12 : Int32) * nI n = nI (12 * n) from pk_mul 12 n, qr_n (by omega) (by omega), rm.2.2.2.2.1 _ (by omega), nI_add, if_neg (nI_ne0 (by omega) (by omega))]
              exact ⟨_, rfl, rfl⟩
            · rw [x_laidOut x.2.1.1.gx.2.2.2.2.2.2.2.2.2.2.2.2.1 (by omega) p1, qb_s, qb_s, if_pos rfl, if_pos (nI_le (by omega) p1)]
              exact ⟨_, rfl, rfl⟩
          · have n3 : ¬ nI (A 5 n) = (3 : Int32) := nI_k (b := 3) hk4 (by decide) c3
            rw [if_neg n3, if_neg n3]
            by_cases c2 : A 5 n = 2
            · have mn := ((x.2.2.1.2.1 n hn).2.2.1 c2).1
              have h8 := x.t8 hn
              rw [c2, if_pos (show nI 2 = (2 : Int32) from rfl), if_pos (show nI 2 = (2 : Int32) from rfl), qr_n hn (by decide), rm.r7 (by decide) hn]
              by_cases c12 : p < 12
              · unfold fX4_sectorOf
                rw [if_pos (show nI p < 12 from nI_lt (b := 12) c12 (by decide)), qb_s, show (4 : Int32) + nI p = nI (4 + p) from nI_add 4 p, x_hlf x hn (by omega), qb_s, qb_s, mn p c12]
                by_cases c8 : p < A 8 n
                · have hx := (dirB x hn c2 c8).1
                  rw [if_pos c8, if_neg (nI_ne0 (by omega) (by omega)), if_neg (nI_ge c8 (by omega)), show (12 : Int32) * nI n = nI (12 * n) from pk_mul 12 n, nI_add, qr_n (by omega) (by omega), rm.2.2.2.2.1 _ (by omega)]
                  exact ⟨_, rfl, rfl⟩
                · rw [if_neg c8, if_pos (show nI 0 = (0 : Int32) from rfl), if_pos (nI_le (by omega) p1)]
                  exact ⟨_, rfl, rfl⟩
              · rw [if_neg (show ¬ nI p < 12 from nI_nlt (b := 12) (by omega) p1), qb_s, if_pos rfl, if_pos (nI_le (by omega) p1)]
                exact ⟨_, rfl, rfl⟩
            · have n2 : ¬ nI (A 5 n) = (2 : Int32) := nI_k (b := 2) hk4 (by decide) c2
              rw [if_neg n2, if_neg n2]
              by_cases c1 : A 5 n = 1
              · rw [c1, if_pos (show nI 1 = (1 : Int32) from rfl), if_pos (show nI 1 = (1 : Int32) from rfl), if_neg (fun z => m1_ne p p1 z), if_neg (fun z => by
                  have := congrArg Int32.toInt z
                  rw [nI_toInt p1] at this
                  have a1 : (-2 : Int32).toInt = -2 := by decide
                  omega)]
                by_cases cp : p < 1068
                · have hx := (x.pie hn c1 cp).1
                  rw [x_pieceBlock x hn c1 cp, qb_s, qb_s, if_neg (show ¬ (1068 : Int32) ≤ nI p from nI_ge (b := 1068) cp (by decide)), show (1068 : Int32) * nI n = nI (1068 * n) from pk_mul 1068 n, nI_add, qr_n (by omega) (by omega), rm.2.2.1 _ (by omega), fin0 (by omega)]
                  exact ⟨_, rfl, rfl⟩
                · unfold fX0_pieceBlock fX4_sectorOf
                  rw [qb_s, if_neg co, if_neg (show ¬ nI p < 1068 from nI_nlt (b := 1068) (by omega) p1), qb_s, qb_s, if_pos rfl, if_pos (show (1068 : Int32) ≤ nI p from nI_le (a := 1068) (by omega) p1)]
                  exact ⟨_, rfl, rfl⟩
              · have n1 : ¬ nI (A 5 n) = (1 : Int32) := nI_k (b := 1) hk4 (by decide) c1
                rw [if_neg n1, if_neg n1, qb_s, if_pos rfl]
                exact ⟨_, rfl, rfl⟩
    · rw [x_kindOut e, qb_s, m_isNodeOut e, qb_s, if_pos rfl, if_neg (by decide), if_neg (by decide), if_neg (by decide), qb_s, if_pos rfl]
      exact ⟨_, rfl, rfl⟩
theorem sB_and : ∀ b : Fin 256, sB b.1 &&& 255 = nI b.1 := by decide +kernel
theorem p_byteAt {B T S C W Ls na : Nat} {L : Nat → Nat} {N : Nat} (g : Geo B T S C W Ls) (gl : gL B C W Ls L) (hna : na = 80 + (Ls + 511) / 512) : st_byteAt (Iv B T S C W Ls na) L N := by
  intro k ux um x0 o hk h
  refine rd_only (off := -99) g gl hna h (fun q1 q2 => ?_) (fun hb D K dd A nm q1 q2 x rm wh ms => ?_)
  · unfold fX10_byteAt fX11_byteAt
    rw [if_pos q1, if_pos q2]
    exact ⟨rfl, rfl⟩
  · have hl := g.l
    have hw := g.w
    have gm := x.2.1.1.gm
    have sb : ∀ b, b < 256 → sB b &&& 255 = nI b := fun b hb => sB_and ⟨b, hb⟩
    unfold fX10_byteAt fX11_byteAt
    rw [q1, q2, if_neg (by decide), if_neg (by decide)]
    rcases nod x0 with ⟨n, hn, e⟩ | e
    · subst e
      have hk4 := x.k4 hn
      have h6 := (x.2.2.2.1.1 n hn).2.2.2.2.1
      rw [x_kindOf x hn, qb_s, m_isNode rm hn hk4, qb_s]
      have tail : ∀ y : Int32, A 5 n ≠ 0 → A 5 n ≠ 2 → (y = if A 5 n = 4 then 1 else 0) → ∃ r, fX10_byteAt_b64 L N (nI n) o ux = some (r, ux) ∧ fX11_byteAt_b66 N (nI n) o y um = some (r, um) := by
        intro y c0 c2 hy
        unfold fX10_byteAt_b64 fX11_byteAt_b66 fX10_byteAt_b80
        by_cases co : o < 0
        · rw [if_pos co, if_pos co]
          exact ⟨_, rfl, rfl⟩
        · obtain ⟨p, p1, p2⟩ := i_pos co
          subst p2
          rw [if_neg co, if_neg co, x_byteCount x hn c0 c2, qb_s, qr_n hn (by decide), rm.r7 (by decide) hn]
          by_cases c6 : p < A 6 n
          · rw [if_pos (nI_lt c6 (by omega)), if_pos (nI_lt c6 (by omega))]
            unfold fX0_byteOf
            rw [x_kindOf x hn, qb_s]
            by_cases c4 : A 5 n = 4
            · have h40 := x.2.2.2.1.2.2.2.1 n hn c4
              have mn := (x.2.2.1.2.1 n hn).2.2.2.2.2 c4 p c6
              have h16 := x.2.2.2.1.2.2.2.2.2.1 (40 * n + p)
              rw [if_pos c4] at hy
              rw [hy, if_neg (show ¬ (1 : Int32) = 0 by decide), c4, if_pos (show nI 4 = (4 : Int32) from rfl)]
              unfold fX4_sectorOf
              rw [qb_s, show (24 : Int32) + nI p = nI (24 + p) from nI_add 24 p, x_oct x hn (by omega), qb_s, qb_s, mn, show (40 : Int32) * nI n = nI (40 * n) from pk_mul 40 n, nI_add, qr_n (by omega) (by omega), rm.2.2.2.1 _ (by omega), sb _ h16]
              exact ⟨_, rfl, rfl⟩
            · have n4 : ¬ nI (A 5 n) = (4 : Int32) := nI_k (b := 4) hk4 (by decide) c4
              rw [if_neg c4] at hy
              rw [hy, if_pos rfl, if_neg n4, show nI p / (64 : Int32) = nI (p / 64) from pk_div (d := 64) (by omega) (by decide) (by decide), show nI p - nI (p / 64) * (64 : Int32) = nI (p % 64) by
                rw [show nI (p / 64) * (64 : Int32) = nI (p / 64 * 64) from pk_mul _ 64, pk_sub (by omega)]
                congr 1
                omega]
              unfold fX11_sectorOf fX0_byteOf_b60
              rw [qr_n hn (by decide), rm.r7 (by decide) hn]
              by_cases c3 : A 5 n = 3
              · have h64 := (x.2.2.2.1.2.2.2.2.1 n hn c3).1
                have hx := x.lai hn c3 (show p / 64 < W by omega)
                have ro := hx.2.2.1 (Or.inr c3) (p % 64) (Nat.mod_lt _ (by decide))
                have h18 := x.2.2.2.1.2.2.2.2.2.2.1 (64 * (A 13 (12 * n) + p / 64) + p % 64)
                rw [c3, if_pos (show nI 3 = (3 : Int32) from rfl), if_pos (show nI 3 = (3 : Int32) from rfl), x_laidBlock x hn c3 (by omega), qb_s, if_neg (nI_ne0 (by omega) (by omega)), show nI p - nI p / (64 : Int32) * 64 = nI (p % 64) from rem_n (d := 64) (by omega) (by decide) (by decide), x_octet g gl x.2.1 hx.2.1 (Nat.mod_lt _ (by decide)), qb_s, qb_s, show (12 : Int32) * nI n = nI (12 * n) from pk_mul 12 n, qr_n (by omega) (by omega), rm.2.2.2.2.1 _ (by omega), nI_add, qb_s, if_neg (m1_ne _ (by omega)), show (64 : Int32) * nI (A 13 (12 * n) + p / 64) = nI (64 * (A 13 (12 * n) + p / 64)) from pk_mul 64 _, nI_add, qr_n (by omega) (by omega), rm.2.2.2.2.2.2.2 _ (by omega), sb _ h18]
                exact ⟨_, congrArg (fun z => some (nI z, ux)) ro, rfl⟩
              · have n3 : ¬ nI (A 5 n) = (3 : Int32) := nI_k (b := 3) hk4 (by decide) c3
                have c1 : A 5 n = 1 := by omega
                have hx := x.pie hn c1 (show p / 64 < 1068 by omega)
                have h18 := x.2.2.2.1.2.2.2.2.2.2.1 (64 * (A 9 (1068 * n + p / 64)) + p % 64)
                rw [if_neg n3, if_neg n3, x_pieceBlock x hn c1 (by omega), qb_s, show (1068 : Int32) * nI n = nI (1068 * n) from pk_mul 1068 n, nI_add, qr_n (by omega) (by omega), rm.2.2.1 _ (by omega), qb_s]
                by_cases c9 : A 9 (1068 * n + p / 64) = 0
                · rw [c9, if_pos (show nI 0 = (0 : Int32) from rfl), if_pos (show i0 0 = (-1 : Int32) from rfl), qb_s]
                  exact ⟨_, rfl, rfl⟩
                · have ro := (hx.2 c9).1 (Or.inl ⟨c1, by omega⟩) (p % 64) (Nat.mod_lt _ (by decide))
                  have ei : i0 (A 9 (1068 * n + p / 64)) = nI (A 9 (1068 * n + p / 64)) := if_neg c9
                  rw [ei, if_neg (nI_ne0 (by omega) (by omega)), if_neg (m1_ne _ (by omega)), show nI p - nI p / (64 : Int32) * 64 = nI (p % 64) from rem_n (d := 64) (by omega) (by decide) (by decide), x_octet g gl x.2.1 hx.1 (Nat.mod_lt _ (by decide)), qb_s, qb_s, show (64 : Int32) * nI (A 9 (1068 * n + p / 64)) = nI (64 * A 9 (1068 * n + p / 64)) from pk_mul 64 _, nI_add, qr_n (by omega) (by omega), rm.2.2.2.2.2.2.2 _ (by omega), sb _ h18]
                  exact ⟨_, congrArg (fun z => some (nI z, ux)) ro, rfl⟩
          · rw [if_neg (nI_nlt (by omega) p1), if_neg (nI_nlt (by omega) p1)]
            exact ⟨_, rfl, rfl⟩
      by_cases c4 : A 5 n = 4
      · rw [if_neg (show ¬ A 5 n = 0 by omega), c4, if_neg (show ¬ nI 4 = (1 : Int32) by decide), if_neg (show ¬ nI 4 = (3 : Int32) by decide), if_pos (show nI 4 = (4 : Int32) from rfl), if_neg (show ¬ (1 : Int32) = 0 by decide), qr_n hn (by decide), rm.r7 (by decide) hn, c4, if_pos (show nI 4 = (4 : Int32) from rfl)]
        unfold fX10_byteAt_b40 fX11_byteAt_b33 fX11_byteAt_b50
        rw [if_pos (show nI 4 = (4 : Int32) from rfl), if_neg (show ¬ (1 : Int32) = 0 by decide), if_neg (show ¬ (1 : Int32) = 0 by decide)]
        exact tail 1 (by omega) (by omega) (by rw [if_pos c4])
      · have n4 : ¬ nI (A 5 n) = (4 : Int32) := nI_k (b := 4) hk4 (by decide) c4
        have er : (if (if A 5 n = 0 then (0 : Int32) else 1) = 0 then fX11_byteAt_b32 N (nI n) o um else q_rd 64 (q_a um 5) (nI n) (fun v16 => if v16 = 4 then fX11_byteAt_b33 N (nI n) o 1 um else fX11_byteAt_b32 N (nI n) o um)) = fX11_byteAt_b32 N (nI n) o um := by
          rw [qr_n hn (by decide), rm.r7 (by decide) hn, if_neg n4]
          split <;> rfl
        rw [er]
        unfold fX11_byteAt_b32 fX11_byteAt_b33 fX11_byteAt_b50
        rw [if_pos rfl, (m_isFile rm hn hk4).1, qb_s]
        by_cases c13 : A 5 n = 1 ∨ A 5 n = 3
        · have eX : (if nI (A 5 n) = 1 then fX10_byteAt_b40 L N (nI n) o (nI (A 5 n)) ux else if nI (A 5 n) = 3 then fX10_byteAt_b40 L N (nI n) o (nI (A 5 n)) ux else if nI (A 5 n) = 4 then fX10_byteAt_b40 L N (nI n) o (nI (A 5 n)) ux else some (-14, ux)) = fX10_byteAt_b40 L N (nI n) o (nI (A 5 n)) ux := by
            rcases c13 with c | c
            · rw [c, if_pos (show nI 1 = (1 : Int32) from rfl)]
            · rw [c, if_neg (show ¬ nI 3 = (1 : Int32) by decide), if_pos (show nI 3 = (3 : Int32) from rfl)]
          rw [eX, if_pos c13, if_neg (show ¬ (1 : Int32) = 0 by decide), if_pos rfl]
          unfold fX10_byteAt_b40
          rw [if_neg n4, x_may x hn (by omega) c4, m_may rm hn, qb_s, qb_s, wh.1]
          rcases mayR_01 (q_i um 28) (nI (A 11 n)) (nI (A 12 n)) 4 with hm | hm
          · rw [hm, if_pos rfl, if_pos rfl]
            exact ⟨_, rfl, rfl⟩
          · rw [hm, if_neg (by decide), if_neg (by decide)]
            exact tail 0 (by omega) (by omega) (by rw [if_neg c4])
        · rw [if_neg (show ¬ nI (A 5 n) = (1 : Int32) from nI_k (b := 1) hk4 (by decide) (by omega)), if_neg (show ¬ nI (A 5 n) = (3 : Int32) from nI_k (b := 3) hk4 (by decide) (by omega)), if_neg n4, if_neg c13, if_pos rfl]
          exact ⟨_, rfl, rfl⟩
    · rw [x_kindOut e, qb_s, m_isNodeOut e, qb_s, if_neg (by decide), if_neg (by decide), if_neg (by decide), if_pos rfl]
      unfold fX11_byteAt_b32 fX11_byteAt_b33
      rw [if_pos rfl, m_isFileOut e, qb_s, if_pos rfl]
      exact ⟨_, rfl, rfl⟩
