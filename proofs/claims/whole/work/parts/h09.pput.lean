/-! ===== put ===== -/
theorem le_sub {a mo len : Nat} (ha : a < 2 ^ 31) (hm : mo < 2 ^ 30) (hl : len < 2 ^ 30) : nI a ≤ nI mo - nI len ↔ a + len ≤ mo := by
  rw [Int32.le_iff_toInt_le, pk_sub_toInt hm hl, nI_toInt ha]
  omega
theorem p_put {B T S C W Ls na : Nat} {L : Nat → Nat} {N : Nat} (g : Geo B T S C W Ls) (gl : gL B C W Ls L) (hna : na = 80 + (Ls + 511) / 512) (hN : 140000 ≤ N) : st_put (Iq B T S C W Ls na) L N := by
  intro k ux um x0 o hk h
  have hl := g.l
  have hw := g.w
  obtain ⟨len, n1, n2, n3, n4, hI⟩ := tp_beg h
  unfold fX10_put fX11_put fX10_put_b23
  rw [qn_s, qn_s, n2]
  rcases l_begins (N := N) g gl hna hN hk hI with ⟨vx, vm, z1, z2, z3⟩ | ⟨ux2, um2, D, kv, Ak, nk, K, dd, A, nm, z1, z2, t, c40⟩
  · have e27 : q_i vm 27 = 0 := ((fr_X11_begins z2).1 27 (by decide)).trans qi_eq
    rw [z1, z2, qb_s, qb_s, if_pos rfl, if_pos rfl, qn_s]
    exact ⟨_, _, vm, rfl, rfl, fin_tp z3 e27⟩
  · have e27 : q_i um2 27 = 0 := ((fr_X11_begins z2).1 27 (by decide)).trans qi_eq
    have e32 : q_i ux2 32 = nI len := ((fr_X6_commitOver z1).1 32 (by decide)).trans n3
    have e8 : q_a ux2 8 = q_a ux 8 := (fr_X6_commitOver z1).2.1 8 (by decide)
    have e35 : q_a um2 35 = q_a um 35 := (fr_X11_begins z2).2.1 35 (by decide)
    have hb8 : ∀ i, i < len → tb ux i < 256 ∧ q_a ux2 8 i = nI (tb ux i) ∧ q_a um2 35 i = sB (tb ux i) := fun i hi => by rw [e8, e35]; exact n4 i hi
    rw [z1, z2, qb_s, qb_s, if_neg (by decide), if_neg (by decide)]
    have x := t.x g gl hna
    have rm := t.rm
    have stay : Iq B T S C W Ls na (k + 1) (q_si ux2 32 0) um2 := fin_tp (Tn_Iv t (by omega) (by omega)) e27
    have fin : ∀ r, fX10_writeTape L N x0 o ux2 = some (r, ux2) → ∃ (r' : Int32) (vx vm : q_St), (q_bnd (fX10_writeTape L N x0 o ux2) (fun r5 u6 => q_nm (q_si u6 32 0) (fun u4 => some (r5, u4)))) = some (r', vx) ∧ some (r, um2) = some (r', vm) ∧ Iq B T S C W Ls na (k + 1) vx vm := by
      intro r hr
      rw [hr, qb_s, qn_s]
      exact ⟨_, _, um2, rfl, rfl, stay⟩
    rcases nod x0 with ⟨n, hn, e⟩ | e
    · subst e
      have hk4 := x.k4 hn
      rw [(m_isFile rm hn hk4).1, qb_s]
      by_cases cf : A 5 n = 1 ∨ A 5 n = 3
      · rw [if_pos cf, if_neg (show ¬ (1 : Int32) = 0 by decide), m_may rm hn, qb_s]
        -- how much it may hold
        obtain ⟨mo, hmo⟩ : ∃ q, q = if A 5 n = 1 then 68352 else 64 * W := ⟨_, rfl⟩
        have hmol : 4096 ≤ mo ∧ mo ≤ 68352 := by rw [hmo]; split <;> omega
        have hX : fX10_writeTape L N (nI n) o ux2 = if mayR (q_i um2 28) (nI (A 11 n)) (nI (A 12 n)) 2 = 0 then some (-20, ux2) else fX10_writeTape_b60 L N (nI n) o (nI (A 5 n)) (nI mo) ux2 := by
          have hb : fX10_writeTape_b22 L N (nI n) o (nI (A 5 n)) ux2 = if mayR (q_i um2 28) (nI (A 11 n)) (nI (A 12 n)) 2 = 0 then some (-20, ux2) else fX10_writeTape_b60 L N (nI n) o (nI (A 5 n)) (nI mo) ux2 := by
            unfold fX10_writeTape_b22
            rw [x_may x hn (by omega) (by omega), qb_s, t.wh.1]
            by_cases hm : mayR (q_i um2 28) (nI (A 11 n)) (nI (A 12 n)) 2 = 0
            · rw [if_pos hm, if_pos hm]
            · rw [if_neg hm, if_neg hm]
              rcases cf with c | c
              · rw [c, if_pos (show nI 1 = (1 : Int32) from rfl), hmo, if_pos c]
                rfl
              · rw [c, if_neg (show ¬ nI 3 = (1 : Int32) by decide), x_byteCount x hn (by omega) (by omega), qb_s, (x.2.2.2.1.2.2.2.2.1 n hn c).1, hmo, if_neg (by omega)]
          unfold fX10_writeTape
          rw [x_kindOf x hn, qb_s]
          rcases cf with c | c
          · rw [if_pos (by rw [c]; rfl)]; exact hb
          · rw [if_neg (by rw [c]; decide), if_pos (by rw [c]; rfl)]; exact hb
        have hM : q_rd 64 (q_a um2 5) (nI n) (fun v12 => if v12 = 3 then q_rd 64 (q_a um2 6) (nI n) (fun v41 => fX11_put_b65 N (nI n) o (nI len) v41 um2) else fX11_put_b65 N (nI n) o (nI len) 68352 um2) = fX11_put_b65 N (nI n) o (nI len) (nI mo) um2 := by
          rw [qr_n hn (by decide), rm.r7 (by decide) hn]
          rcases cf with c | c
          · rw [c, if_neg (show ¬ nI 1 = (3 : Int32) by decide), hmo, if_pos c]; rfl
          · rw [c, if_pos (show nI 3 = (3 : Int32) from rfl), qr_n hn (by decide), rm.r7 (by decide) hn, (x.2.2.2.1.2.2.2.2.1 n hn c).1, hmo, if_neg (by omega)]
        rw [hM]
        by_cases hm : mayR (q_i um2 28) (nI (A 11 n)) (nI (A 12 n)) 2 = 0
        · rw [if_pos hm]
          exact fin _ (by rw [hX, if_pos hm])
        · rw [if_neg hm]
          rw [if_neg hm] at hX
          unfold fX10_writeTape_b60 at hX
          unfold fX11_put_b65
          by_cases co : o < 0
          · rw [if_pos co] at hX ⊢
            exact fin _ hX
          · obtain ⟨a, p1, p2⟩ := i_pos co
            subst p2
            rw [if_neg co, e32] at hX
            rw [if_neg co]
            by_cases cl : a + len ≤ mo
            · have cl' : nI a ≤ nI mo - nI len := (le_sub p1 (by omega) (by omega)).mpr cl
              rw [if_pos cl'] at hX ⊢
              by_cases c0 : len = 0
              · rw [c0, if_pos (show nI 0 = (0 : Int32) from rfl)] at hX
                rw [c0, if_pos (show nI 0 = (0 : Int32) from rfl)]
                exact fin _ hX
              · rw [if_neg (nI_ne0 (by omega) (by omega))] at hX ⊢
                rw [qr_n hn (by decide), rm.r7 (by decide) hn]
                have done : ∀ vx vm K2 dd2 A2, fX10_writeTape L N (nI n) (nI a) ux2 = some (nI len, vx) → Tn B T S C W Ls na (300 * k + 200) D kv Ak nk K2 dd2 A2 nm vx vm → cnt dd2 Ls ≤ cnt dd Ls + 30 → q_i vm 27 = q_i um2 27 → ∃ (r' : Int32) (vx vm' : q_St), (q_bnd (fX10_writeTape L N (nI n) (nI a) ux2) (fun r5 u6 => q_nm (q_si u6 32 0) (fun u4 => some (r5, u4)))) = some (r', vx) ∧ some (nI len, vm) = some (r', vm') ∧ Iq B T S C W Ls na (k + 1) vx vm' := by
                  intro vx vm K2 dd2 A2 y1 y2 y3 y4
                  rw [y1, qb_s, qn_s]
                  exact ⟨_, _, vm, rfl, rfl, fin_tp (Tn_Iv y2 (by omega) (by omega)) (y4.trans e27)⟩
                by_cases c1 : A 5 n = 1
                · rw [c1, if_pos (show nI 1 = (1 : Int32) from rfl)] at hX
                  rw [if_pos (show nI (A 5 n) = (1 : Int32) by rw [c1]; rfl)]
                  have hm6 : mo = 68352 := by rw [hmo, if_pos c1]
                  obtain ⟨q1, hq1⟩ : ∃ q, q = a / 64 := ⟨_, rfl⟩
                  obtain ⟨q2, hq2⟩ : ∃ q, q = (a + len - 1) / 64 := ⟨_, rfl⟩
                  have ea : nI a / (64 : Int32) = nI q1 := by rw [hq1]; exact pk_div (d := 64) (by omega) (by decide) (by decide)
                  have eb : (nI a + nI len - 1) / (64 : Int32) = nI q2 := by
                    rw [hq2, nI_add, show nI (a + len) - (1 : Int32) = nI (a + len - 1) from pk_sub (b := 1) (by omega)]
                    exact pk_div (d := 64) (by omega) (by decide) (by decide)
                  obtain ⟨al, h7, dh, xs, ms, h80, -, tw, rx, nb⟩ := id t
                  have gm := al.1.gm
                  have hc := cnt_le (msR A W n q1 q2) 1102
                  rw [x_wanted x (by omega) hn c1 hq1 hq2 (by omega) (by omega), qb_s, x_freeCount g gl (by omega) xs rx.1, qb_s] at hX
                  rw [ea, eb, qn_s, m_needs g (by omega) rm tw hn c1 (by omega) (by omega), qb_s, m_freeBlocks (fb := na + 64) (by omega) hl.2 (by omega) rm gm.2.2.2.2.2.1 (by rw [gm.2.2.2.2.2.2.1]; congr 1; omega) tw.1.2.2.2.2.2.2.2 tw.2.2.1.2.2.2, qb_s]
                  by_cases cw : cnt (msR A W n q1 q2) 1102 ≤ Ls - uC A Ls
                  · rw [if_pos (nI_le cw (by omega))] at hX ⊢
                    rw [qn_s]
                    obtain ⟨vx, vm, K2, dd2, A2, y1, y2, y3, y4, y5, y6⟩ := l_putFile (N := N) (b := tb ux) g gl hna hN t hn c1 n1 (by omega) (by omega) hq1 hq2 cw e32 hb8
                    rw [y2]
                    refine done vx vm K2 dd2 A2 ?_ y3 y4 y6
                    rw [hX]
                    unfold fX10_writeTape_b129
                    rw [y1, qb_s, y5]
                  · rw [if_neg (nI_ge (by omega) (by omega))] at hX ⊢
                    exact fin _ hX
                · have c3 : A 5 n = 3 := by omega
                  rw [c3, if_neg (show ¬ nI 3 = (1 : Int32) by decide)] at hX
                  rw [if_neg (show ¬ nI (A 5 n) = (1 : Int32) by rw [c3]; decide)]
                  have hm6 : mo = 64 * W := by rw [hmo, if_neg c1]
                  obtain ⟨vx, vm, K2, dd2, A2, y1, y2, y3, y4, y5, y6⟩ := l_putLaid (N := N) (a := a) (b := tb ux) g gl hna hN t hn c3 n1 (by omega) (by omega) e32 hb8
                  rw [y2]
                  refine done vx vm K2 dd2 A2 ?_ y3 y4 y6
                  rw [hX]
                  unfold fX10_writeTape_b129
                  rw [y1, qb_s, y5]
            · have cl' : ¬ nI a ≤ nI mo - nI len := fun z => cl ((le_sub p1 (by omega) (by omega)).mp z)
              rw [if_neg cl'] at hX ⊢
              exact fin _ hX
      · rw [if_neg cf, if_pos rfl]
        refine fin _ ?_
        unfold fX10_writeTape
        rw [x_kindOf x hn, qb_s, if_neg (show ¬ nI (A 5 n) = (1 : Int32) from nI_k (b := 1) hk4 (by decide) (by omega)), if_neg (show ¬ nI (A 5 n) = (3 : Int32) from nI_k (b := 3) hk4 (by decide) (by omega))]
    · rw [m_isFileOut e, qb_s, if_pos rfl]
      refine fin _ ?_
      unfold fX10_writeTape
      rw [x_kindOut e, qb_s, if_neg (by decide), if_neg (by decide)]
