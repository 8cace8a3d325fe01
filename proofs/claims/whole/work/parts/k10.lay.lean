/-! ===== lay ===== -/
theorem rom_cg {W Ls na d : Nat} {A A2 : Nat → Nat → Nat} (h8 : A2 8 = A 8) (h14 : A2 14 = A 14) (h17 : A2 17 = A 17) (h : rom W Ls na d A) : rom W Ls na d A2 := by
  have z1 : sF A2 d = sF A d := by funext j; unfold sF; rw [h14]
  have z2 : frB A2 W none = frB A W none := by funext x; unfold frB; rw [h17]
  unfold rom at h ⊢
  rw [z1, z2, h8]
  exact h
theorem wrA_0 {A : Nat → Nat → Nat} {X : Nat} {f : Nat → Nat} : wrA A X 0 0 f = A := by
  funext k j
  unfold wrA
  rw [if_neg (fun z => by omega)]
theorem p_lay {B T S C W Ls na : Nat} {L : Nat → Nat} {N : Nat} (g : Geo B T S C W Ls) (gl : gL B C W Ls L) (hna : na = 80 + (Ls + 511) / 512) (hN : 140000 ≤ N) : st_lay (Iq B T S C W Ls na) L N := by
  intro k ux um x0 v hk h
  have hl := g.l
  have hw := g.w
  obtain ⟨g1, g2, g3, g4, g5, g6⟩ := id g
  obtain ⟨len, n1, n2, n3, n4, hI⟩ := tp_beg h
  unfold fX10_lay fX11_lay
  rw [qn_s, qn_s, n2]
  rcases l_begins (N := N) g gl hna hN hk hI with ⟨vx, vm, z1, z2, z3⟩ | ⟨ux2, um2, D, kv, Ak, nk, K, dd, A, nm, z1, z2, t, c40⟩
  · have e27 : q_i vm 27 = 0 := ((fr_X11_begins z2).1 27 (by decide)).trans qi_eq
    rw [z1, z2, qb_s, qb_s, if_pos rfl, if_pos rfl]
    unfold fX10_lay_b23
    rw [qn_s]
    exact ⟨_, _, vm, rfl, rfl, fin_tp z3 e27⟩
  · have e27 : q_i um2 27 = 0 := ((fr_X11_begins z2).1 27 (by decide)).trans qi_eq
    have e32 : q_i ux2 32 = nI len := ((fr_X6_commitOver z1).1 32 (by decide)).trans n3
    have e8 : q_a ux2 8 = q_a ux 8 := (fr_X6_commitOver z1).2.1 8 (by decide)
    have e35 : q_a um2 35 = q_a um 35 := (fr_X11_begins z2).2.1 35 (by decide)
    rw [z1, z2, qb_s, qb_s, if_neg (by decide), if_neg (by decide)]
    have x := t.x g gl hna
    have rm := t.rm
    have stay : Iq B T S C W Ls na (k + 1) (q_si ux2 32 0) um2 := fin_tp (Tn_Iv t (by omega) (by omega)) e27
    unfold fX10_enterLaid
    obtain ⟨r, y1, y2, y3, y4⟩ := l_refAdd (N := N) t g gl hna (by omega) x0 v
    rw [y1, y2, qb_s, qb_s]
    by_cases cr : r = 0
    · obtain ⟨d, hd, e, hkd, hnm⟩ := y3 cr
      subst e
      rw [if_pos cr, if_pos cr, e32]
      by_cases c0 : len = 0
      · rw [c0, if_pos (show nI 0 = (0 : Int32) from rfl), if_pos (show nI 0 = (0 : Int32) from rfl), qb_s]
        unfold fX10_lay_b23
        rw [qn_s]
        exact ⟨_, _, um2, rfl, rfl, stay⟩
      · rw [if_neg (nI_ne0 (by omega) (by omega)), if_neg (nI_ne0 (by omega) (by omega))]
        rw [x_lowestFree x (by omega), m_freeNode rm (by omega) (fun n hn => x.k4 hn), qb_s, qb_s]
        obtain ⟨n, hne⟩ : ∃ q, q = fnd (fun n => decide (A 5 n = 0)) 64 0 := ⟨_, rfl⟩
        rw [← hne]
        rcases l_bandTo (N := N) t g gl hna (by omega) with ⟨w1, w2⟩ | ⟨b, hbB, w1, w2, w3, w4⟩
        · rw [w1, w2, qb_s, qb_s]
          by_cases cn : n < 64
          · rw [if_neg (fun z => (slX_no (by omega)).mp z cn), if_neg (fun z => (slX_no (by omega)).mp z cn), if_pos rfl, if_pos (by decide), qb_s]
            unfold fX10_lay_b23
            rw [qn_s]
            exact ⟨_, _, um2, rfl, rfl, stay⟩
          · rw [if_pos ((slX_no (by omega)).mpr cn), if_pos ((slX_no (by omega)).mpr cn), qb_s]
            unfold fX10_lay_b23
            rw [qn_s]
            exact ⟨_, _, um2, rfl, rfl, stay⟩
        · rw [w1, w2, qb_s, qb_s]
          by_cases cn : n < 64
          · have h0 : A 5 n = 0 := by
              have := fnd_yes (fun n => decide (A 5 n = 0)) 64 0 (by omega)
              rw [← hne] at this
              exact of_decide_eq_true this
            have nb1 : ¬ nI b = -1 := fun z => by
              have := nI_pos (show b < 2 ^ 31 by omega)
              rw [z] at this
              exact this (by decide)
            rw [if_neg (fun z => (slX_no (by omega)).mp z cn), if_neg (fun z => (slX_no (by omega)).mp z cn), if_neg nb1, if_neg (nI_pos (by omega))]
            unfold slX
            rw [if_pos cn]
            obtain ⟨q, v1, v2, v3⟩ := l_roomBand (N := N) t g gl hna (by omega) hd hkd hbB (fun x hx => (w4 x hx).1)
            rw [v1, v2, qb_s, qb_s]
            cases hq : q with
            | false =>
              rw [b2i_f, if_pos rfl, if_pos rfl, qb_s]
              unfold fX10_lay_b23
              rw [qn_s]
              exact ⟨_, _, um2, rfl, rfl, stay⟩
            | true =>
              rw [b2i_t, if_neg (by decide), if_neg (by decide)]
              obtain ⟨r2, ax, am, s1, s2, s3⟩ := l_stream (N := N) g gl (by omega) t.1.1 hbB w3 (show 0 < len by omega) n1 e32
              have fx : Fr [7, 8, 10, 11, 12, 15, 20] [0, 1] [0, 1] ux2 ax := fr_X8_stream_8 s1
              have fm : Fr [9, 10, 12, 14, 18, 24] [0, 4] [] um2 am := fr_X11_stream s2
              rw [s1, s2, qb_s, qb_s]
              rcases s3 with ⟨er, h7, sm, D2, hsm, vv, hD⟩ | ⟨er, h7, vv⟩
              · rw [if_pos er, if_pos er, qb_s]
                unfold fX10_lay_b23
                rw [qn_s]
                exact ⟨_, _, am, rfl, rfl, fin_tp (l_layOff (k := k + 1) g t hna w4 hsm vv hD h7 fx fm (by omega)) ((fm.1 27 (by decide)).trans e27)⟩
              · rw [if_neg (by rw [er]; decide), if_neg (by rw [er]; decide)]
                have hbW : b * W + W ≤ Ls := by
                  rw [g6]
                  have := Nat.mul_le_mul_right W (show b + 1 ≤ B by omega)
                  rw [Nat.add_mul, Nat.one_mul] at this
                  exact this
                have fr : ∀ k, 5 ≤ k → q_a am k = q_a um2 k := fun k hk => fm.2.1 k (by simp only [List.mem_cons, List.not_mem_nil, or_false]; omega)
                have ra : RM Ls A nm (q_a am) (q_j am 0) := RM_fr rm (fun k hk _ => fr k hk) (fm.2.2 0 (by decide))
                have rk : RM Ls Ak nk (fun k => q_a am (k + 14)) (q_j am 1) := by
                  rw [fm.2.2 1 (by decide)]
                  have e : (fun k => q_a am (k + 14)) = (fun k => q_a um2 (k + 14)) := by funext k; exact fr _ (by omega)
                  rw [e]
                  exact t.1.2.2.1
                obtain ⟨w, m1, m2, m3, m4⟩ := m_layBytes (N := N) (b := b) (A := A) (Ak := Ak) (nm := nm) (nk := nk) (n := len) (tb := tb ux) (x1 := nI d) (x2 := v) (x6 := nI n) (w0 := am) g hN hbW (by omega) n1 ((fm.1 4 (by decide)).trans t.1.1.gm.2.2.2.2.1) (fun i hi => by rw [fr 35 (by decide), e35]; exact (n4 i hi).2.2) (64 * W) 0 N am (by omega) (by omega) (by rw [wrA_0]; exact ra) (by rw [wrA_0]; exact rk) (Fr.rf _ _ _ _)
                have m1 : q_lp (fX11_lay_b96 N) (fun _ _ _ _ _ _ _ => none) N (nI d) v (nI len) (nI n) (nI b) 0 am = q_lp (fX11_lay_b179 N) (fun _ _ _ _ _ _ => none) N (nI d) v (nI n) (nI b) (nI (b * W)) w := m1
                have t1 := l_streamed (f := fun i => tb ux (i % len)) (ct := fun x j => ctw len (q_a ux2 8) (x % W) j) g hna t hbW w4 (fun i => (n4 (i % len) (Nat.mod_lt _ (by omega))).1) vv (fun x j => rfl) h7 fx fm m4 m2 m3
                have ib : ∀ x, x / W = b ↔ b * W ≤ x ∧ x < b * W + W := fun x => in_bnd (by omega)
                have hoc : ∀ x j, x / W = b → j < 64 → sO ((fun x j => if x / W = b then ctw len (q_a ux2 8) (x % W) j else K x j) x) j = wrA A (b * W) 0 (64 * W) (fun i => tb ux (i % len)) 18 (64 * x + j) ∧ wrA A (b * W) 0 (64 * W) (fun i => tb ux (i % len)) 18 (64 * x + j) = wrA Ak (b * W) 0 (64 * W) (fun i => tb ux (i % len)) 18 (64 * x + j) := by
                  intro x j hx hj
                  have hx2 := (ib x).mp hx
                  have em : x % W = x - b * W := by
                    have := Nat.div_add_mod x W
                    rw [hx, Nat.mul_comm] at this
                    omega
                  rw [wrA_18, wrA_18, if_pos (by omega), if_pos (by omega)]
                  refine ⟨?_, rfl⟩
                  have e1 : sO ((fun x j => if x / W = b then ctw len (q_a ux2 8) (x % W) j else K x j) x) j = sO (ctw len (q_a ux2 8) (x % W)) j := by
                    unfold sO
                    show ocN (if x / W = b then ctw len (q_a ux2 8) (x % W) (j / 8) else K x (j / 8)) (j % 8) = _
                    rw [if_pos hx]
                  rw [e1, ctw_oc (b := tb ux) (by omega) (fun k hk => by rw [e8]; exact ⟨(n4 k hk).1, (n4 k hk).2.1⟩) hj, em]
                  show tb ux _ = tb ux _
                  rw [show 64 * (x - b * W) + j = 64 * x + j - (64 * (b * W) + 0) by omega]
                obtain ⟨u1, u2, u3, vx, vm, K', dd', A', nm', o1, o2, o3, o4, o5, o6, o7, o8⟩ := l_layEnd (N := N) (v := v) t1 g gl hna hN hd (by rw [wrA_k (by decide)]; exact hkd) cn (by rw [wrA_k (by decide)]; exact h0) hbB hbW (fun x hx => by rw [wrA_k (by decide)]; exact (w4 x hx).1) (isNm_ok hnm) (rom_cg (by rw [bdA_k (by decide), bdA_k (by decide), wrA_k (by decide)]) (by rw [bdA_k (by decide), bdA_k (by decide), wrA_k (by decide)]) (by funext x; rw [bdA_17, bdA_17, wrA_k (by decide)]) (v3 hq)) hoc c40
                rw [m1, o5, o1, qb_s, o2, qb_s, o3, qb_s, o4, qb_s, qb_s]
                unfold fX10_lay_b23
                rw [qn_s]
                exact ⟨_, _, vm, rfl, rfl, fin_tp (Tn_Iv o6 o7 (by omega)) (o8.trans ((m4.1 27 (by decide)).trans ((fm.1 27 (by decide)).trans e27)))⟩
          · rw [if_pos ((slX_no (by omega)).mpr cn), if_pos ((slX_no (by omega)).mpr cn), qb_s]
            unfold fX10_lay_b23
            rw [qn_s]
            exact ⟨_, _, um2, rfl, rfl, stay⟩
    · rw [if_neg cr, if_neg cr, qb_s]
      unfold fX10_lay_b23
      rw [qn_s]
      exact ⟨_, _, um2, rfl, rfl, stay⟩
