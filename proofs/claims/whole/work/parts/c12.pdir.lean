/-! ===== dir ===== -/
theorem RXx_n {W Ls na n : Nat} {A : Nat → Nat → Nat} {nm : Nat → Int64} {K K2 : Nat → Nat → Int64} (r : RXx W Ls na A nm K n) (h : ∀ y w, y ≠ na + n → K2 y w = K y w) (hna : na = 80 + (Ls + 511) / 512) {A' : Nat → Nat → Nat} (t3 : TW3 W Ls (na + 64) A') (hn : n < 64) (htl : ∀ m r, tl A W m r = tl A' W m r) : RXx W Ls na A nm K2 n := by
  obtain ⟨r1, r2, r3⟩ := r
  refine ⟨fun x hx => ?_, fun m hm hne => ?_, fun m r hm hne ht => ?_⟩
  · rw [h _ _ (by omega)]; exact r1 x hx
  · have e : K2 (na + m) = K (na + m) := by funext w; exact h _ _ (by omega)
    rw [e]; exact r2 m hm hne
  · have q := t3.2.1 m r hm (by rw [← htl]; exact ht)
    rw [← htl] at q
    have e : K2 (tl A W m r) = K (tl A W m r) := by funext w; exact h _ _ (by omega)
    rw [e]; exact r3 m r hm hne ht
theorem p_dir {B T S C W Ls na : Nat} {L : Nat → Nat} {N : Nat} (g : Geo B T S C W Ls) (gl : gL B C W Ls L) (hna : na = 80 + (Ls + 511) / 512) (hN : 140000 ≤ N) : st_dir (Iv B T S C W Ls na) L N := by
  intro k ux um x0 v hk h
  have hl := g.l
  unfold fX10_dir fX11_dir fX11_create
  rcases l_begins (N := N) g gl hna hN hk h with ⟨vx, vm, z1, z2, z3⟩ | ⟨ux, um, D, kv, Ak, nk, K, dd, A, nm, z1, z2, t, c40⟩
  · rw [z1, z2, qb_s, qb_s, if_pos rfl, if_pos rfl, qb_s]
    exact ⟨_, vx, vm, rfl, rfl, z3⟩
  · rw [z1, z2, qb_s, qb_s, if_neg (by decide), if_neg (by decide)]
    have x := t.x g gl hna
    have rm := t.rm
    have stay : Iv B T S C W Ls na (k + 1) ux um := Tn_Iv t (by omega) (by omega)
    unfold fX10_enter
    obtain ⟨r, y1, y2, y3, y4⟩ := l_refAdd (N := N) t g gl hna (by omega) x0 v
    rw [y1, y2, qb_s, qb_s]
    by_cases cr : r = 0
    · obtain ⟨d, hd, e, hkd, hnm⟩ := y3 cr
      subst e
      rw [if_pos cr, if_pos cr, if_neg (by decide)]
      unfold fX10_enter_b47
      rw [x_lowestFree x (by omega), m_freeNode rm (by omega) (fun n hn => x.k4 hn), qb_s, qb_s]
      obtain ⟨n, hne⟩ : ∃ q, q = fnd (fun n => decide (A 5 n = 0)) 64 0 := ⟨_, rfl⟩
      rw [← hne]
      by_cases cn : n < 64
      · have h0 : A 5 n = 0 := by
          have := fnd_yes (fun n => decide (A 5 n = 0)) 64 0 (by omega)
          rw [← hne] at this
          exact of_decide_eq_true this
        rw [if_neg (fun z => (slX_no (by omega)).mp z cn), if_neg (fun z => (slX_no (by omega)).mp z cn)]
        unfold slX
        rw [if_pos cn]
        obtain ⟨q, w1, w2, w3⟩ := l_hasRoom (N := N) t g gl hna (by omega) hd hkd
        rw [w1, w2, qb_s, qb_s]
        cases hq : q with
        | false =>
          rw [b2i_f, if_pos rfl, if_pos rfl, qb_s, qb_s, if_pos (show (-16 : Int32) < 0 by decide)]
          exact ⟨_, ux, um, rfl, rfl, stay⟩
        | true =>
          rw [b2i_t, if_neg (by decide), if_neg (by decide)]
          obtain ⟨wx, w, hw, ew⟩ := t.wh
          obtain ⟨vx, vm, A', f, K', dd', dm, a1, a2, a3, a4, a5, a5b, a6, a7, a8, a9, a10, a11, a12, a13, a14, a15, a16, a17⟩ := l_mk (N := N) (k := 2) (m := 61) (v := v) t g gl hna (by omega) hd hkd cn h0 (by decide) ew (w3 hq)
          obtain ⟨u3, s1, s2⟩ := x_setHalf (N := N) (n := d) g gl a3 (x := na + n) (i := 18) (by omega) (by decide)
          rw [setb_id a5b] at s2
          have fs := fr_X6_setHalf s1
          have e30 : q_i vx 30 = nI na := by rw [a3.1.gx.2.2.2.2.2.2.2.2.2.2.2.1, hna]
          have s1' : fX4_setHolder L N (nI n) (nI d) vx = some ((), u3) := by
            unfold fX4_setHolder
            have s1 : fX6_setHalf L N (nI (na + n)) 18 (nI d) vx = some ((), u3) := s1
            rw [e30, nI_add, s1, qb_s]
          have fin : Tn B T S C W Ls na (300 * k + 200) D kv Ak nk (setH K' (na + n) 18 d) dd' (bnA (setA A' 14 (48 * d + f) n) n 2 0 d w 61) (setN nm (48 * d + f) v) u3 vm := by
            refine Tn_mk t s2 a4 a5 cn (by rw [a9]; exact h0) hd (by rw [a9]; exact hkd) (Or.inr (Or.inl ⟨rfl, rfl, rfl⟩)) hd hw (by decide) (isNm_ok hnm) a8 a10 a11 a6 (RXx_n a7 (fun y j hy => setH_w (fun z => hy z.1)) hna a8.2.2.1 cn (fun m r => congrFun (congrFun (tl_sc (setA_k (by decide)) (setA_k (by decide)) (setA_k (by decide)) (setA_k (by decide)) (setA_k (by decide))) m) r)) ?_ a14 a15 ((fs.1 7 (by decide)).trans (a16.1 7 (by decide))) ((fs.1 24 (by decide)).trans (a16.1 24 (by decide))) ((fs.1 0 (by decide)).trans (a16.1 0 (by decide))) (tpR_fr t.1.2.2.2.2.2.2.1 ((fs.1 32 (by decide)).trans (a16.1 32 (by decide))) (a17.1 27 (by decide)) ((fs.2.1 8 (by decide)).trans (a16.2.1 8 (by decide))) (a17.2.1 35 (by decide))) (fun q q1 q2 q3 => a17.1 q (by simp only [List.mem_cons, List.not_mem_nil, or_false]; omega)) (fun q q1 q2 q3 => a17.2.1 q (by simp only [List.mem_cons, List.not_mem_nil, or_false]; omega)) (a17.2.2 1 (by decide))
            have w0 : setH K' (na + n) 18 d (na + n) 0 = bgW 2 w 61 0 := by rw [setH_w (by omega), a12, setW_s]; rfl
            have ww : ∀ j, j ≠ 0 → K' (na + n) j = 0 := by
              intro j hj
              rw [a12, setW_n (fun z => hj z.2)]
              unfold updD
              rw [if_pos rfl]
            obtain ⟨b1, b2, b3, b4, b5⟩ := bg_facts (k := 2) (w := w) (m := 61) (one := 0) (by decide) hw (by decide) (Or.inl rfl)
            unfold mNode
            rw [bnA_5, bnA_7, bnA_8, bnA_11, bnA_12, w0, b1, b2, b3, b4, b5]
            refine ⟨rfl, fun _ => ⟨rfl, by rw [if_neg (by decide)], by rw [if_neg (by decide)], by rw [if_neg (by decide)]⟩, fun _ => ⟨fun p hp => ?_, ?_⟩, fun z => absurd z (by decide), fun z => absurd z (by decide), fun z => absurd z (by decide)⟩
            · rw [sH_set (by omega), if_neg (by omega), if_neg (by omega)]
              exact z_sH (ww _ (by omega))
            · rw [sH_set (by omega), if_pos ⟨rfl, rfl⟩]
          have a1' : ∃ u11, fX4_begin L N (nI n) 2 (q_i ux 0) 61 ux = some ((), u11) ∧ fX3_add L N (nI d) v (nI n) u11 = some ((), vx) := by
            obtain ⟨r0, u11, q1, q2⟩ := q_bnd_some a1
            refine ⟨u11, ?_, q2⟩
            rw [wx, ew]
            exact q1
          obtain ⟨u11, c1, c2⟩ := a1'
          have a2' : ∃ u14, fX11_enter N (nI d) v (nI n) (-1) um = some ((), u14) ∧ fX11_born N (nI n) 2 (nI d) u14 = some (nI n, vm) := by
            obtain ⟨r0, u14, q1, q2⟩ := q_bnd_some a2
            exact ⟨u14, q1, q2⟩
          obtain ⟨u14, c3, c4⟩ := a2'
          rw [c1, qb_s, c2, qb_s, qb_s, if_neg (nI_pos (by omega)), s1', qb_s, c3, qb_s, c4, qb_s]
          exact ⟨_, u3, vm, rfl, rfl, Tn_Iv fin (by omega) (by omega)⟩
      · rw [if_pos ((slX_no (by omega)).mpr cn), if_pos ((slX_no (by omega)).mpr cn), qb_s, if_pos (show (-16 : Int32) < 0 by decide)]
        exact ⟨_, ux, um, rfl, rfl, stay⟩
    · rw [if_neg cr, if_neg cr, qb_s, if_pos (y4 cr)]
      exact ⟨_, ux, um, rfl, rfl, stay⟩
