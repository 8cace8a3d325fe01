/-! ===== make, dir ===== -/
theorem RX_born {W Ls na n k sz par own bits : Nat} {A : Nat → Nat → Nat} {nm : Nat → Int64} {K : Nat → Nat → Int64} (r : RXx W Ls na A nm K n) (h9 : ∀ p, p < 1068 → A 9 (1068 * n + p) = 0) (h10 : ∀ i, i < 34 → A 10 (34 * n + i) = 0) (hk : k ≠ 3) (hm : mNode (bnA A n k sz par own bits) W n (K (na + n))) : RX W Ls na (bnA A n k sz par own bits) nm K := by
  obtain ⟨r1, r2, r3⟩ := r
  have br : ∀ r, r ≠ 5 ∧ r ≠ 6 ∧ r ≠ 7 ∧ r ≠ 8 ∧ r ≠ 15 ∧ r ≠ 11 ∧ r ≠ 12 → bnA A n k sz par own bits r = A r := fun r h => bnA_r h
  refine ⟨fun x hx => ?_, fun m hm2 => ?_, fun m r hm2 ht => ?_⟩
  · rw [br 17 (by decide)]; exact r1 x hx
  · by_cases c : m = n
    · rw [c]; exact hm
    · have q := r2 m hm2 c
      unfold mNode at q ⊢
      rw [bnA_o c, bnA_o c, bnA_o c, bnA_o c, bnA_o c, bnA_o c, bnA_o c, br 9 (by decide), br 10 (by decide), br 13 (by decide), br 16 (by decide)]
      exact q
  · rw [bn_tl h9 h10 hk] at ht ⊢
    by_cases c : m = n
    · rw [if_pos c] at ht; exact absurd rfl ht
    · rw [if_neg c] at ht ⊢
      have q := r3 m r hm2 c ht
      unfold mRole at q ⊢
      rw [bnA_o c, br 9 (by decide), br 10 (by decide), br 14 (by decide), br 18 (by decide)]
      exact q
theorem NB_bn {W n k sz par own bits j0 nd : Nat} {A Ak : Nat → Nat → Nat} {dd : Nat → Bool} (h9 : ∀ p, p < 1068 → A 9 (1068 * n + p) = 0) (h10 : ∀ i, i < 34 → A 10 (34 * n + i) = 0) (hk : k ≠ 3) (nb : NB W A Ak dd) : NB W (bnA (setA A 14 j0 nd) n k sz par own bits) Ak dd := by
  have e : ∀ r, r ≠ 14 → setA A 14 j0 nd r = A r := fun r h => setA_k h
  intro m r hm q ht hd j hj
  rw [bn_tl (by rw [e 9 (by decide)]; exact h9) (by rw [e 10 (by decide)]; exact h10) hk, tl_sc (e 5 (by decide)) (e 8 (by decide)) (e 9 (by decide)) (e 10 (by decide)) (e 13 (by decide))] at ht hd ⊢
  by_cases c : m = n
  · rw [if_pos c] at ht; exact absurd rfl ht
  · rw [if_neg c] at ht hd ⊢
    rw [bnA_o c, e 5 (by decide)] at q
    rw [bnA_r (by decide), e 18 (by decide)]
    exact nb m r hm q ht hd j hj
theorem sh_div (a k : Nat) : a >>> k = a / 2 ^ k := Nat.shiftRight_eq_div_pow a k
/-- the words of a new NODE -/
theorem bg_facts {k w m one : Nat} (hk : k < 5) (hw : w < 16) (hm : m < 64) (ho : one = 0 ∨ one = 1) : ocN (bgW k w m one) 0 = k ∧ ocN (bgW k w m one) 1 = w ∧ ocN (bgW k w m one) 2 = m ∧ ocN (bgW k w m one) 3 = one ∧ uN (bgW k w m one) >>> 32 = 0 := by
  have h := bg_u ⟨k, hk⟩ ⟨w, hw⟩ ⟨m, hm⟩
  dsimp only at h
  have e : uN (bgW k w m one) = k + 256 * w + 65536 * m + 16777216 * one := by
    rcases ho with q | q
    · rw [q, h.2, Nat.mul_zero, Nat.add_zero]
    · rw [q, h.1, Nat.mul_one]
  unfold ocN
  rw [e, sh_div, sh_div, sh_div, sh_div, sh_div]
  refine ⟨?_, ?_, ?_, ?_, ?_⟩ <;> omega
theorem z_sH {f : Nat → Int64} {i : Nat} (h : f (i / 4) = 0) : sH f i = 0 := by
  unfold sH hfN
  rw [h, uN_0, Nat.zero_shiftRight]
/-- the end of make and dir -/
theorem Tn_mk {B T S C W Ls na hb d n k sz par own bits f : Nat} {D kv : Nat → Nat → Int64} {Ak : Nat → Nat → Nat} {nk : Nat → Int64} {K K2 : Nat → Nat → Int64} {dd dd2 ddm : Nat → Bool} {A A' : Nat → Nat → Nat} {nm : Nat → Int64} {ux um vx vm : q_St} {v : Int64} (t : Tn B T S C W Ls na hb D kv Ak nk K dd A nm ux um) (xs : XS B T S C W Ls hb um D K2 dd2 vx) (ms : MS Ls ddm vm) (hdd : ∀ x, ddm x = dd2 x) (hn : n < 64) (h0 : A' 5 n = 0) (hd : d < 64) (hk : A' 5 d = 2) (hkk : (k = 1 ∧ sz = 0) ∨ (k = 2 ∧ sz = 0 ∧ par = d) ∨ (k = 4 ∧ 1 ≤ sz ∧ sz ≤ 40)) (hpar : par < 64) (ho : own < 16) (hb2 : bits < 64) (hv : okN v) (tw : TW B W Ls (na + 64) A' nm) (hf : f < 4 * A' 8 d) (h14 : A' 14 (48 * d + f) = 0)
    (rm : RM Ls (bnA (setA A' 14 (48 * d + f) n) n k sz par own bits) (setN nm (48 * d + f) v) (q_a vm) (q_j vm 0)) (rx : RXx W Ls na (setA A' 14 (48 * d + f) n) (setN nm (48 * d + f) v) K2 n) (hm : mNode (bnA (setA A' 14 (48 * d + f) n) n k sz par own bits) W n (K2 (na + n))) (h80 : ∀ x, x < Ls → dd2 x = true → 80 ≤ x ∧ A' 17 x = 1) (nb : NB W A' Ak dd2) (x7 : q_i vx 7 = q_i ux 7) (x24 : q_i vx 24 = q_i ux 24) (x0 : q_i vx 0 = q_i ux 0) (tp : tpR vx vm) (mi : ∀ k, k ≠ 25 → k ≠ 27 → k ≤ 28 → q_i vm k = q_i um k) (ma : ∀ k, (k ≤ 4 ∨ 19 ≤ k) → k ≤ 34 → k ≠ 33 → q_a vm k = q_a um k) (mj : q_j vm 1 = q_j um 1) :
    Tn B T S C W Ls na hb D kv Ak nk K2 dd2 (bnA (setA A' 14 (48 * d + f) n) n k sz par own bits) (setN nm (48 * d + f) v) vx vm := by
  have z2 := tw.2.1.1 n hn (by omega)
  have e : ∀ r, r ≠ 14 → setA A' 14 (48 * d + f) n r = A' r := fun r h => setA_k h
  refine Tn_end t xs ms (fun x _ => hdd x) (fun x hx hdx => ?_) rm (bn_TW tw hn h0 hd hk hf h14 hkk hpar ho hb2 (fun i hi => if_neg hi) (by show okN (if 48 * d + f = 48 * d + f then v else nm (48 * d + f)); rw [if_pos rfl]; exact hv)) (RX_born rx (by rw [e 9 (by decide)]; exact z2.1) (by rw [e 10 (by decide)]; exact z2.2) (by omega) hm) (NB_bn z2.1 z2.2 (by omega) nb) x7 x24 x0 tp mi ma mj
  rw [bnA_r (by decide), e 17 (by decide)]
  exact h80 x hx hdx
theorem p_make {B T S C W Ls na : Nat} {L : Nat → Nat} {N : Nat} (g : Geo B T S C W Ls) (gl : gL B C W Ls L) (hna : na = 80 + (Ls + 511) / 512) (hN : 140000 ≤ N) : st_make (Iv B T S C W Ls na) L N := by
  intro k ux um x0 v hk h
  have hl := g.l
  unfold fX10_make fX11_make fX11_create
  rcases l_begins (N := N) g gl hna hN hk h with ⟨vx, vm, z1, z2, z3⟩ | ⟨ux, um, D, kv, Ak, nk, K, dd, A, nm, z1, z2, t, c40⟩
  · rw [z1, z2, qb_s, qb_s, if_pos rfl, if_pos rfl, qb_s]
    exact ⟨_, vx, vm, rfl, rfl, z3⟩
  · rw [z1, z2, qb_s, qb_s, if_neg (by decide), if_neg (by decide)]
    have x := t.x g gl hna
    have rm := t.rm
    have stay : Iv B T S C W Ls na (k + 1) ux um := Tn_Iv t (by omega) (by omega)
    unfold fX10_enter
    obtain ⟨r, y1, y2, y3, -⟩ := l_refAdd (N := N) t g gl hna (by omega) x0 v
    rw [y1, y2, qb_s, qb_s]
    by_cases cr : r = 0
    · obtain ⟨d, hd, e, hkd, hnm⟩ := y3 cr
      subst e
      rw [if_pos cr, if_pos cr, if_neg (by decide)]
      unfold fX10_enter_b47
      rw [x_lowestFree x (by omega), m_freeNode rm (by omega) (fun n hn => x.k4 hn), qb_s, qb_s]
      obtain ⟨n, hne⟩ : ∃ q, q = fnd (fun n => decide (A 5 n = 0)) 64 0 := ⟨_, rfl⟩
      rw [← hne]
      by_cases cn : n < 64
      · have h0 : A 5 n = 0 := by
          have := fnd_yes (fun n => decide (A 5 n = 0)) 64 0 (by omega)
          rw [← hne] at this
          exact of_decide_eq_true this
        rw [if_neg (fun z => (slX_no (by omega)).mp z cn), if_neg (fun z => (slX_no (by omega)).mp z cn)]
        unfold slX
        rw [if_pos cn]
        obtain ⟨q, w1, w2, w3⟩ := l_hasRoom (N := N) t g gl hna (by omega) hd hkd
        rw [w1, w2, qb_s, qb_s]
        cases hq : q with
        | false =>
          rw [b2i_f, if_pos rfl, if_pos rfl, qb_s, qb_s]
          exact ⟨_, ux, um, rfl, rfl, stay⟩
        | true =>
          rw [b2i_t, if_neg (by decide), if_neg (by decide)]
          obtain ⟨wx, w, hw, ew⟩ := t.wh
          obtain ⟨vx, vm, A', f, K', dd', dm, a1, a2, a3, a4, a5, a5b, a6, a7, a8, a9, a10, a11, a12, a13, a14, a15, a16, a17⟩ := l_mk (N := N) (k := 1) (m := 52) (v := v) t g gl hna (by omega) hd hkd cn h0 (by decide) ew (w3 hq)
          have fin : Tn B T S C W Ls na (300 * k + 200) D kv Ak nk K' dd' (bnA (setA A' 14 (48 * d + f) n) n 1 0 0 w 52) (setN nm (48 * d + f) v) vx vm := by
            refine Tn_mk t a3 a4 a5 cn (by rw [a9]; exact h0) hd (by rw [a9]; exact hkd) (Or.inl ⟨rfl, rfl⟩) (by decide) hw (by decide) (isNm_ok hnm) a8 a10 a11 a6 a7 ?_ a14 a15 (a16.1 7 (by decide)) (a16.1 24 (by decide)) (a16.1 0 (by decide)) (tpR_fr t.1.2.2.2.2.2.2.1 (a16.1 32 (by decide)) (a17.1 27 (by decide)) (a16.2.1 8 (by decide)) (a17.2.1 35 (by decide))) (fun q q1 q2 q3 => a17.1 q (by simp only [List.mem_cons, List.not_mem_nil, or_false]; omega)) (fun q q1 q2 q3 => a17.2.1 q (by simp only [List.mem_cons, List.not_mem_nil, or_false]; omega)) (a17.2.2 1 (by decide))
            have z2 := a8.2.1.1 n cn (by rw [a9]; omega)
            have e : ∀ r, r ≠ 14 → setA A' 14 (48 * d + f) n r = A' r := fun r h => setA_k h
            have w0 : K' (na + n) 0 = bgW 1 w 52 1 := by rw [a12, setW_s]; rfl
            have ww : ∀ j, j ≠ 0 → K' (na + n) j = 0 := by
              intro j hj
              rw [a12, setW_n (fun z => hj z.2)]
              unfold updD
              rw [if_pos rfl]
            obtain ⟨b1, b2, b3, b4, b5⟩ := bg_facts (k := 1) (w := w) (m := 52) (one := 1) (by decide) hw (by decide) (Or.inr rfl)
            unfold mNode
            rw [bnA_5, bnA_6, bnA_11, bnA_12, bnA_15, w0, b1, b2, b3, b4, b5, bnA_r (r := 9) (by decide), bnA_r (r := 10) (by decide), e 9 (by decide), e 10 (by decide)]
            refine ⟨rfl, fun _ => ⟨rfl, by rw [if_neg (by decide)], by rw [if_pos (by decide)], by rw [if_pos (by decide)]⟩, fun z => absurd z (by decide), fun _ => ⟨fun p hp => ?_, ?_, ?_⟩, fun z => absurd z (by decide), fun z => absurd z (by decide)⟩
            · rw [z2.1 p (by omega)]
              exact z_sH (ww _ (by omega))
            · have := z2.2 0 (by decide)
              rw [Nat.add_zero] at this
              rw [this]
              exact z_sH (ww _ (by decide))
            · rw [z2.2 1 (by decide)]
              exact z_sH (ww _ (by decide))
          have a1' : ∃ u11, fX4_begin L N (nI n) 1 (q_i ux 0) 52 ux = some ((), u11) ∧ fX3_add L N (nI d) v (nI n) u11 = some ((), vx) := by
            obtain ⟨r0, u11, q1, q2⟩ := q_bnd_some a1
            refine ⟨u11, ?_, q2⟩
            rw [wx, ew]
            exact q1
          obtain ⟨u11, c1, c2⟩ := a1'
          have a2' : ∃ u14, fX11_enter N (nI d) v (nI n) (-1) um = some ((), u14) ∧ fX11_born N (nI n) 1 (nI d) u14 = some (nI n, vm) := by
            obtain ⟨r0, u14, q1, q2⟩ := q_bnd_some a2
            exact ⟨u14, q1, q2⟩
          obtain ⟨u14, c3, c4⟩ := a2'
          rw [c1, qb_s, c2, qb_s, qb_s, c3, qb_s, c4, qb_s]
          exact ⟨_, vx, vm, rfl, rfl, Tn_Iv fin (by omega) (by omega)⟩
      · rw [if_pos ((slX_no (by omega)).mpr cn), if_pos ((slX_no (by omega)).mpr cn), qb_s]
        exact ⟨_, ux, um, rfl, rfl, stay⟩
    · rw [if_neg cr, if_neg cr, qb_s]
      exact ⟨_, ux, um, rfl, rfl, stay⟩
