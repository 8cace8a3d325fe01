/-! ===== link ===== -/
/-- rows 14 and 15 alone change -/
theorem TW_sl {B W Ls fb : Nat} {A A2 : Nat → Nat → Nat} {nm nm2 : Nat → Int64} (t : TV B W Ls fb A nm) (h : ∀ k, k ≠ 14 → k ≠ 15 → A2 k = A k) (h15 : ∀ n, n < 64 → A2 15 n ≤ 255) (t4 : TW4 A2 nm2) : TW B W Ls fb A2 nm2 := by
  obtain ⟨t1, t2, t3, -⟩ := t
  have e5 := h 5 (by decide) (by decide)
  have e6 := h 6 (by decide) (by decide)
  have e7 := h 7 (by decide) (by decide)
  have e8 := h 8 (by decide) (by decide)
  have e9 := h 9 (by decide) (by decide)
  have e10 := h 10 (by decide) (by decide)
  have e11 := h 11 (by decide) (by decide)
  have e12 := h 12 (by decide) (by decide)
  have e13 := h 13 (by decide) (by decide)
  have e16 := h 16 (by decide) (by decide)
  have e17 := h 17 (by decide) (by decide)
  have e18 := h 18 (by decide) (by decide)
  refine ⟨?_, ?_, ?_, t4⟩
  · unfold TW1 at t1 ⊢
    rw [e5, e6, e7, e8, e11, e12, e13, e16, e17, e18]
    obtain ⟨q1, q2⟩ := t1
    refine ⟨fun n hn => ?_, q2⟩
    obtain ⟨p1, p2, p3, p4, p5⟩ := q1 n hn
    exact ⟨p1, p2, p3, h15 n hn, p5⟩
  · unfold TW2 szp at t2 ⊢
    rw [e5, e6, e9, e10]
    exact t2
  · unfold TW3 at t3 ⊢
    rw [tl_sc e5 e8 e9 e10 e13, e17]
    exact t3
theorem RX_of {W Ls na e : Nat} {A : Nat → Nat → Nat} {nm : Nat → Int64} {K : Nat → Nat → Int64} (r : RXx W Ls na A nm K e) (hm : e < 64 → mNode A W e (K (na + e))) (hr : e < 64 → ∀ r, tl A W e r ≠ 0 → mRole A nm e r (tl A W e r) (K (tl A W e r))) : RX W Ls na A nm K := by
  refine ⟨r.1, fun n hn => ?_, fun n q hn ht => ?_⟩
  · by_cases c : n = e
    · subst c; exact hm hn
    · exact r.2.1 n hn c
  · by_cases c : n = e
    · subst c; exact hr hn q ht
    · exact r.2.2 n q hn c ht
theorem RXx_sc {W Ls na n k0 v : Nat} {A : Nat → Nat → Nat} {nm : Nat → Int64} {K : Nat → Nat → Int64} (h0 : k0 = 6 ∨ k0 = 7 ∨ k0 = 11 ∨ k0 = 12 ∨ k0 = 15) (r : RXx W Ls na A nm K n) : RXx W Ls na (setA A k0 n v) nm K n := by
  obtain ⟨r1, r2, r3⟩ := r
  have e5 : setA A k0 n v 5 = A 5 := setA_k (by omega)
  have e8 : setA A k0 n v 8 = A 8 := setA_k (by omega)
  have e9 : setA A k0 n v 9 = A 9 := setA_k (by omega)
  have e10 : setA A k0 n v 10 = A 10 := setA_k (by omega)
  have e13 : setA A k0 n v 13 = A 13 := setA_k (by omega)
  have e14 : setA A k0 n v 14 = A 14 := setA_k (by omega)
  have e16 : setA A k0 n v 16 = A 16 := setA_k (by omega)
  have e17 : setA A k0 n v 17 = A 17 := setA_k (by omega)
  have e18 : setA A k0 n v 18 = A 18 := setA_k (by omega)
  have hrow : ∀ k m, m ≠ n → setA A k0 n v k m = A k m := by
    intro k m hm2
    unfold setA
    rw [if_neg (fun z => hm2 z.2)]
  refine ⟨fun x hx => ?_, fun m hm2 c => ?_, fun m r hm2 c ht => ?_⟩
  · rw [e17]; exact r1 x hx
  · have := r2 m hm2 c
    unfold mNode at this ⊢
    rw [e5, e8, e9, e10, e13, e16, hrow 6 m c, hrow 7 m c, hrow 11 m c, hrow 12 m c, hrow 15 m c]
    exact this
  · rw [tl_sc e5 e8 e9 e10 e13] at ht ⊢
    have := r3 m r hm2 c ht
    unfold mRole at this ⊢
    rw [e5, e9, e10, e14, e18]
    exact this
/-- a byte of the first word of a NODE that has LINKS -/
theorem mN_15 {W na n b : Nat} {A A2 : Nat → Nat → Nat} {K : Nat → Nat → Int64} (m : mNode A W n (K (na + n))) (hb : b < 256) (h13 : A 5 n = 1 ∨ A 5 n = 3) (h : ∀ k, k ≠ 14 → k ≠ 15 → k ≠ 8 → k ≠ 13 → k ≠ 17 → k ≠ 18 → A2 k = A k) (hb13 : A 5 n = 3 → A2 13 (12 * n) = A 13 (12 * n)) (h15 : A2 15 n = b) : mNode A2 W n (setO K (na + n) 3 b (na + n)) := by
  obtain ⟨p1, p2, p3, p4, p5, p6⟩ := m
  have w0 : setO K (na + n) 3 b (na + n) 0 = sOc (K (na + n) 0) 3 b := by
    unfold setO
    exact setW_s
  have ww : ∀ w, w ≠ 0 → setO K (na + n) 3 b (na + n) w = K (na + n) w := fun w hw => setO_w (fun z => hw (by omega))
  have hsH : ∀ j, 4 ≤ j → sH (setO K (na + n) 3 b (na + n)) j = sH (K (na + n)) j := fun j hj => by unfold sH; rw [ww _ (by omega)]
  have o : ∀ j, j < 4 → ocN (setO K (na + n) 3 b (na + n) 0) j = if j = 3 then b else ocN (K (na + n) 0) j := fun j hj => by rw [w0]; exact oc_set (by omega) (by omega) (by omega)
  have e5 := h 5 (by decide) (by decide) (by decide) (by decide) (by decide) (by decide)
  have e6 := h 6 (by decide) (by decide) (by decide) (by decide) (by decide) (by decide)
  have e7 := h 7 (by decide) (by decide) (by decide) (by decide) (by decide) (by decide)
  have e9 := h 9 (by decide) (by decide) (by decide) (by decide) (by decide) (by decide)
  have e10 := h 10 (by decide) (by decide) (by decide) (by decide) (by decide) (by decide)
  have e11 := h 11 (by decide) (by decide) (by decide) (by decide) (by decide) (by decide)
  have e12 := h 12 (by decide) (by decide) (by decide) (by decide) (by decide) (by decide)
  have e16 := h 16 (by decide) (by decide) (by decide) (by decide) (by decide) (by decide)
  unfold mNode
  rw [e5, e6, e9, e10, e11, e12, e16, w0, hi_set (by omega) (by omega), ← w0, h15]
  refine ⟨by rw [o 0 (by omega), if_neg (by omega)]; exact p1, fun q => ⟨?_, ?_, ?_, (p2 q).2.2.2⟩, fun q => by omega, fun q => ⟨fun k hk => ?_, ?_, ?_⟩, fun q => ?_, fun q j hj => by omega⟩
  · rw [o 1 (by omega), if_neg (by omega)]; exact (p2 q).1
  · rw [o 2 (by omega), if_neg (by omega)]; exact (p2 q).2.1
  · rw [o 3 (by omega), if_pos rfl, if_pos h13]
  · rw [hsH _ (by omega)]; exact (p4 q).1 k hk
  · rw [hsH _ (by omega)]; exact (p4 q).2.1
  · rw [hsH _ (by omega)]; exact (p4 q).2.2
  · rw [hsH _ (by omega), hb13 q]; exact p5 q
/-- one SLOT more has a NODE -/
theorem ln_TW {B W Ls fb d f n : Nat} {A A2 : Nat → Nat → Nat} {nm nm2 : Nat → Int64} (t : TW B W Ls fb A nm) (hd : d < 64) (hk : A 5 d = 2) (hf : f < 4 * A 8 d) (h14 : A 14 (48 * d + f) = 0) (hn : n < 64) (h13 : A 5 n = 1 ∨ A 5 n = 3) (h255 : A 15 n < 255) (h : ∀ k, k ≠ 14 → k ≠ 15 → A2 k = A k) (e14 : ∀ j, A2 14 j = if j = 48 * d + f then n else A 14 j) (e15 : ∀ m, A2 15 m = if m = n then A 15 n + 1 else A 15 m) (hnm : ∀ i, i ≠ 48 * d + f → nm2 i = nm i) (hok : okN (nm2 (48 * d + f))) : TW B W Ls fb A2 nm2 := by
  have h8 : A 8 d ≤ 12 := (t.1.1 d hd).2.2.2.2.2.1
  have hn0 : n ≠ 0 := fun z => by rw [z] at h13; have := t.1.2.1.1; omega
  have t4 := t.2.2.2
  refine TW_sl t.v h (fun m hm => ?_) ⟨fun j hj hz => ?_, fun m hm hm0 => ?_, fun m hm hm0 z => ?_, fun m hm hm0 z => ?_, fun m hm z => ?_⟩
  · have := (t.1.1 m hm).2.2.2.1
    rw [e15]
    split <;> omega
  · rw [e14] at hz ⊢
    rw [h 5 (by decide) (by decide), h 7 (by decide) (by decide), h 8 (by decide) (by decide)]
    by_cases c : j = 48 * d + f
    · rw [if_pos c, c, show (48 * d + f) / 48 = d by omega, show (48 * d + f) % 48 = f by omega]
      exact ⟨hk, hf, hn, by omega, hok, fun z => by omega⟩
    · rw [if_neg c] at hz ⊢
      rw [hnm j c]
      exact t4.1 j hj hz
  · rw [h 5 (by decide) (by decide), e15]
    by_cases c : m = n
    · subst c
      rw [if_pos rfl, if_neg (by omega)]
      have h1 : (fun j => decide (A2 14 j = m)) = setb (fun j => decide (A 14 j = m)) (48 * d + f) true := by
        funext j
        unfold setb
        rw [e14]
        by_cases c2 : j = 48 * d + f
        · rw [if_pos c2, if_pos c2]; simp
        · rw [if_neg c2, if_neg c2]
      have h2 := t4.2.1 m hm hn0
      rw [if_neg (by omega)] at h2
      rw [h1, cnt_set (by omega) (by simp [h14]; exact fun z => hn0 z.symm), h2]
    · rw [if_neg c, ← t4.2.1 m hm hm0]
      refine cnt_congr (fun j hj => ?_)
      rw [e14]
      by_cases c2 : j = 48 * d + f
      · rw [if_pos c2, c2, h14]
        have a1 : ¬ n = m := fun z => c z.symm
        have a2 : ¬ 0 = m := fun z => hm0 z.symm
        simp [a1, a2]
      · rw [if_neg c2]
  · rw [h 5 (by decide) (by decide)] at z
    rw [e15, if_neg (fun w => by rw [w] at z; omega)]
    exact t4.2.2.1 m hm hm0 z
  · rw [h 5 (by decide) (by decide)] at z
    have := t4.2.2.2.1 m hm hm0 z
    rw [e15]
    split <;> omega
  · rw [h 5 (by decide) (by decide)] at z
    obtain ⟨i, hi⟩ := t4.2.2.2.2 m hm z
    exact ⟨i, by rw [upn_cg (h 7 (by decide) (by decide))]; exact hi⟩
theorem NB_cg {W : Nat} {A A2 Ak : Nat → Nat → Nat} {dd dd2 : Nat → Bool} (nb : NB W A Ak dd) (h : ∀ k, k ≠ 14 → k ≠ 15 → A2 k = A k) (hd : ∀ x, dd2 x = false → dd x = false) : NB W A2 Ak dd2 := by
  have h5 := h 5 (by decide) (by decide)
  have htl := tl_sc (W := W) h5 (h 8 (by decide) (by decide)) (h 9 (by decide) (by decide)) (h 10 (by decide) (by decide)) (h 13 (by decide) (by decide))
  unfold NB
  rw [htl, h5, h 18 (by decide) (by decide)]
  intro n r hn q ht hz j hj
  exact nb n r hn q ht (hd _ hz) j hj
theorem p_link {B T S C W Ls na : Nat} {L : Nat → Nat} {N : Nat} (g : Geo B T S C W Ls) (gl : gL B C W Ls L) (hna : na = 80 + (Ls + 511) / 512) (hN : 140000 ≤ N) : st_link (Iv B T S C W Ls na) L N := by
  intro k ux um x0 v x2 hk h
  have hl := g.l
  unfold fX10_link fX11_link
  rcases l_begins (N := N) g gl hna hN hk h with ⟨vx, vm, z1, z2, z3⟩ | ⟨ux, um, D, kv, Ak, nk, K, dd, A, nm, z1, z2, t, c40⟩
  · rw [z1, z2, qb_s, qb_s, if_pos rfl, if_pos rfl]
    exact ⟨_, vx, vm, rfl, rfl, z3⟩
  · rw [z1, z2, qb_s, qb_s, if_neg (by decide), if_neg (by decide)]
    have x := t.x g gl hna
    have rm := t.rm
    have stay : Iv B T S C W Ls na (k + 1) ux um := Tn_Iv t (by omega) (by omega)
    unfold fX10_refusalToGoBy
    rcases nod x0 with ⟨d, hd, e⟩ | e
    · subst e
      rw [x_kindOf x hd, qb_s, m_isDir rm hd (x.k4 hd), qb_s]
      by_cases c : A 5 d = 2
      · rw [if_pos c, c, if_pos (show nI 2 = (2 : Int32) from rfl), if_neg (show ¬ (1 : Int32) = 0 by decide), x_isName (by omega), m_isName (by omega), qb_s, qb_s]
        cases hv : isNm v with
        | false =>
          rw [b2i_f, if_pos rfl, if_pos rfl, qb_s, if_neg (by decide)]
          exact ⟨_, ux, um, rfl, rfl, stay⟩
        | true =>
          rw [b2i_t, if_neg (by decide), if_neg (by decide), x_may x hd (by omega) (by omega), m_may rm hd, qb_s, qb_s, t.wh.1]
          rcases mayR_01 (q_i um 28) (nI (A 11 d)) (nI (A 12 d)) 3 with hm | hm
          · rw [hm, if_pos rfl, if_pos rfl, qb_s, if_neg (by decide)]
            exact ⟨_, ux, um, rfl, rfl, stay⟩
          · have h8 := x.t8 hd
            rw [hm, if_neg (by decide), if_neg (by decide), qb_s, if_pos rfl]
            rcases nod x2 with ⟨n, hn, e⟩ | e
            · subst e
              rw [x_hasLinks x hn, qb_s, (m_isFile rm hn (x.k4 hn)).1, qb_s]
              by_cases c13 : A 5 n = 1 ∨ A 5 n = 3
              · rw [if_pos c13, if_neg (by decide), if_neg (by decide), x_seek x (by omega) hd c (isNm_ok hv).1, m_slotOf rm (by omega) hd h8 x.t14, qb_s, qb_s]
                by_cases cf : fnd (sP A nm d v) (4 * A 8 d) 0 < 4 * A 8 d
                · rw [if_neg (fun z => (slX_no (by omega)).mp z cf), if_neg (fun z => (slM_no (by omega)).mp z cf)]
                  exact ⟨_, ux, um, rfl, rfl, stay⟩
                · have h255 := (x.2.2.2.1.1 n hn).2.2.2.1
                  rw [if_pos ((slX_no (by omega)).mpr cf), if_pos ((slM_no (by omega)).mpr cf), x_linksOf x hn (by omega), qb_s, if_pos c13, qn_s, nI_1, qr_n hn (by decide), rm.r7 (by decide) hn]
                  by_cases c255 : A 15 n = 255
                  · rw [if_neg (show ¬ nI (A 15 n + 1) ≤ (255 : Int32) from nI_ge (a := 255) (by omega) (by omega)), if_pos (by rw [c255]; rfl)]
                    exact ⟨_, ux, um, rfl, rfl, stay⟩
                  · rw [if_pos (show nI (A 15 n + 1) ≤ (255 : Int32) from nI_le (b := 255) (by omega) (by omega)), if_neg (show ¬ nI (A 15 n) = (255 : Int32) from fun z => c255 (nI_inj (b := 255) (by omega) (by decide) z))]
                    obtain ⟨q, w1, w2, w3⟩ := l_hasRoom (N := N) t g gl hna (by omega) hd c
                    rw [w1, w2, qb_s, qb_s]
                    cases hq : q with
                    | false =>
                      rw [b2i_f, if_pos rfl, if_pos rfl]
                      exact ⟨_, ux, um, rfl, rfl, stay⟩
                    | true =>
                      rw [b2i_t, if_neg (by decide), if_neg (by decide)]
                      obtain ⟨al, h7, dh, xs, ms, h80, -, tw, rx, nb⟩ := id t
                      have hdn : d ≠ n := fun z => by rw [z] at c; omega
                      have hn0 : n ≠ 0 := fun z => by rw [z] at c13; have := tw.1.2.1.1; omega
                      have e30 := x.na30.1
                      obtain ⟨u1, a1, a2⟩ := x_setOctet (N := N) (n := A 15 n + 1) g gl xs (x := na + n) (i := 3) (by omega) (by decide)
                      have fx1 := fr_X6_setOctet a1
                      have a1' : fX4_setLinks L N (nI n) (nI (A 15 n + 1)) ux = some ((), u1) := by
                        unfold fX4_setLinks
                        have a1 : fX6_setOctet L N (nI (na + n)) 3 (nI (A 15 n + 1)) ux = some ((), u1) := a1
                        rw [e30, nI_add, a1, qb_s]
                      have r1 : RXx W Ls na A nm (setO K (na + n) 3 (A 15 n + 1)) n := RXx_beg hna tw.2.2.1 rx hn (fun y w hy => setO_w (fun z => hy z.1))
                      have hlow := tw.2.2.1.2.2.2
                      have h80' : ∀ z, z < Ls → setb dd (na + n) true z = true → 80 ≤ z ∧ A 17 z = 1 := by
                        intro z hz hdz
                        unfold setb at hdz
                        split at hdz
                        · rename_i e; rw [e]; exact ⟨by omega, hlow _ (by omega)⟩
                        · exact h80 z hz hdz
                      obtain ⟨vx, vm, A', f, K', dd', dm', sx, b1, b2, b3, b4, b5, b6, b7, b8, b9, b10, b11, b12, b13, b14, b15, b16, b17, b18, b19, b20, b21⟩ := l_add (N := N) (v := v) (nd := n) (e := n) (dm := dd) (Ak := Ak) g gl hna (by omega) a2 ms rm al.1.gm tw.v r1 hdn hd c hn0 hn none (fun k e => by cases e) (w3 hq) h80' (NB_dd (fun z hz => setb_f hz) nb)
                      have b2 : fX11_enter N (nI d) v (nI n) (-1) um = some ((), vm) := b2
                      have tw' := b9 tw
                      have e15 : A' 15 = A 15 := b10 15 (by decide) (by decide) (by decide) (by decide)
                      have e5 : A' 5 = A 5 := b10 5 (by decide) (by decide) (by decide) (by decide)
                      have r15 : q_a vm 15 n = nI (A 15 n) := by rw [b6.r7 (by decide) hn, setA_k (by decide), e15]
                      have rm2 := RM_7 (n := n) (k0 := 15) (v := A 15 n + 1) b6 (by decide)
                      obtain ⟨w, hw⟩ : ∃ w, w = q_sa vm 15 (upd (q_a vm 15) n (nI (A 15 n + 1))) := ⟨_, rfl⟩
                      rw [← hw] at rm2
                      have ms2 : MS Ls dm' w := ⟨by rw [hw, qa_ne (by decide)]; exact b4.1, by rw [hw]; exact b4.2⟩
                      have e8 : q_i w 8 = nI (80 + (Ls + 511) / 512) := by rw [hw]; exact (b21.1 8 (by decide)).trans al.1.gm.2.2.2.2.2.2.2.2
                      obtain ⟨w4, s1, s2⟩ := m_soilNode (N := N) (n := n) g hna e8 ms2 hn
                      have fm := fr_X11_soilNode s1
                      have rm3 := RM_fr rm2 (fun k q1 q2 => fm.2.1 k (by simp only [List.mem_cons, List.not_mem_nil, or_false]; omega)) (fm.2.2 0 (by decide))
                      have r15' : q_a w4 15 n = nI (A 15 n + 1) := by rw [fm.2.1 15 (by decide), hw, qa_eq, up_s]
                      rw [a1', qb_s, b1, qb_s, b2, qb_s, qr_n hn (by decide), r15, nI_1, qw_n hn (by decide), cl_n (by omega), ← hw, s1, qb_s, qr_n hn (by decide), r15']
                      have hA2 : ∀ k, k ≠ 14 → k ≠ 15 → setA (setA A' 14 (48 * d + f) n) 15 n (A 15 n + 1) k = A' k := fun k k1 k2 => by rw [setA_k k2, setA_k k1]
                      have fin : Tn B T S C W Ls na (300 * k + 200) D kv Ak nk K' dd' (setA (setA A' 14 (48 * d + f) n) 15 n (A 15 n + 1)) (setN nm (48 * d + f) v) vx w4 := by
                        refine Tn_end t b3 s2 (fun z hz => ?_) (fun z hz hdz => ?_) rm3 ?_ ?_ (NB_cg b17 hA2 (fun _ z => z)) ((b20.1 7 (by decide)).trans (fx1.1 7 (by decide))) ((b20.1 24 (by decide)).trans (fx1.1 24 (by decide))) ((b20.1 0 (by decide)).trans (fx1.1 0 (by decide))) ?_ (fun q q1 q2 q3 => ?_) (fun q q1 q2 q3 => ?_) ?_
                        · rw [(b5 z).1]
                          unfold setb
                          rw [(b5 z).2]
                          split <;> simp
                        · rw [hA2 17 (by decide) (by decide)]
                          exact b16 z hz hdz
                        · refine ln_TW tw' hd (by rw [e5]; exact c) b11 b12 hn (by rw [e5]; exact c13) (by rw [e15]; omega) hA2 (fun j => ?_) (fun m => ?_) (fun i hi => if_neg hi) (by show okN (if 48 * d + f = 48 * d + f then v else nm (48 * d + f)); rw [if_pos rfl]; exact isNm_ok hv)
                          · rw [setA_k (by decide)]
                            by_cases cj : j = 48 * d + f
                            · rw [cj, setA_s, if_pos rfl]
                            · rw [setA_n cj, if_neg cj]
                          · rw [e15]
                            by_cases cm : m = n
                            · rw [cm, setA_s, if_pos rfl]
                            · rw [setA_n cm, if_neg cm, setA_k (by decide), e15]
                        · refine RX_of (RXx_sc (by omega) b7) (fun _ => ?_) (fun _ r ht => ?_)
                          · have eK : K' (na + n) = setO K (na + n) 3 (A 15 n + 1) (na + n) := by funext j; exact b13 n hn (fun z => hdn z.symm) j
                            rw [eK]
                            refine mN_15 (A := A) (rx.2.1 n hn) (by omega) c13 (fun k k1 k2 k3 k4 k5 k6 => by rw [hA2 k k1 k2, b10 k k3 k4 k5 k6]) (fun z => ?_) (by rw [setA_s])
                            rw [hA2 13 (by decide) (by decide)]
                            have h0 := (tw.1.2.2.2.2.1 n hn z).2.1
                            have e1 := tl_l (A := A) (W := W) (n := n) (i := 0) z (by have := g.w; omega)
                            have e2 := tl_l (A := A') (W := W) (n := n) (i := 0) (by rw [e5]; exact z) (by have := g.w; omega)
                            have := (b14 n (1114 + 0) hn (fun z => hdn z.symm) (by rw [e1]; omega)).1
                            omega
                          · have etl : tl (setA (setA A' 14 (48 * d + f) n) 15 n (A 15 n + 1)) W n r = tl A' W n r := congrFun (congrFun (tl_sc (hA2 5 (by decide) (by decide)) (hA2 8 (by decide) (by decide)) (hA2 9 (by decide) (by decide)) (hA2 10 (by decide) (by decide)) (hA2 13 (by decide) (by decide))) n) r
                            rw [etl] at ht ⊢
                            have e2 : tl A' W n r = tl A W n r := by
                              by_cases z : tl A W n r = 0
                              · exfalso
                                apply ht
                                unfold tl at z ⊢
                                rw [e5, b10 9 (by decide) (by decide) (by decide) (by decide), b10 10 (by decide) (by decide) (by decide) (by decide)]
                                by_cases k1 : A 5 n = 1
                                · rw [if_pos k1] at z ⊢; exact z
                                · have k3 : A 5 n = 3 := by omega
                                  rw [if_neg (by omega), if_neg (by omega), if_pos k3] at z
                                  have h0 := (tw.1.2.2.2.2.1 n hn k3).2.1
                                  by_cases cr : 1114 ≤ r ∧ r - 1114 < W
                                  · rw [if_pos cr] at z; omega
                                  · rw [if_neg k1, if_neg (by omega), if_pos k3, if_neg cr]
                              · exact (b14 n r hn (fun z => hdn z.symm) z).1
                            rw [e2] at ht ⊢
                            obtain ⟨-, g18, gK⟩ := b14 n r hn (fun z => hdn z.symm) ht
                            have ro := rx.2.2 n r hn ht
                            have eK : K' (tl A W n r) = K (tl A W n r) := by
                              funext j
                              rw [gK j]
                              have q := tw.2.2.1.2.1 n r hn ht
                              exact setO_w (fun z => by omega)
                            rw [eK]
                            obtain ⟨o1, o2, o3, o4, o5⟩ := ro
                            unfold mRole
                            rw [hA2 5 (by decide) (by decide), hA2 9 (by decide) (by decide), hA2 10 (by decide) (by decide), hA2 18 (by decide) (by decide), e5, b10 9 (by decide) (by decide) (by decide) (by decide), b10 10 (by decide) (by decide) (by decide) (by decide)]
                            refine ⟨fun z j hj => ?_, o2, o3, o4, fun z => by omega⟩
                            rw [o1 z j hj]
                            rcases g18 j with g18 | g18
                            · exact g18.symm
                            · omega
                        · refine tpR_fr al.2.2.2.2.2.2.1 ((b20.1 32 (by decide)).trans (fx1.1 32 (by decide))) ?_ ((b20.2.1 8 (by decide)).trans (fx1.2.1 8 (by decide))) ?_
                          · rw [fm.1 27 (by decide), hw]; exact b21.1 27 (by decide)
                          · rw [fm.2.1 35 (by decide), hw, qa_ne (by decide)]; exact b21.2.1 35 (by decide)
                        · rw [fm.1 q (by simp only [List.mem_cons, List.not_mem_nil, or_false]; omega), hw]
                          exact b21.1 q (by simp only [List.mem_cons, List.not_mem_nil, or_false]; omega)
                        · rw [fm.2.1 q (by simp only [List.mem_cons, List.not_mem_nil, or_false]; omega), hw, qa_ne (by omega)]
                          exact b21.2.1 q (by simp only [List.mem_cons, List.not_mem_nil, or_false]; omega)
                        · rw [fm.2.2 1 (by decide), hw]
                          exact b21.2.2 1 (by decide)
                      refine ⟨_, vx, w4, rfl, rfl, Tn_Iv fin ?_ (by omega)⟩
                      have := cnt_up1 (P := dd) (x := na + n) (n := Ls)
                      omega
              · rw [if_neg c13, if_pos rfl, if_pos rfl]
                exact ⟨_, ux, um, rfl, rfl, stay⟩
            · rw [x_hasLinksOut e, qb_s, m_isFileOut e, qb_s, if_pos rfl, if_pos rfl]
              exact ⟨_, ux, um, rfl, rfl, stay⟩
      · rw [if_neg c, if_pos rfl, if_neg (show ¬ nI (A 5 d) = (2 : Int32) from nI_k (b := 2) (x.k4 hd) (by decide) c), qb_s, if_neg (by decide)]
        exact ⟨_, ux, um, rfl, rfl, stay⟩
    · rw [x_kindOut e, qb_s, m_isDirOut e, qb_s, if_neg (by decide), if_pos rfl, qb_s, if_neg (by decide)]
      exact ⟨_, ux, um, rfl, rfl, stay⟩
