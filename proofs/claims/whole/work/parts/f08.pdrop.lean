/-! ===== a SLOT dropped, in both ===== -/
theorem dn_TW {B W Ls fb n j0 : Nat} {A A2 : Nat → Nat → Nat} {nm : Nat → Int64} (t : TW B W Ls fb A nm) (hj : j0 < 3072) (h14 : A 14 j0 = n) (hn : n < 64) (hn0 : n ≠ 0) (h1 : 1 < A 15 n) (h : ∀ k, k ≠ 14 → k ≠ 15 → A2 k = A k) (e14 : ∀ j, A2 14 j = if j = j0 then 0 else A 14 j) (e15 : ∀ m, A2 15 m = if m = n then A 15 n - 1 else A 15 m) : TW B W Ls fb A2 nm := by
  have t4 := t.2.2.2
  have h5 : A 5 n ≠ 0 := by
    have := (t4.1 j0 hj (by rw [h14]; exact hn0)).2.2.2.1
    rw [h14] at this
    exact this
  have k5 := h 5 (by decide) (by decide)
  refine TW_sl t.v h (fun m hm => ?_) ⟨fun j hj2 hz => ?_, fun m hm hm0 => ?_, fun m hm hm0 z => ?_, fun m hm hm0 z => ?_, fun m hm z => ?_⟩
  · have := (t.1.1 m hm).2.2.2.1
    rw [e15]
    split
    · rename_i c; rw [c] at this; omega
    · omega
  · rw [e14] at hz ⊢
    by_cases c : j = j0
    · rw [if_pos c] at hz; exact absurd rfl hz
    · rw [if_neg c] at hz ⊢
      rw [k5, h 7 (by decide) (by decide), h 8 (by decide) (by decide)]
      exact t4.1 j hj2 hz
  · rw [k5, e15]
    by_cases c : m = n
    · rw [if_pos c, c, if_neg h5]
      have h2 := t4.2.1 n hn hn0
      rw [if_neg h5] at h2
      have h3 : (fun j => decide (A2 14 j = n)) = setb (fun j => decide (A 14 j = n)) j0 false := by
        funext j
        unfold setb
        rw [e14]
        by_cases c2 : j = j0
        · rw [if_pos c2, if_pos c2]
          exact decide_eq_false (fun z => hn0 z.symm)
        · rw [if_neg c2, if_neg c2]
      have q := cnt_clr (P := fun j => decide (A 14 j = n)) (x := j0) hj (decide_eq_true h14)
      rw [h3]
      omega
    · rw [if_neg c, ← t4.2.1 m hm hm0]
      refine cnt_congr (fun j hj2 => ?_)
      rw [e14]
      by_cases c2 : j = j0
      · rw [if_pos c2, c2, h14]
        have a1 : ¬ 0 = m := fun z => hm0 z.symm
        have a2 : ¬ n = m := fun z => c z.symm
        simp [a1, a2]
      · rw [if_neg c2]
  · rw [k5] at z
    have := t4.2.2.1 m hm hm0 z
    rw [e15, if_neg (fun c => by rw [c] at this; omega)]
    exact this
  · rw [k5] at z
    have := t4.2.2.2.1 m hm hm0 z
    rw [e15]
    split <;> omega
  · rw [k5] at z
    obtain ⟨i, hi⟩ := t4.2.2.2.2 m hm z
    exact ⟨i, by rw [upn_cg (h 7 (by decide) (by decide))]; exact hi⟩
theorem l_dropSlot {B T S C W Ls na hb d f n : Nat} {D kv : Nat → Nat → Int64} {Ak : Nat → Nat → Nat} {nk : Nat → Int64} {K : Nat → Nat → Int64} {dd : Nat → Bool} {A : Nat → Nat → Nat} {nm : Nat → Int64} {L : Nat → Nat} {N : Nat} {ux um : q_St} (t : Tn B T S C W Ls na hb D kv Ak nk K dd A nm ux um) (g : Geo B T S C W Ls) (gl : gL B C W Ls L) (hna : na = 80 + (Ls + 511) / 512) (hN : 3000 ≤ N) (hd : d < 64) (hk : A 5 d = 2) (hf : f < 4 * A 8 d) (h14 : A 14 (48 * d + f) = n) (hn0 : n ≠ 0) (he : A 5 n = 2 → ∀ s, s < 48 → A 14 (48 * n + s) = 0) :
    ∃ u1 vx vm c K2 dd2 A2, fX3_takeOut L N (nI d) (nI f) ux = some ((), u1) ∧ fX0_dropOne L N (nI n) u1 = some (nI c, vx) ∧ fX11_dropSlot N (nI (48 * d + f)) um = some (nI c, vm) ∧ Tn B T S C W Ls na hb D kv Ak nk K2 dd2 A2 nm vx vm ∧ cnt dd2 Ls ≤ cnt dd Ls + 6 ∧ (∀ j, A2 14 j = if j = 48 * d + f then 0 else A 14 j) ∧ (∀ m, m ≠ n → A2 5 m = A 5 m ∧ A2 8 m = A 8 m) ∧ A2 7 = A 7 := by
  have hl := g.l
  have x := t.x g gl hna
  have rm := t.rm
  obtain ⟨al, h7, dh, xs, ms, h80, -, tw, rx, nb⟩ := id t
  have gm := al.1.gm
  have h8 := x.t8 hd
  have hj : 48 * d + f < 3072 := by omega
  have s4 := tw.2.2.2.1 (48 * d + f) hj (by rw [h14]; exact hn0)
  rw [h14] at s4
  have hn := s4.2.2.1
  have h5 := s4.2.2.2.1
  have hdn : A 5 n = 2 → d ≠ n := by
    intro z e
    have := he z f (by omega)
    rw [← e, h14] at this
    exact hn0 this
  have h151 := tw.2.2.2.2.2.2.1 n hn hn0 h5
  have hlow := tw.2.2.1.2.2.2
  have hb1 := (dirB x hd hk (show f / 4 < A 8 d by omega)).1
  obtain ⟨X, hX⟩ : ∃ X, X = A 13 (12 * d + f / 4) := ⟨_, rfl⟩
  obtain ⟨u1, a1, a2, a3, a4⟩ := x_takeOut (N := N) x hd hk hf
  rw [← hX] at hb1 a2 a3
  obtain ⟨K0, hK0⟩ : ∃ q, q = fsK K X (f % 4) 0 0 := ⟨_, rfl⟩
  rw [← hK0] at a2 a3
  have kn : ∀ m w, m < 64 → K0 (na + m) w = K (na + m) w := fun m w hm => by rw [hK0]; exact fsK_o (by omega)
  have mn := rx.2.1 n hn
  have oc3 := (mn.2.1 h5).2.2.1
  have e14 : ∀ j, setA A 14 (48 * d + f) 0 14 j = if j = 48 * d + f then 0 else A 14 j := by
    intro j
    by_cases c : j = 48 * d + f
    · rw [c, setA_s, if_pos rfl]
    · rw [setA_n c, if_neg c]
  have sk : ∀ k, k ≠ 14 → setA A 14 (48 * d + f) 0 k = A k := fun k h => setA_k h
  -- the reference, up to the LINKS
  have r1 := RM_14z (j := 48 * d + f) rm
  obtain ⟨w1, hw1⟩ : ∃ q, q = q_sa um 14 (upd (q_a um 14) (48 * d + f) (-1)) := ⟨_, rfl⟩
  rw [← hw1] at r1
  have ms1 : MS Ls dd w1 := ⟨by rw [hw1, qa_ne (by decide)]; exact ms.1, by rw [hw1]; exact ms.2⟩
  obtain ⟨w2, s1, s2⟩ := m_soilSlot (N := N) (A := A) (nm := nm) (d := d) (f := f) (x := X) hl.2 (by rw [hw1, qa_ne (by decide), rm.2.2.2.2.1 _ (by omega), hX]) ms1 hd (by omega) hb1.2.1
  have f2 := fr_X11_soilSlot s1
  have e8 : q_i w2 8 = nI (80 + (Ls + 511) / 512) := by rw [f2.1 8 (by decide), hw1]; exact gm.2.2.2.2.2.2.2.2
  obtain ⟨w3, s3, s5⟩ := m_soilNode (N := N) (n := n) g hna e8 s2 hn
  have f3 := fr_X11_soilNode s3
  have r3 : RM Ls (setA A 14 (48 * d + f) 0) nm (q_a w3) (q_j w3 0) := RM_fr (RM_fr r1 (fun k q1 q2 => f2.2.1 k (by simp only [List.mem_cons, List.not_mem_nil, or_false]; omega)) (f2.2.2 0 (by decide))) (fun k q1 q2 => f3.2.1 k (by simp only [List.mem_cons, List.not_mem_nil, or_false]; omega)) (f3.2.2 0 (by decide))
  have r15 : q_a w3 15 n = nI (A 15 n) := by rw [r3.r7 (by decide) hn, sk 15 (by decide)]
  have r4 := RM_7 (n := n) (k0 := 15) (v := A 15 n - 1) r3 (by decide)
  obtain ⟨w4, hw4⟩ : ∃ q, q = q_sa w3 15 (upd (q_a w3 15) n (nI (A 15 n - 1))) := ⟨_, rfl⟩
  rw [← hw4] at r4
  have ms4 : MS Ls (setb (setb dd X true) (na + n) true) w4 := ⟨by rw [hw4, qa_ne (by decide)]; exact s5.1, by rw [hw4]; exact s5.2⟩
  have fm4 : Fr [25] [14, 15, 33] [] um w4 := by
    have q1 : Fr [25] [14, 15, 33] [] um w1 := by rw [hw1]; exact fr_sa1 _ (by decide)
    have q2 : Fr [25] [14, 15, 33] [] w3 w4 := by rw [hw4]; exact fr_sa1 _ (by decide)
    exact ((q1.trans (f2.mono (by decide) (by decide) (by decide))).trans (f3.mono (by decide) (by decide) (by decide))).trans q2
  have r15' : q_a w4 15 n = nI (A 15 n - 1) := by rw [hw4, qa_eq, up_s]
  have hM : fX11_dropSlot N (nI (48 * d + f)) um = if nI (A 15 n - 1) ≤ 0 then q_rd 64 (q_a w4 5) (nI n) (fun v12 => if v12 = 3 then q_bnd (fX11_unlay N (nI n) w4) (fun r21 u22 => fX11_dropSlot_b87 N (nI n) r21 u22) else q_rd 64 (q_a w4 5) (nI n) (fun v13 => if v13 = 2 then q_bnd (fX11_undo N (nI n) w4) (fun r18 u19 => fX11_dropSlot_b87 N (nI n) r18 u19) else q_bnd (fX11_shrink N (nI n) 0 w4) (fun r14 u15 => fX11_dropSlot_b87 N (nI n) r14 u15))) else some (0, w4) := by
    unfold fX11_dropSlot
    rw [qr_n (by omega) (by omega), (rm.2.2.2.2.2.1 _ hj).1, h14, i0_ne hn0, qw_n (by omega) (by omega), cl_n (by omega), ← hw1, s1, qb_s, s3, qb_s, qr_n hn (by decide), r15, show nI (A 15 n) - (1 : Int32) = nI (A 15 n - 1) from pk_sub (b := 1) h151, qw_n hn (by decide), cl_n (by omega), ← hw4, qr_n hn (by decide), r15']
  have tp : ∀ vx vm, Fr [13, 22] [5] [2] ux vx → q_i vm 27 = q_i um 27 → q_a vm 35 = q_a um 35 → tpR vx vm := fun vx vm fx m27 m35 => tpR_fr al.2.2.2.2.2.2.1 (fx.1 32 (by decide)) m27 (fx.2.1 8 (by decide)) m35
  have row5 : q_a w4 5 n = nI (A 5 n) := by rw [r4.r7 (by decide) hn, setA_k (by decide), sk 5 (by decide)]
  by_cases c1 : A 15 n = 1
  · -- the last LINK
    rw [c1] at r4 hM
    have hlk : ocN (K0 (na + n) 0) 3 ≤ 1 := by
      rw [kn n 0 hn, oc3]
      split <;> omega
    have t1' : TW1 W B (setA A 14 (48 * d + f) 0) := by
      have := tw.1
      unfold TW1 at this ⊢
      rw [sk 5 (by decide), sk 6 (by decide), sk 7 (by decide), sk 8 (by decide), sk 11 (by decide), sk 12 (by decide), sk 13 (by decide), sk 15 (by decide), sk 16 (by decide), sk 17 (by decide), sk 18 (by decide)]
      exact this
    have ht' : tl (setA A 14 (48 * d + f) 0) W = tl A W := tl_sc (sk 5 (by decide)) (sk 8 (by decide)) (sk 9 (by decide)) (sk 10 (by decide)) (sk 13 (by decide))
    have t2' : TW2 (szp (setA A 14 (48 * d + f) 0)) (setA A 14 (48 * d + f) 0) := by
      have := tw.2.1
      unfold TW2 szp at this ⊢
      rw [sk 5 (by decide), sk 6 (by decide), sk 9 (by decide), sk 10 (by decide)]
      exact this
    have t3' : TW3 W Ls (na + 64) (setA A 14 (48 * d + f) 0) := by
      have := tw.2.2.1
      unfold TW3 at this ⊢
      rw [ht', sk 17 (by decide)]
      exact this
    have zk : ∀ k, k ≠ 14 → k ≠ 15 → setA (setA A 14 (48 * d + f) 0) 15 n 0 k = A k := fun k k1 k2 => by rw [setA_k k2, sk k k1]
    have ht0 : tl (setA (setA A 14 (48 * d + f) 0) 15 n 0) W = tl A W := tl_sc (zk 5 (by decide) (by decide)) (zk 8 (by decide) (by decide)) (zk 9 (by decide) (by decide)) (zk 10 (by decide) (by decide)) (zk 13 (by decide) (by decide))
    obtain ⟨u2, K1, dd1, Px, b1, b2, b3, b4, b5⟩ := x_drp (N := N) (n := n) g gl hna (by omega) t1' t2' t3' hn (by rw [sk 5 (by decide)]; exact h5) a2 a3 hlk
    have e1 : setA (setA (setA A 14 (48 * d + f) 0) 15 n 0) 15 n 1 = setA A 14 (48 * d + f) 0 := by
      funext k j
      by_cases c : k = 15 ∧ j = n
      · rw [c.1, c.2, setA_s, sk 15 (by decide), c1]
      · unfold setA
        rw [if_neg c, if_neg c]
    have gm4 : gM B T S C W Ls w4 := by
      obtain ⟨m1, m2, m3, m4, m5, m6, m7, m8, m9⟩ := gm
      refine ⟨?_, ?_, ?_, ?_, ?_, ?_, ?_, ?_, ?_⟩ <;> (rw [fm4.1 _ (by decide)]; assumption)
    obtain ⟨vm, A1, dm1, Pm, d1, d2, d3, d4, d5, d6⟩ := m_drp (N := N) (n := n) (A := setA (setA A 14 (48 * d + f) 0) 15 n 0) g hna hN (by rw [e1]; exact t1') (by
      have := tw.2.1
      unfold TW2 szp at this ⊢
      rw [zk 5 (by decide) (by decide), zk 6 (by decide) (by decide), zk 9 (by decide) (by decide), zk 10 (by decide) (by decide)]
      exact this) (by
      have := tw.2.2.1
      unfold TW3 at this ⊢
      rw [ht0, zk 17 (by decide) (by decide)]
      exact this) hn (by rw [zk 5 (by decide) (by decide)]; exact h5) r4 ms4 gm4
    rw [zk 5 (by decide) (by decide)] at d1
    rw [ht'] at b4
    rw [ht0] at d5
    have ePP : Px = Pm := by
      funext r
      rw [Bool.eq_iff_iff, b4 r, d5 r]
    subst ePP
    have gbA : GB A W na n Ls Px K0 K1 (setb dd X true) dd1 := GB_cg b3 (sk 5 (by decide)).symm (sk 8 (by decide)).symm (sk 9 (by decide)).symm (sk 10 (by decide)).symm (sk 13 (by decide)).symm (sk 17 (by decide)).symm
    have df := DF_of d4
    have dtm : DT A W na n Ls Px (setb (setb dd X true) (na + n) true) dm1 := by
      have := d4.2.2.2.2.2.1
      have ev : gvn (setA (setA A 14 (48 * d + f) 0) 15 n 0) W n Px = gvn A W n Px := by funext z; unfold gvn; rw [ht0]
      have et : tel (setA (setA A 14 (48 * d + f) 0) 15 n 0) W na n = tel A W na n := by funext r; unfold tel; rw [ht0]
      unfold DT at this ⊢
      rw [ev, et, ht0] at this
      exact this
    have h9 : (∀ q, q < 1068 → A 9 (1068 * n + q) = tl A W n q) ∧ (∀ i, i < 34 → A 10 (34 * n + i) = tl A W n (1068 + i)) := by
      by_cases k1 : A 5 n = 1
      · exact ⟨fun q hq => (tl_p k1 hq).symm, fun i hi => (tl_i k1 hi).symm⟩
      · have q := tw.2.1.1 n hn k1
        have z : ∀ r, r < 1102 → tl A W n r = 0 := by
          intro r hr
          unfold tl
          rw [if_neg k1]
          by_cases k2 : A 5 n = 2
          · rw [if_pos k2, if_neg (by omega)]
          · rw [if_neg k2]
            by_cases k3 : A 5 n = 3
            · rw [if_pos k3, if_neg (by omega)]
            · rw [if_neg k3]
        exact ⟨fun p hp => by rw [z _ (by omega)]; exact q.1 p hp, fun i hi => by rw [z _ (by omega)]; exact q.2 i hi⟩
    have twf := dr_TW tw (by omega) hn hn0 hj h14 c1 he b4 h9.1 h9.2 df
    have rxf := dr_RX (B := B) hna (by omega) tw.2.2.1 hn a3 gbA df
    have dtx := gbA.2.2.2.2.2.1
    -- which SECTORS are DIRTY
    have dsub : ∀ z, z < Ls → setb dd1 (na + n) true z = true → z = na + n ∨ (¬ gvn A W n Px z ∧ ((80 ≤ z ∧ z < na) ∨ z = X ∨ dd z = true)) := by
      intro z hz hdz
      by_cases c : z = na + n
      · exact Or.inl c
      · right
        rw [setb_n c] at hdz
        obtain ⟨q1, q2⟩ := (dtx z hz c).mp hdz
        refine ⟨q1, ?_⟩
        rcases q2 with ⟨r, p1, p2 | p2⟩ | q2
        · have hr := tw.2.2.1.2.1 n r hn ((b4 r).mp p1)
          left; omega
        · exfalso
          unfold tel at p2
          by_cases co : own r = true
          · rw [if_pos co] at p2; exact c p2
          · rw [if_neg co] at p2
            by_cases w0 : tl A W n (trl r) = 0
            · have k1 : A 5 n = 1 := by
                have ho := own_f co
                have hr := (b4 r).mp p1
                by_cases k1 : A 5 n = 1
                · exact k1
                · exfalso
                  apply hr
                  have z9 := h9.1
                  unfold tl
                  rw [if_neg k1]
                  by_cases k2 : A 5 n = 2
                  · rw [if_pos k2, if_neg (by omega)]
                  · rw [if_neg k2]
                    by_cases k3 : A 5 n = 3
                    · rw [if_pos k3, if_neg (by omega)]
                    · rw [if_neg k3]
              have ft := FT_of (W := W) tw.2.1 hn k1
              have ho := own_f co
              have hr := (b4 r).mp p1
              rcases ho with ho | ho
              · exact absurd w0 (ft.1 r ho.1 ho.2 hr)
              · have et : trl r = 1069 := by unfold trl; rw [if_neg (by omega), if_neg (by omega)]
                rw [et] at w0
                exact absurd w0 (ft.2.2.1 (r - 1070) (by omega) (by rw [show 1070 + (r - 1070) = r by omega]; exact hr))
            · exact q1 ⟨trl r, (b4 _).mpr w0, p2.symm⟩
        · by_cases cX : z = X
          · exact Or.inr (Or.inl cX)
          · rw [setb_n cX] at q2
            exact Or.inr (Or.inr q2)
    have Xng : ¬ gvn A W n Px X := by
      rintro ⟨r, p1, p2⟩
      have et : tl A W d (1102 + f / 4) = X := by
        rw [hX]
        exact tl_d hk (by omega)
      have := tw.2.2.1.1 n r d (1102 + f / 4) hn hd ((b4 r).mp p1) (by rw [p2, et])
      exact hdn (by rw [this.1]; exact hk) this.1.symm
    refine ⟨u1, u2, vm, cnt Px 1400, updD K1 (na + n) (fun _ => 0), setb dd1 (na + n) true, setA (setA A1 8 n 0) 5 n 0, a1, b1, ?_, ?_, ?_, df.2.2.2.2.2.1, fun m hm => ⟨by rw [df.1, if_neg hm], by rw [df.2.1, if_neg hm]⟩, df.2.2.2.2.2.2.2.2.1⟩
    · rw [hM, if_pos (by decide), qr_n hn (by decide), row5]
      exact d1
    · refine Tn_end t b2 d3 (fun z hz => ?_) (fun z hz hdz => ?_) d2 twf rxf ?_ ((b5.1 7 (by decide)).trans (a4.1 7 (by decide))) ((b5.1 24 (by decide)).trans (a4.1 24 (by decide))) ((b5.1 0 (by decide)).trans (a4.1 0 (by decide))) (tp _ _ (a4.trans b5) ((d6.1 27 (by decide)).trans (fm4.1 27 (by decide))) ((d6.2.1 35 (by decide)).trans (fm4.2.1 35 (by decide)))) (fun q q1 q2 q3 => ?_) (fun q q1 q2 q3 => ?_) ((d6.2.2 1 (by decide)).trans (fm4.2.2 1 (by decide)))
      · by_cases c : z = na + n
        · rw [c, setb_s]
          exact d4.2.2.2.2.2.2 setb_s
        · rw [setb_n c]
          exact (DT_eq dtx dtm (fun z hz hne => by rw [setb_n hne]) hz c).symm
      · rw [(df.2.2.2.2.1 z).2]
        rcases dsub z hz hdz with q | ⟨q1, q2⟩
        · rw [q]
          refine ⟨by omega, hlow _ (by omega), fun ⟨r, p1, p2⟩ => ?_⟩
          have := tw.2.2.1.2.1 n r hn ((b4 r).mp p1)
          omega
        · rcases q2 with q2 | q2 | q2
          · exact ⟨q2.1, hlow _ (by omega), q1⟩
          · rw [q2]; rw [q2] at q1; exact ⟨by omega, hb1.2.2, q1⟩
          · exact ⟨(h80 z hz q2).1, (h80 z hz q2).2, q1⟩
      · intro m r hm q ht hdz j hj2
        rw [DF_tl df] at ht hdz ⊢
        by_cases c : m = n
        · rw [if_pos c] at ht; exact absurd rfl ht
        · rw [if_neg c] at ht hdz ⊢
          rw [df.1, if_neg c] at q
          rw [df.2.2.2.2.2.2.2.2.2.2.2.2.2]
          have hq := tw.2.2.1.2.1 m r hm ht
          refine nb m r hm q ht ?_ j hj2
          cases hdd : dd (tl A W m r) with
          | false => rfl
          | true =>
            exfalso
            have ng : ¬ gvn A W n Px (tl A W m r) := fun ⟨r', p1, p2⟩ => c (tw.2.2.1.1 m r n r' hm hn ht p2.symm).1
            have : dd1 (tl A W m r) = true := (dtx _ hq.2.1 (by omega)).mpr ⟨ng, Or.inr (by
              unfold setb
              split
              · rfl
              · exact hdd)⟩
            rw [setb_n (by omega), this] at hdz
            cases hdz
      · exact (d6.1 q (by simp only [List.mem_cons, List.not_mem_nil, or_false]; omega)).trans (fm4.1 q (by simp only [List.mem_cons, List.not_mem_nil, or_false]; omega))
      · exact (d6.2.1 q (by simp only [List.mem_cons, List.not_mem_nil, or_false]; omega)).trans (fm4.2.1 q (by simp only [List.mem_cons, List.not_mem_nil, or_false]; omega))
    · have m1 : cnt (setb dd1 (na + n) true) Ls ≤ cnt (setb (setb (setb (setb (setb (setb dd 80 true) 81 true) 82 true) 83 true) X true) (na + n) true) Ls := by
        refine cnt_mono (fun z hz hdz => ?_)
        rcases dsub z hz hdz with q | ⟨q1, q2⟩
        · rw [q, setb_s]
        · unfold setb
          rcases q2 with q2 | q2 | q2
          · have : z = 80 ∨ z = 81 ∨ z = 82 ∨ z = 83 := by omega
            repeat' split
            all_goals first | rfl | omega
          · repeat' split
            all_goals first | rfl | omega
          · repeat' split
            all_goals first | rfl | exact q2
      have q1 := cnt_up1 (P := setb (setb (setb (setb (setb dd 80 true) 81 true) 82 true) 83 true) X true) (x := na + n) (n := Ls)
      have q2 := cnt_up1 (P := setb (setb (setb (setb dd 80 true) 81 true) 82 true) 83 true) (x := X) (n := Ls)
      have q3 := cnt_up1 (P := setb (setb (setb dd 80 true) 81 true) 82 true) (x := 83) (n := Ls)
      have q4 := cnt_up1 (P := setb (setb dd 80 true) 81 true) (x := 82) (n := Ls)
      have q5 := cnt_up1 (P := setb dd 80 true) (x := 81) (n := Ls)
      have q6 := cnt_up1 (P := dd) (x := 80) (n := Ls)
      omega
  · -- LINKS are left
    have k13 : A 5 n = 1 ∨ A 5 n = 3 := by
      have h4 := x.k4 hn
      by_cases k24 : A 5 n = 2 ∨ A 5 n = 4
      · exact absurd (tw.2.2.2.2.2.1 n hn hn0 k24) c1
      · omega
    have h255 := (tw.1.1 n hn).2.2.2.1
    obtain ⟨u2, b1, b2⟩ := x_setOctet (N := N) (n := A 15 n - 1) g gl a2 (x := na + n) (i := 3) (by omega) (by decide)
    have fx := fr_X6_setOctet b1
    have e30 : q_i u1 30 = nI na := by rw [a2.1.gx.2.2.2.2.2.2.2.2.2.2.2.1, hna]
    have zk : ∀ k, k ≠ 14 → k ≠ 15 → setA (setA A 14 (48 * d + f) 0) 15 n (A 15 n - 1) k = A k := fun k k1 k2 => by rw [setA_k k2, sk k k1]
    refine ⟨u1, u2, w4, 0, setO K0 (na + n) 3 (A 15 n - 1), setb (setb dd X true) (na + n) true, setA (setA A 14 (48 * d + f) 0) 15 n (A 15 n - 1), a1, ?_, ?_, ?_, ?_, fun j => by rw [setA_k (by decide)]; exact e14 j, fun m hm => ⟨by rw [zk 5 (by decide) (by decide)], by rw [zk 8 (by decide) (by decide)]⟩, zk 7 (by decide) (by decide)⟩
    · unfold fX0_dropOne fX4_setLinks
      have b1 : fX6_setOctet L N (nI (na + n)) 3 (nI (A 15 n - 1)) u1 = some ((), u2) := b1
      rw [y_linksOf g gl hna a2 hn, qb_s, kn n 0 hn, oc3, if_pos k13, if_neg (show ¬ nI (A 15 n) ≤ (1 : Int32) from nI_ge (a := 1) (by omega) (by omega)), e30, nI_add, show nI (A 15 n) - (1 : Int32) = nI (A 15 n - 1) from pk_sub (b := 1) h151, b1, qb_s, qb_s]
      rfl
    · rw [hM, if_neg (show ¬ nI (A 15 n - 1) ≤ (0 : Int32) from nI_ge (a := 0) (by omega) (by omega))]
      rfl
    · refine Tn_end t b2 ms4 (fun z _ => rfl) (fun z hz hdz => ?_) r4 ?_ ?_ (NB_cg nb zk (fun z hz => setb_f (setb_f hz))) ((fx.1 7 (by decide)).trans (a4.1 7 (by decide))) ((fx.1 24 (by decide)).trans (a4.1 24 (by decide))) ((fx.1 0 (by decide)).trans (a4.1 0 (by decide))) (tp _ _ (a4.trans (fx.mono (by decide) (by decide) (by decide))) (fm4.1 27 (by decide)) (fm4.2.1 35 (by decide))) (fun q q1 q2 q3 => fm4.1 q (by simp only [List.mem_cons, List.not_mem_nil, or_false]; omega)) (fun q q1 q2 q3 => fm4.2.1 q (by simp only [List.mem_cons, List.not_mem_nil, or_false]; omega)) (fm4.2.2 1 (by decide))
      · rw [zk 17 (by decide) (by decide)]
        unfold setb at hdz
        split at hdz
        · rename_i e; rw [e]; exact ⟨by omega, hlow _ (by omega)⟩
        · split at hdz
          · rename_i e; rw [e]; exact ⟨by omega, hb1.2.2⟩
          · exact h80 z hz hdz
      · refine dn_TW tw hj h14 hn hn0 (by omega) zk (fun j => by rw [setA_k (by decide)]; exact e14 j) (fun m => ?_)
        by_cases c : m = n
        · rw [c, setA_s, if_pos rfl]
        · rw [setA_n c, if_neg c, sk 15 (by decide)]
      · have t3' : TW3 W Ls (na + 64) (setA A 14 (48 * d + f) 0) := by
          have := tw.2.2.1
          unfold TW3 at this ⊢
          rw [tl_sc (sk 5 (by decide)) (sk 8 (by decide)) (sk 9 (by decide)) (sk 10 (by decide)) (sk 13 (by decide)), sk 17 (by decide)]
          exact this
        refine RX_sc hna t3' (by omega) hn a3 (fun y w hy => setO_w (fun z => hy z.1)) ?_
        exact mN_15 (A := setA A 14 (48 * d + f) 0) (a3.2.1 n hn) (by omega) (by rw [sk 5 (by decide)]; exact k13) (fun k k1 k2 k3 k4 k5 k6 => by rw [setA_k k2]) (fun _ => by rw [setA_k (by decide)]) (by rw [setA_s])
    · have q1 := cnt_up1 (P := setb dd X true) (x := na + n) (n := Ls)
      have q2 := cnt_up1 (P := dd) (x := X) (n := Ls)
      omega
