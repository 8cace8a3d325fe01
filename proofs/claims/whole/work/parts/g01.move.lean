/-! ===== a SLOT moved ===== -/
theorem upn_mv {A Af : Nat → Nat → Nat} {n e : Nat} (h7 : ∀ m, m ≠ n → Af 7 m = A 7 m) (hw : ∀ k, upn A k e ≠ n) : ∀ k, upn Af k e = upn A k e
  | 0 => rfl
  | k + 1 => by
    rw [upn_s, upn_s, upn_mv h7 hw k, h7 _ (hw k)]
theorem mv_TW {B W Ls fb n j0 e f : Nat} {A A1 Af : Nat → Nat → Nat} {nm nm2 : Nat → Int64} (t : TW B W Ls fb A nm) (hj : j0 < 3072) (h14 : A 14 j0 = n) (hn : n < 64) (hn0 : n ≠ 0) (tv : TV B W Ls fb A1 nm) (h1 : ∀ k, k ≠ 8 → k ≠ 13 → k ≠ 17 → k ≠ 18 → A1 k = setA A 14 j0 0 k) (he : e < 64) (hke : A 5 e = 2) (hf : f < 4 * A1 8 e) (h1f : A1 14 (48 * e + f) = 0) (hk : ∀ k, k ≠ 14 → k ≠ 7 → Af k = A1 k) (e14 : ∀ j, Af 14 j = if j = 48 * e + f then n else A1 14 j) (e7 : ∀ m, Af 7 m = if m = n ∧ A 5 n = 2 then e else A 7 m) (hnm : ∀ i, i ≠ 48 * e + f → nm2 i = nm i) (hok : okN (nm2 (48 * e + f))) (hw : A 5 n = 2 → ∀ k, upn A k e ≠ n) : TW B W Ls fb Af nm2 := by
  obtain ⟨v1, v2, v3, v4⟩ := tv
  obtain ⟨t1, t2, t3, t4⟩ := t
  have s5 : A1 5 = A 5 := by rw [h1 5 (by decide) (by decide) (by decide) (by decide), setA_k (by decide)]
  have s7 : A1 7 = A 7 := by rw [h1 7 (by decide) (by decide) (by decide) (by decide), setA_k (by decide)]
  have s15 : A1 15 = A 15 := by rw [h1 15 (by decide) (by decide) (by decide) (by decide), setA_k (by decide)]
  have s14 : ∀ j, A1 14 j = if j = j0 then 0 else A 14 j := by
    intro j
    rw [h1 14 (by decide) (by decide) (by decide) (by decide)]
    by_cases c : j = j0
    · rw [c, setA_s, if_pos rfl]
    · rw [setA_n c, if_neg c]
  have k5 := (hk 5 (by decide) (by decide)).trans s5
  have k15 := (hk 15 (by decide) (by decide)).trans s15
  have h8e := (v1.1 e he).2.2.2.2.2.1
  have ht := tl_sc (W := W) (hk 5 (by decide) (by decide)) (hk 8 (by decide) (by decide)) (hk 9 (by decide) (by decide)) (hk 10 (by decide) (by decide)) (hk 13 (by decide) (by decide))
  have q0 := t4.1 j0 hj (by rw [h14]; exact hn0)
  rw [h14] at q0
  have h5 := q0.2.2.2.1
  have only : A 5 n = 2 → ∀ j, j < 3072 → j ≠ j0 → A 14 j ≠ n := by
    intro k2 j hj2 hne z
    have cn := t4.2.1 n hn hn0
    rw [if_neg h5, t4.2.2.1 n hn hn0 (Or.inl k2)] at cn
    have q := cnt_clr (P := fun j => decide (A 14 j = n)) (x := j0) hj (decide_eq_true h14)
    have q2 := cnt_clr (P := setb (fun j => decide (A 14 j = n)) j0 false) (x := j) (n := 3072) hj2 (by rw [setb_n hne]; exact decide_eq_true z)
    omega
  refine ⟨?_, ?_, ?_, ⟨fun j hj2 hz => ?_, fun m hm hm0 => ?_, fun m hm hm0 z => ?_, fun m hm hm0 z => ?_, fun m hm z => ?_⟩⟩
  · have r5 := hk 5 (by decide) (by decide)
    unfold TW1 at v1 ⊢
    rw [r5, hk 6 (by decide) (by decide), hk 8 (by decide) (by decide), hk 11 (by decide) (by decide), hk 12 (by decide) (by decide), hk 13 (by decide) (by decide), hk 15 (by decide) (by decide), hk 16 (by decide) (by decide), hk 17 (by decide) (by decide), hk 18 (by decide) (by decide)]
    obtain ⟨p1, p2, p3, p4⟩ := v1
    refine ⟨p1, ⟨p2.1, ?_⟩, fun m hm z => ?_, p4⟩
    · rw [e7, if_neg (fun z => hn0 z.1.symm), ← s7]; exact p2.2
    · obtain ⟨a1, a2, a3⟩ := p3 m hm z
      rw [e7]
      by_cases c : m = n ∧ A 5 n = 2
      · rw [if_pos c]
        exact ⟨he, by rw [s5]; exact hke, a3⟩
      · rw [if_neg c, ← s7]
        exact ⟨a1, a2, a3⟩
  · unfold TW2 szp at v2 ⊢
    rw [hk 5 (by decide) (by decide), hk 6 (by decide) (by decide), hk 9 (by decide) (by decide), hk 10 (by decide) (by decide)]
    exact v2
  · unfold TW3 at v3 ⊢
    rw [ht, hk 17 (by decide) (by decide)]
    exact v3
  · rw [e14] at hz ⊢
    rw [k5, hk 8 (by decide) (by decide), e7]
    by_cases c : j = 48 * e + f
    · rw [if_pos c, c, show (48 * e + f) / 48 = e by omega, show (48 * e + f) % 48 = f by omega]
      refine ⟨hke, hf, hn, h5, hok, fun z => ?_⟩
      rw [if_pos ⟨rfl, z⟩]
    · rw [if_neg c] at hz ⊢
      obtain ⟨p1, p2, p3, p4, p5, p6⟩ := v4 j hj2 hz
      rw [s5] at p1 p4 p6
      rw [hnm j c]
      refine ⟨p1, p2, p3, p4, p5, fun z => ?_⟩
      rw [if_neg (fun w => ?_), ← s7]
      · exact p6 z
      · have hne : j ≠ j0 := fun y => by rw [s14, if_pos y] at hz; exact hz rfl
        have := w.1
        rw [s14, if_neg hne] at this
        exact only w.2 j hj2 hne this
  · rw [k5, k15]
    rw [← t4.2.1 m hm hm0]
    by_cases c : m = n
    · subst c
      have h2 : (fun j => decide (Af 14 j = m)) = setb (setb (fun j => decide (A 14 j = m)) j0 false) (48 * e + f) true := by
        funext j
        unfold setb
        rw [e14]
        by_cases c2 : j = 48 * e + f
        · rw [if_pos c2, if_pos c2]; simp
        · rw [if_neg c2, if_neg c2, s14]
          by_cases c3 : j = j0
          · rw [if_pos c3, if_pos c3]
            exact decide_eq_false (fun z => hn0 z.symm)
          · rw [if_neg c3, if_neg c3]
      have q := cnt_clr (P := fun j => decide (A 14 j = m)) (x := j0) hj (decide_eq_true h14)
      have q2 : setb (fun j => decide (A 14 j = m)) j0 false (48 * e + f) = false := by
        unfold setb
        by_cases c3 : 48 * e + f = j0
        · rw [if_pos c3]
        · rw [if_neg c3]
          rw [s14, if_neg c3] at h1f
          exact decide_eq_false (fun z => hn0 (z.symm.trans h1f))
      rw [h2, cnt_set (by omega) q2]
      omega
    · refine cnt_congr (fun j hj2 => ?_)
      rw [e14]
      have a1 : ¬ 0 = m := fun z => hm0 z.symm
      have a2 : ¬ n = m := fun z => c z.symm
      by_cases c2 : j = 48 * e + f
      · rw [if_pos c2]
        by_cases c3 : j = j0
        · rw [c3, h14]
        · rw [s14, if_neg (by rw [← c2]; exact c3)] at h1f
          rw [c2, h1f]
          simp [a1, a2]
      · rw [if_neg c2, s14]
        by_cases c3 : j = j0
        · rw [if_pos c3, c3, h14]
          simp [a1, a2]
        · rw [if_neg c3]
  · rw [k5] at z
    rw [k15]
    exact t4.2.2.1 m hm hm0 z
  · rw [k5] at z
    rw [k15]
    exact t4.2.2.2.1 m hm hm0 z
  · rw [k5] at z
    obtain ⟨km, hkm⟩ := t4.2.2.2.2 m hm z
    by_cases k2 : A 5 n = 2
    · obtain ⟨ke, hke2⟩ := t4.2.2.2.2 e he hke
      have h7' : ∀ m, m ≠ n → Af 7 m = A 7 m := fun m hmn => by rw [e7, if_neg (fun w => hmn w.1)]
      have up := upn_mv (e := e) h7' (hw k2)
      have key : ∀ k m, upn A k m = 0 → ∃ i, upn Af i m = 0 := by
        intro k
        induction k with
        | zero => intro m hm2; exact ⟨0, hm2⟩
        | succ k ih =>
          intro m hm2
          by_cases c : m = n
          · refine ⟨ke + 1, ?_⟩
            have e1 : upn Af (ke + 1) m = upn Af ke (Af 7 m) := rfl
            rw [e1, e7, if_pos ⟨c, k2⟩, up]
            exact hke2
          · obtain ⟨i, hi⟩ := ih (A 7 m) hm2
            refine ⟨i + 1, ?_⟩
            have e1 : upn Af (i + 1) m = upn Af i (Af 7 m) := rfl
            rw [e1, h7' m c]
            exact hi
      exact key km m hkm
    · have e7' : Af 7 = A 7 := by
        funext m
        rw [e7, if_neg (fun w => k2 w.2)]
      exact ⟨km, by rw [upn_cg e7']; exact hkm⟩
theorem TV_14 {B W Ls fb j0 : Nat} {A : Nat → Nat → Nat} {nm : Nat → Int64} (t : TV B W Ls fb A nm) : TV B W Ls fb (setA A 14 j0 0) nm := by
  obtain ⟨t1, t2, t3, t4⟩ := t
  have sk : ∀ k, k ≠ 14 → setA A 14 j0 0 k = A k := fun k h => setA_k h
  refine ⟨?_, ?_, ?_, fun j hj hz => ?_⟩
  · unfold TW1 at t1 ⊢
    rw [sk 5 (by decide), sk 6 (by decide), sk 7 (by decide), sk 8 (by decide), sk 11 (by decide), sk 12 (by decide), sk 13 (by decide), sk 15 (by decide), sk 16 (by decide), sk 17 (by decide), sk 18 (by decide)]
    exact t1
  · unfold TW2 szp at t2 ⊢
    rw [sk 5 (by decide), sk 6 (by decide), sk 9 (by decide), sk 10 (by decide)]
    exact t2
  · unfold TW3 at t3 ⊢
    rw [tl_sc (sk 5 (by decide)) (sk 8 (by decide)) (sk 9 (by decide)) (sk 10 (by decide)) (sk 13 (by decide)), sk 17 (by decide)]
    exact t3
  · by_cases c : j = j0
    · rw [c, setA_s] at hz; exact absurd rfl hz
    · rw [setA_n c] at hz ⊢
      rw [sk 5 (by decide), sk 7 (by decide), sk 8 (by decide)]
      exact t4 j hj hz
theorem l_move {B T S C W Ls na hb d f n e : Nat} {D kv : Nat → Nat → Int64} {Ak : Nat → Nat → Nat} {nk : Nat → Int64} {K : Nat → Nat → Int64} {dd : Nat → Bool} {A : Nat → Nat → Nat} {nm : Nat → Int64} {L : Nat → Nat} {N : Nat} {ux um : q_St} {v : Int64} (t : Tn B T S C W Ls na hb D kv Ak nk K dd A nm ux um) (g : Geo B T S C W Ls) (gl : gL B C W Ls L) (hna : na = 80 + (Ls + 511) / 512) (hN : 3000 ≤ N) (hd : d < 64) (hk : A 5 d = 2) (hf : f < 4 * A 8 d) (h14 : A 14 (48 * d + f) = n) (hn0 : n ≠ 0) (he : e < 64) (hke : A 5 e = 2) (hv : okN v) (room : rom W Ls na e (setA A 14 (48 * d + f) 0)) (hw : A 5 n = 2 → ∀ k, upn A k e ≠ n) :
    ∃ vx vm K2 dd2 A2 nm2, fX10_rename_b157 L N (nI d) (nI e) v (nI f) (nI n) ux = some (nI n, vx) ∧ fX11_rename_b260 N (nI d) (nI e) v (nI (48 * d + f)) (nI n) um = some (nI n, vm) ∧ Tn B T S C W Ls na hb D kv Ak nk K2 dd2 A2 nm2 vx vm ∧ cnt dd2 Ls ≤ cnt dd Ls + 6 := by
  have hl := g.l
  have x := t.x g gl hna
  have rm := t.rm
  obtain ⟨al, h7, dh, xs, ms, h80, -, tw, rx, nb⟩ := id t
  have gm := al.1.gm
  have h8 := x.t8 hd
  have hj : 48 * d + f < 3072 := by omega
  have s4 := tw.2.2.2.1 (48 * d + f) hj (by rw [h14]; exact hn0)
  rw [h14, show (48 * d + f) / 48 = d by omega] at s4
  have hn := s4.2.2.1
  have h5 := s4.2.2.2.1
  have hne : n ≠ e := fun z => by
    have := hw (by rw [z]; exact hke) 0
    exact this z.symm
  have hlow := tw.2.2.1.2.2.2
  have hb1 := (dirB x hd hk (show f / 4 < A 8 d by omega)).1
  obtain ⟨X, hX⟩ : ∃ X, X = A 13 (12 * d + f / 4) := ⟨_, rfl⟩
  obtain ⟨u1, a1, a2, a3, a4⟩ := x_takeOut (N := N) x hd hk hf
  rw [← hX] at hb1 a2 a3
  obtain ⟨K0, hK0⟩ : ∃ q, q = fsK K X (f % 4) 0 0 := ⟨_, rfl⟩
  rw [← hK0] at a2 a3
  have kn : ∀ m w, m < 64 → K0 (na + m) w = K (na + m) w := fun m w hm => by rw [hK0]; exact fsK_o (by omega)
  have sk : ∀ k, k ≠ 14 → setA A 14 (48 * d + f) 0 k = A k := fun k h => setA_k h
  -- the reference
  have r1 := RM_14z (j := 48 * d + f) rm
  obtain ⟨w1, hw1⟩ : ∃ q, q = q_sa um 14 (upd (q_a um 14) (48 * d + f) (-1)) := ⟨_, rfl⟩
  rw [← hw1] at r1
  have ms1 : MS Ls dd w1 := ⟨by rw [hw1, qa_ne (by decide)]; exact ms.1, by rw [hw1]; exact ms.2⟩
  obtain ⟨w2, s1, s2⟩ := m_soilSlot (N := N) (A := A) (nm := nm) (d := d) (f := f) (x := X) hl.2 (by rw [hw1, qa_ne (by decide), rm.2.2.2.2.1 _ (by omega), hX]) ms1 hd (by omega) hb1.2.1
  have f2 := fr_X11_soilSlot s1
  have r2 : RM Ls (setA A 14 (48 * d + f) 0) nm (q_a w2) (q_j w2 0) := RM_fr r1 (fun k q1 q2 => f2.2.1 k (by simp only [List.mem_cons, List.not_mem_nil, or_false]; omega)) (f2.2.2 0 (by decide))
  have fm2 : Fr [25] [14, 33] [] um w2 := by
    have q1 : Fr [25] [14, 33] [] um w1 := by rw [hw1]; exact fr_sa1 _ (by decide)
    exact q1.trans (f2.mono (by decide) (by decide) (by decide))
  have gm2 : gM B T S C W Ls w2 := by
    obtain ⟨m1, m2, m3, m4, m5, m6, m7, m8, m9⟩ := gm
    refine ⟨?_, ?_, ?_, ?_, ?_, ?_, ?_, ?_, ?_⟩ <;> (rw [fm2.1 _ (by decide)]; assumption)
  have nb' : NB W (setA A 14 (48 * d + f) 0) Ak (setb dd X true) := NB_cg nb (fun k k1 _ => sk k k1) (fun z hz => setb_f hz)
  have h80' : ∀ z, z < Ls → setb dd X true z = true → 80 ≤ z ∧ setA A 14 (48 * d + f) 0 17 z = 1 := by
    intro z hz hdz
    rw [sk 17 (by decide)]
    unfold setb at hdz
    split at hdz
    · rename_i q; rw [q]; exact ⟨by omega, hb1.2.2⟩
    · exact h80 z hz hdz
  obtain ⟨vx, vm, A', f', K', dd', dm', sx, b1, b2, b3, b4, b5, b6, b7, b8, b9, b10, b11, b12, b13, b14, b15, b16, b17, b18, b19, b20, b21⟩ := l_add (N := N) (v := v) (nd := n) (e := 64) (Ak := Ak) g gl hna hN a2 s2 r2 gm2 (TV_14 tw.v) (RX_x a3) (by omega) he (by rw [sk 5 (by decide)]; exact hke) hn0 hn none (fun k e => by cases e) room h80' nb'
  have b2 : fX11_enter N (nI e) v (nI n) (-1) w2 = some ((), vm) := b2
  have rxA := RXx_64 b7
  have e5 : A' 5 = A 5 := (b10 5 (by decide) (by decide) (by decide) (by decide)).trans (sk 5 (by decide))
  have e7 : A' 7 = A 7 := (b10 7 (by decide) (by decide) (by decide) (by decide)).trans (sk 7 (by decide))
  have kn' : K' (na + n) = K (na + n) := by funext w; rw [b13 n hn hne w, kn n w hn]
  have row5 : q_a vm 5 n = nI (A 5 n) := by rw [b6.r7 (by decide) hn, setA_k (by decide), e5]
  have hdd : ∀ z, z < Ls → dm' z = dd' z := fun z _ => by rw [(b5 z).1, (b5 z).2]
  have e14 : ∀ j, setA A' 14 (48 * e + f') n 14 j = if j = 48 * e + f' then n else A' 14 j := by
    intro j
    by_cases c : j = 48 * e + f'
    · rw [c, setA_s, if_pos rfl]
    · rw [setA_n c, if_neg c]
  have hok : okN (setN nm (48 * e + f') v (48 * e + f')) := by
    show okN (if 48 * e + f' = 48 * e + f' then v else nm (48 * e + f'))
    rw [if_pos rfl]; exact hv
  have tp : ∀ vx2 vm2, Fr [13, 22] [5] [2] vx vx2 → Fr [25] [7, 33] [] vm vm2 → tpR vx2 vm2 := fun vx2 vm2 fx fm => tpR_fr al.2.2.2.2.2.2.1 ((fx.1 32 (by decide)).trans ((b20.1 32 (by decide)).trans (a4.1 32 (by decide)))) ((fm.1 27 (by decide)).trans ((b21.1 27 (by decide)).trans (fm2.1 27 (by decide)))) ((fx.2.1 8 (by decide)).trans ((b20.2.1 8 (by decide)).trans (a4.2.1 8 (by decide)))) ((fm.2.1 35 (by decide)).trans ((b21.2.1 35 (by decide)).trans (fm2.2.1 35 (by decide))))
  have c1 := cnt_up1 (P := dd) (x := X) (n := Ls)
  unfold fX10_rename_b157 fX11_rename_b260
  rw [a1, qb_s, b1, qb_s, qw_n (by omega) (by omega), cl_n (by omega), ← hw1, s1, qb_s, b2, qb_s, qr_n hn (by decide), row5]
  by_cases cm : d ≠ e ∧ A 5 n = 2
  · -- the PARENT changes
    have hk2 := cm.2
    obtain ⟨u3, g1, g2⟩ := x_setHalf (N := N) (n := e) g gl b3 (x := na + n) (i := 18) (by omega) (by decide)
    have fs := fr_X6_setHalf g1
    have e30 : q_i vx 30 = nI na := by rw [b3.1.gx.2.2.2.2.2.2.2.2.2.2.2.1, hna]
    have rm7 := RM_7 (n := n) (k0 := 7) (v := e) b6 (by decide)
    obtain ⟨w5, hw5⟩ : ∃ q, q = q_sa vm 7 (upd (q_a vm 7) n (nI e)) := ⟨_, rfl⟩
    rw [← hw5] at rm7
    have ms5 : MS Ls dm' w5 := ⟨by rw [hw5, qa_ne (by decide)]; exact b4.1, by rw [hw5]; exact b4.2⟩
    have e8 : q_i w5 8 = nI (80 + (Ls + 511) / 512) := by rw [hw5]; exact (b21.1 8 (by decide)).trans gm2.2.2.2.2.2.2.2.2
    obtain ⟨w6, s6, s7⟩ := m_soilNode (N := N) (n := n) g hna e8 ms5 hn
    have f6 := fr_X11_soilNode s6
    have fm6 : Fr [25] [7, 33] [] vm w6 := by
      have q1 : Fr [25] [7, 33] [] vm w5 := by rw [hw5]; exact fr_sa1 _ (by decide)
      exact q1.trans (f6.mono (by decide) (by decide) (by decide))
    have rm8 := RM_fr rm7 (fun k q1 q2 => f6.2.1 k (by simp only [List.mem_cons, List.not_mem_nil, or_false]; omega)) (f6.2.2 0 (by decide))
    have g1' : fX4_setHolder L N (nI n) (nI e) vx = some ((), u3) := by
      unfold fX4_setHolder
      have g1 : fX6_setHalf L N (nI (na + n)) 18 (nI e) vx = some ((), u3) := g1
      rw [e30, nI_add, g1, qb_s]
    have hA : ∀ k, k ≠ 14 → k ≠ 7 → setA (setA A' 14 (48 * e + f') n) 7 n e k = A' k := fun k k1 k2 => by rw [setA_k k2, setA_k k1]
    rw [if_neg (fun z => cm.1 (nI_inj (by omega) (by omega) z)), y_kindOf g gl hna b3 hn, qb_s, kn', (rx.2.1 n hn).1, hk2, if_pos (show nI 2 = (2 : Int32) from rfl), g1', qb_s, if_pos (show nI 2 = (2 : Int32) from rfl), if_neg (fun z => cm.1 (nI_inj (by omega) (by omega) z)), qw_n hn (by decide), cl_n (by omega), ← hw5, s6, qb_s]
    refine ⟨u3, w6, setH K' (na + n) 18 e, setb dd' (na + n) true, setA (setA A' 14 (48 * e + f') n) 7 n e, setN nm (48 * e + f') v, rfl, rfl, ?_, ?_⟩
    · refine Tn_end t g2 s7 (fun z hz => ?_) (fun z hz hdz => ?_) rm8 ?_ ?_ ?_ ((fs.1 7 (by decide)).trans ((b20.1 7 (by decide)).trans (a4.1 7 (by decide)))) ((fs.1 24 (by decide)).trans ((b20.1 24 (by decide)).trans (a4.1 24 (by decide)))) ((fs.1 0 (by decide)).trans ((b20.1 0 (by decide)).trans (a4.1 0 (by decide)))) (tp _ _ (fs.mono (by decide) (by decide) (by decide)) fm6) (fun q q1 q2 q3 => ?_) (fun q q1 q2 q3 => ?_) ?_
      · unfold setb
        split
        · rfl
        · exact hdd z hz
      · rw [hA 17 (by decide) (by decide)]
        unfold setb at hdz
        split at hdz
        · rename_i q; rw [q]; exact ⟨by omega, b19 _ (by rw [sk 17 (by decide)]; exact hlow _ (by omega))⟩
        · exact b16 z hz hdz
      · refine mv_TW tw hj h14 hn hn0 b8 b10 he hke b11 b12 hA (fun j => by rw [setA_k (by decide)]; exact e14 j) (fun m => ?_) (fun i hi => if_neg hi) hok hw
        by_cases c : m = n
        · rw [c, setA_s, if_pos ⟨rfl, hk2⟩]
        · rw [setA_n c, if_neg (fun z => c z.1), setA_k (by decide), e7]
      · have t3' : TW3 W Ls (na + 64) (setA A' 14 (48 * e + f') n) := by
          have := b8.2.2.1
          unfold TW3 at this ⊢
          rw [tl_sc (setA_k (by decide)) (setA_k (by decide)) (setA_k (by decide)) (setA_k (by decide)) (setA_k (by decide)), setA_k (show (17 : Nat) ≠ 14 by decide)]
          exact this
        refine RX_sc hna t3' (by omega) hn rxA (fun y w hy => setH_w (fun z => hy z.1)) ?_
        obtain ⟨p1, p2, p3, p4, p5, p6⟩ := rxA.2.1 n hn
        have k2' : setA A' 14 (48 * e + f') n 5 n = 2 := by rw [setA_k (by decide), e5]; exact hk2
        have w0 : ∀ w, w ≠ 4 → setH K' (na + n) 18 e (na + n) w = K' (na + n) w := fun w hw => setH_w (fun z => hw z.2)
        have hsk : ∀ k, k ≠ 7 → setA (setA A' 14 (48 * e + f') n) 7 n e k = setA A' 14 (48 * e + f') n k := fun k h => setA_k h
        unfold mNode
        rw [hsk 5 (by decide), hsk 6 (by decide), hsk 8 (by decide), hsk 9 (by decide), hsk 10 (by decide), hsk 11 (by decide), hsk 12 (by decide), hsk 13 (by decide), hsk 15 (by decide), hsk 16 (by decide), w0 0 (by decide), setA_s]
        refine ⟨p1, p2, fun z => ⟨fun k hk3 => ?_, ?_⟩, fun z => by omega, fun z => by omega, fun z => by omega⟩
        · rw [sH_set (by omega), if_neg (by omega)]; exact (p3 z).1 k hk3
        · rw [sH_set (by omega), if_pos ⟨rfl, rfl⟩]
      · refine NB_dd (fun z hz => setb_f hz) ?_
        have htl := tl_sc (W := W) (hA 5 (by decide) (by decide)) (hA 8 (by decide) (by decide)) (hA 9 (by decide) (by decide)) (hA 10 (by decide) (by decide)) (hA 13 (by decide) (by decide))
        have := b17
        unfold NB at this ⊢
        rw [htl, hA 5 (by decide) (by decide), hA 18 (by decide) (by decide)]
        exact this
      · rw [fm6.1 q (by simp only [List.mem_cons, List.not_mem_nil, or_false]; omega), b21.1 q (by simp only [List.mem_cons, List.not_mem_nil, or_false]; omega)]
        exact fm2.1 q (by simp only [List.mem_cons, List.not_mem_nil, or_false]; omega)
      · rw [fm6.2.1 q (by simp only [List.mem_cons, List.not_mem_nil, or_false]; omega), b21.2.1 q (by simp only [List.mem_cons, List.not_mem_nil, or_false]; omega)]
        exact fm2.2.1 q (by simp only [List.mem_cons, List.not_mem_nil, or_false]; omega)
      · rw [fm6.2.2 1 (by decide), b21.2.2 1 (by decide)]
        exact fm2.2.2 1 (by decide)
    · have c2 := cnt_up1 (P := dd') (x := na + n) (n := Ls)
      omega
  · have hX' : (if nI d = nI e then some (nI n, vx) else q_bnd (fX4_kindOf L N (nI n) vx) (fun r25 u26 => if r25 = 2 then q_bnd (fX4_setHolder L N (nI n) (nI e) u26) (fun _ u29 => some (nI n, u29)) else some (nI n, u26))) = some (nI n, vx) := by
      by_cases c : d = e
      · rw [if_pos (by rw [c])]
      · have k2 : A 5 n ≠ 2 := fun z => cm ⟨c, z⟩
        rw [if_neg (fun z => c (nI_inj (by omega) (by omega) z)), y_kindOf g gl hna b3 hn, qb_s, kn', (rx.2.1 n hn).1, if_neg (show ¬ nI (A 5 n) = (2 : Int32) from nI_k (b := 2) (x.k4 hn) (by decide) k2)]
    have hM' : ∀ Z : Option (Int32 × q_St), (if nI (A 5 n) = 2 then (if nI d = nI e then some (nI n, vm) else Z) else some (nI n, vm)) = some (nI n, vm) := by
      intro Z
      by_cases c : d = e
      · rw [if_pos (show nI d = nI e by rw [c])]
        split <;> rfl
      · have k2 : A 5 n ≠ 2 := fun z => cm ⟨c, z⟩
        rw [if_neg (show ¬ nI (A 5 n) = (2 : Int32) from nI_k (b := 2) (x.k4 hn) (by decide) k2)]
    rw [hX', hM']
    have hA : ∀ k, k ≠ 14 → k ≠ 7 → setA A' 14 (48 * e + f') n k = A' k := fun k k1 _ => setA_k k1
    refine ⟨vx, vm, K', dd', setA A' 14 (48 * e + f') n, setN nm (48 * e + f') v, rfl, rfl, ?_, by omega⟩
    refine Tn_end t b3 b4 hdd (fun z hz hdz => ?_) b6 ?_ rxA (NB_cg b17 (fun k k1 _ => setA_k k1) (fun _ q => q)) ((b20.1 7 (by decide)).trans (a4.1 7 (by decide))) ((b20.1 24 (by decide)).trans (a4.1 24 (by decide))) ((b20.1 0 (by decide)).trans (a4.1 0 (by decide))) (tp _ _ (Fr.rf _ _ _ _) (Fr.rf _ _ _ _)) (fun q q1 q2 q3 => ?_) (fun q q1 q2 q3 => ?_) ?_
    · rw [setA_k (by decide)]; exact b16 z hz hdz
    · refine mv_TW tw hj h14 hn hn0 b8 b10 he hke b11 b12 hA e14 (fun m => ?_) (fun i hi => if_neg hi) hok hw
      rw [setA_k (by decide), e7]
      by_cases c : m = n ∧ A 5 n = 2
      · rw [if_pos c, c.1]
        have cde : d = e := by
          by_cases w : d = e
          · exact w
          · exact absurd ⟨w, c.2⟩ cm
        rw [s4.2.2.2.2.2 c.2, cde]
      · rw [if_neg c]
    · rw [b21.1 q (by simp only [List.mem_cons, List.not_mem_nil, or_false]; omega)]
      exact fm2.1 q (by simp only [List.mem_cons, List.not_mem_nil, or_false]; omega)
    · rw [b21.2.1 q (by simp only [List.mem_cons, List.not_mem_nil, or_false]; omega)]
      exact fm2.2.1 q (by simp only [List.mem_cons, List.not_mem_nil, or_false]; omega)
    · rw [b21.2.2 1 (by decide)]
      exact fm2.2.2 1 (by decide)
