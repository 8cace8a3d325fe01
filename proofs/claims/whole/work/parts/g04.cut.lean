/-! ===== cut ===== -/
/-- the class: bytes of the last PIECE become 0 -/
theorem x_zoct {B T S C W Ls hb x : Nat} {um : q_St} {D K : Nat → Nat → Int64} {L : Nat → Nat} {N : Nat} {x1 x2 : Int32} (g : Geo B T S C W Ls) (gl : gL B C W Ls L) (hx : x < Ls) (hx0 : x ≠ 0) (w : Nat) : ∀ (k i m : Nat) (K1 : Nat → Nat → Int64) (dd1 : Nat → Bool) (u : q_St), i + k = 64 → k < m → w ≤ i → XS B T S C W Ls hb um D K1 dd1 u → (∀ y j, y ≠ x → K1 y j = K y j) → (∀ j, j < 64 → sO (K1 x) j = if w ≤ j ∧ j < i then 0 else sO (K x) j) →
    ∃ v K2 dd2, q_lp (fX0_shorten_b27 L N) (fun _ _ _ _ _ => none) m x1 x2 (nI x) (nI i) u = fX0_shorten_b57 L N x1 x2 v ∧ XS B T S C W Ls hb um D K2 dd2 v ∧ (∀ y j, y ≠ x → K2 y j = K y j) ∧ (∀ j, j < 64 → sO (K2 x) j = if w ≤ j ∧ j < 64 then 0 else sO (K x) j) ∧ (dd2 = dd1 ∨ dd2 = setb dd1 x true) ∧ (i < 64 → dd2 = setb dd1 x true) ∧ Fr [13, 22] [5] [2] u v := by
  have hl := g.l
  intro k
  induction k with
  | zero =>
    intro i m K1 dd1 u h1 h2 cwi s a1 a2
    have : i = 64 := by omega
    subst this
    refine ⟨u, K1, dd1, ?_, s, a1, a2, Or.inl rfl, fun z => by omega, Fr.rf _ _ _ _⟩
    rw [lp_1 _ _ (by omega), fX0_shorten_b27, if_pos (show (64 : Int32) ≤ nI 64 by decide)]
  | succ k ih =>
    intro i m K1 dd1 u h1 h2 cwi s a1 a2
    obtain ⟨u1, b1, b2⟩ := x_setOctet (N := N) (n := 0) g gl s hx (i := i) (by omega)
    have f1 := fr_X6_setOctet b1
    have b1 : fX6_setOctet L N (nI x) (nI i) 0 u = some ((), u1) := b1
    have ho : ∀ j, sO (setO K1 x i 0 x) j = if j = i then 0 else sO (K1 x) j := by
      intro j
      have := hO_set (K := K1) (x := x) (i := i) (n := 0) (by decide) x j
      refine Eq.trans this ?_
      by_cases c : j = i
      · rw [if_pos ⟨rfl, c⟩, if_pos c]
      · rw [if_neg (fun z => c z.2), if_neg c]
        rfl
    obtain ⟨v, K2, dd2, c1, c2, c3, c4, c5, c6, c7⟩ := ih (i + 1) (m - 1) _ _ u1 (by omega) (by omega) (by omega) b2 (fun y j hy => (setO_w (fun z => hy z.1)).trans (a1 y j hy)) (fun j hj => by
      rw [ho, a2 j hj]
      by_cases c : j = i
      · rw [if_pos c, if_pos (by omega)]
      · rw [if_neg c]
        by_cases c2 : w ≤ j ∧ j < i
        · rw [if_pos c2, if_pos (by omega)]
        · rw [if_neg c2, if_neg (by omega)])
    have hdd : dd2 = setb dd1 x true := by
      rcases c5 with e | e
      · exact e
      · rw [e, setb_id setb_s]
    refine ⟨v, K2, dd2, ?_, c2, c3, c4, Or.inr hdd, fun _ => hdd, (f1.mono (by decide) (by decide) (by decide)).trans c7⟩
    rw [lp_1 _ _ (by omega), fX0_shorten_b27, if_neg (show ¬ (64 : Int32) ≤ nI i from nI_ge (b := 64) (by omega) (by omega)), if_neg (nI_ne0 (by omega) (by omega)), b1, qb_s, qn_s, nI_1]
    exact c1
/-- and the reference -/
theorem m_zb {N x : Nat} {x1 x2 x3 : Int32} (hx : x < 2048) : ∀ (k i n : Nat) (u : q_St), i + k = 64 → k < n → q_lp (fX11_cut_b122 N) (fun _ _ _ _ _ _ => none) n x1 x2 x3 (nI x) (nI (64 * x + i)) u = q_bnd (fX11_soil N (nI x) (q_sa u 18 (fun j => if 64 * x + i ≤ j ∧ j < 64 * x + 64 then sB 0 else q_a u 18 j))) (fun _ u22 => fX11_cut_b155 N x1 x2 x3 u22) := by
  intro k
  induction k with
  | zero =>
    intro i n u h1 h2
    have : (fun j => if 64 * x + i ≤ j ∧ j < 64 * x + 64 then sB 0 else q_a u 18 j) = q_a u 18 := by
      funext j
      rw [if_neg (by omega)]
    rw [this, sa_self, lp_1 _ _ (by omega), fX11_cut_b122, show (64 : Int32) * nI x = nI (64 * x) from pk_mul 64 _, show nI (64 * x) + (64 : Int32) = nI (64 * x + 64) from nI_add _ 64, if_pos (nI_le (by omega) (by omega))]
  | succ k ih =>
    intro i n u h1 h2
    rw [lp_1 _ _ (by omega), fX11_cut_b122, show (64 : Int32) * nI x = nI (64 * x) from pk_mul 64 _, show nI (64 * x) + (64 : Int32) = nI (64 * x + 64) from nI_add _ 64, if_neg (nI_ge (by omega) (by omega)), qw_n (by omega) (by omega), cl_n (by omega), qn_s, nI_1, show 64 * x + i + 1 = 64 * x + (i + 1) by omega, ih (i + 1) (n - 1) _ (by omega) (by omega), sa_sa]
    congr 3
    funext j
    rw [qa_eq]
    by_cases c : j = 64 * x + i
    · rw [c, if_neg (by omega), if_pos (by omega), up_s]
      rfl
    · by_cases c2 : 64 * x + (i + 1) ≤ j ∧ j < 64 * x + 64
      · rw [if_pos c2, if_pos (by omega)]
      · rw [if_neg c2, if_neg (by omega), up_n c]
def zA (A : Nat → Nat → Nat) (x w : Nat) : Nat → Nat → Nat := fun k j => if k = 18 ∧ x ≠ 0 ∧ 64 * x + w ≤ j ∧ j < 64 * x + 64 then 0 else A k j
theorem zA_k {A : Nat → Nat → Nat} {x w k : Nat} (h : k ≠ 18) : zA A x w k = A k := by
  funext j
  unfold zA
  rw [if_neg (fun z => h z.1)]
theorem RM_18z {Ls x w : Nat} {A : Nat → Nat → Nat} {nm : Nat → Int64} {u : q_St} (hx : x ≠ 0) (r : RM Ls A nm (q_a u) (q_j u 0)) : RM Ls (zA A x w) nm (q_a (q_sa u 18 (fun j => if 64 * x + w ≤ j ∧ j < 64 * x + 64 then sB 0 else q_a u 18 j))) (q_j (q_sa u 18 (fun j => if 64 * x + w ≤ j ∧ j < 64 * x + 64 then sB 0 else q_a u 18 j)) 0) := by
  obtain ⟨r1, r2, r3, r4, r6, r7, r8, r9⟩ := r
  have s7r : ∀ k ∈ s7, k ≠ 18 := by decide
  refine ⟨fun k hk i hi => ?_, ?_, ?_, ?_, ?_, ?_, ?_, fun j hj => ?_⟩
  · rw [qa_ne (s7r k hk), zA_k (s7r k hk)]; exact r1 k hk i hi
  · rw [qa_ne (by decide), zA_k (by decide)]; exact r2
  · rw [qa_ne (by decide), zA_k (by decide)]; exact r3
  · rw [qa_ne (by decide), zA_k (by decide)]; exact r4
  · rw [qa_ne (by decide), zA_k (by decide)]; exact r6
  · rw [qa_ne (by decide), zA_k (by decide)]; exact r7
  · rw [qa_ne (by decide), zA_k (by decide)]; exact r8
  · rw [qa_eq]
    unfold zA
    by_cases c : 64 * x + w ≤ j ∧ j < 64 * x + 64
    · rw [if_pos c, if_pos ⟨rfl, hx, c⟩]
    · rw [if_neg c, if_neg (fun z => c z.2.2)]
      exact r9 j hj
theorem p_cut {B T S C W Ls na : Nat} {L : Nat → Nat} {N : Nat} (g : Geo B T S C W Ls) (gl : gL B C W Ls L) (hna : na = 80 + (Ls + 511) / 512) (hN : 140000 ≤ N) : st_cut (Iv B T S C W Ls na) L N := by
  intro k ux um x0 o hk h
  have hl := g.l
  unfold fX10_cut fX11_cut
  rcases l_begins (N := N) g gl hna hN hk h with ⟨vx, vm, z1, z2, z3⟩ | ⟨ux, um, D, kv, Ak, nk, K, dd, A, nm, z1, z2, t, c40⟩
  · rw [z1, z2, qb_s, qb_s, if_pos rfl, if_pos rfl]
    exact ⟨_, vx, vm, rfl, rfl, z3⟩
  · rw [z1, z2, qb_s, qb_s, if_neg (by decide), if_neg (by decide)]
    have x := t.x g gl hna
    have rm := t.rm
    have stay : Iv B T S C W Ls na (k + 1) ux um := Tn_Iv t (by omega) (by omega)
    rcases nod x0 with ⟨n, hn, e⟩ | e
    · subst e
      have hk4 := x.k4 hn
      rw [x_kindOf x hn, qb_s, (m_isFile rm hn hk4).2, qb_s]
      by_cases c1 : A 5 n = 1
      · rw [if_pos c1, c1, if_pos (show nI 1 = (1 : Int32) from rfl), if_neg (show ¬ (1 : Int32) = 0 by decide), x_may x hn (by omega) (by omega), m_may rm hn, qb_s, qb_s, t.wh.1]
        rcases mayR_01 (q_i um 28) (nI (A 11 n)) (nI (A 12 n)) 2 with hm | hm
        · rw [hm, if_pos rfl, if_pos rfl]
          exact ⟨_, ux, um, rfl, rfl, stay⟩
        · rw [hm, if_neg (by decide), if_neg (by decide), x_lengthOf x hn (by omega), qb_s, if_pos (Or.inl c1)]
          by_cases co : o < 0
          · rw [if_pos co, if_pos co]
            exact ⟨_, ux, um, rfl, rfl, stay⟩
          · obtain ⟨sz, p1, p2⟩ := i_pos co
            subst p2
            rw [if_neg co, if_neg co, qr_n hn (by decide), rm.r7 (by decide) hn]
            have h6 := (x.2.2.2.1.1 n hn).2.2.2.2.1
            by_cases c6 : sz ≤ A 6 n
            · rw [if_pos (nI_le c6 (by omega)), if_pos (nI_le c6 (by omega)), qr_n hn (by decide), rm.r7 (by decide) hn]
              by_cases ce : sz = A 6 n
              · rw [if_pos (by rw [ce]), if_pos (by rw [ce])]
                exact ⟨_, ux, um, rfl, rfl, stay⟩
              · have ne : ¬ nI sz = nI (A 6 n) := fun z => ce (nI_inj (by omega) (by omega) z)
                rw [if_neg ne, if_neg ne]
                obtain ⟨al, h7, dh, xs, ms, h80, -, tw, rx, nb⟩ := id t
                have gm := al.1.gm
                have t3 := tw.2.2.1
                have hlow := t3.2.2.2
                have ft := FT_of (W := W) tw.2.1 hn c1
                obtain ⟨p, hp⟩ : ∃ p, p = (sz + 63) / 64 := ⟨_, rfl⟩
                obtain ⟨w, hw⟩ : ∃ w, w = sz % 64 := ⟨_, rfl⟩
                obtain ⟨X, hX⟩ : ∃ X, X = if w = 0 then 0 else tl A W n (sz / 64) := ⟨_, rfl⟩
                have hXr : X ≠ 0 → ∃ q, q < 1068 ∧ q < p ∧ tl A W n q = X := by
                  intro h0
                  rw [hX] at h0 ⊢
                  by_cases cw : w = 0
                  · rw [if_pos cw] at h0; exact absurd rfl h0
                  · rw [if_neg cw]
                    exact ⟨sz / 64, by omega, by omega, rfl⟩
                have hXl : X ≠ 0 → na + 64 ≤ X ∧ X < Ls ∧ A 17 X = 1 := fun h0 => by
                  obtain ⟨q, q1, q2, q3⟩ := hXr h0
                  have := t3.2.1 n q hn (by rw [q3]; exact h0)
                  rw [q3] at this
                  exact this
                -- the class: up to the giving back
                have hv : ∃ v Kz ddz, fX0_shorten L N (nI n) (nI sz) ux = fX0_shorten_b57 L N (nI n) (nI sz) v ∧ XS B T S C W Ls (300 * k + 200) um D Kz ddz v ∧ (∀ y j, y ≠ X ∨ X = 0 → Kz y j = K y j) ∧ (X ≠ 0 → ∀ j, j < 64 → sO (Kz X) j = if w ≤ j then 0 else sO (K X) j) ∧ ddz = (if X = 0 then dd else setb dd X true) ∧ Fr [13, 22] [5] [2] ux v := by
                  have e1 : nI sz - nI sz / (64 : Int32) * 64 = nI w := by rw [hw]; exact rem_n (d := 64) (by omega) (by decide) (by decide)
                  have stp : ∀ y0 : Nat, y0 = X → ∃ v Kz ddz, fX0_shorten_b22 L N (nI n) (nI sz) (nI w) (nI y0) ux = fX0_shorten_b57 L N (nI n) (nI sz) v ∧ XS B T S C W Ls (300 * k + 200) um D Kz ddz v ∧ (∀ y j, y ≠ X ∨ X = 0 → Kz y j = K y j) ∧ (X ≠ 0 → ∀ j, j < 64 → sO (Kz X) j = if w ≤ j then 0 else sO (K X) j) ∧ ddz = (if X = 0 then dd else setb dd X true) ∧ Fr [13, 22] [5] [2] ux v := by
                    intro y0 hy0
                    subst hy0
                    unfold fX0_shorten_b22
                    by_cases c0 : y0 = 0
                    · refine ⟨ux, K, dd, ?_, xs, fun _ _ _ => rfl, fun z => absurd c0 z, by rw [if_pos c0], Fr.rf _ _ _ _⟩
                      rw [lp_1 _ _ (by omega), fX0_shorten_b27, if_neg (show ¬ (64 : Int32) ≤ nI w from nI_ge (b := 64) (by omega) (by omega)), if_pos (by rw [c0]; rfl)]
                    · obtain ⟨v, K2, dd2, b1, b2, b3, b4, b5, b6, b7⟩ := x_zoct (N := N) (x := y0) (K := K) (x1 := nI n) (x2 := nI sz) g gl (hXl c0).2.1 c0 w (64 - w) w N K dd ux (by omega) (by omega) (by omega) xs (fun _ _ _ => rfl) (fun j hj => by rw [if_neg (by omega)])
                      refine ⟨v, K2, dd2, b1, b2, fun y j hy => ?_, fun _ j hj => ?_, by rw [if_neg c0]; exact b6 (by omega), b7⟩
                      · rcases hy with hy | hy
                        · exact b3 y j hy
                        · exact absurd hy c0
                      · rw [b4 j hj]
                        by_cases cw : w ≤ j
                        · rw [if_pos ⟨cw, hj⟩, if_pos cw]
                        · rw [if_neg (fun z => cw z.1), if_neg cw]
                  unfold fX0_shorten
                  rw [e1, qn_s]
                  by_cases cw : w = 0
                  · rw [if_pos (by rw [cw]; rfl)]
                    exact stp 0 (by rw [hX, if_pos cw])
                  · rw [if_neg (nI_ne0 (by omega) (by omega)), show nI sz / (64 : Int32) = nI (sz / 64) from pk_div (d := 64) (by omega) (by decide) (by decide), x_pieceBlock x hn c1 (by omega), qb_s]
                    exact stp _ (by rw [hX, if_neg cw, tl_p c1 (by omega)])
                obtain ⟨v, Kz, ddz, v1, v2, v3, v4, v5, v6⟩ := hv
                have kzn : Kz (na + n) = K (na + n) := by
                  funext j
                  refine v3 _ _ ?_
                  by_cases c0 : X = 0
                  · exact Or.inr c0
                  · have := hXl c0; exact Or.inl (by omega)
                obtain ⟨u2, a1, a2⟩ := x_setLen (N := N) (len := sz) g gl hna v2 hn
                obtain ⟨Kb, hKb⟩ : ∃ q, q = setW Kz (na + n) 0 (slW (Kz (na + n) 0) sz) := ⟨_, rfl⟩
                rw [← hKb] at a2
                have kbn : ∀ j, j ≠ 0 → Kb (na + n) j = K (na + n) j := fun j hj => by rw [hKb, setW_n (fun z => hj z.2), kzn]
                have kbo : ∀ y j, y ≠ na + n → Kb y j = Kz y j := fun y j hy => by rw [hKb, setW_n (fun z => hy z.1)]
                have b0 : GB A W na n Ls (fun _ => false) K K dd dd := GB_0 tw.1 rx hn
                have bb : GB A W na n Ls (fun _ => false) Kb Kb (setb ddz (na + n) true) (setb ddz (na + n) true) := by
                  refine ⟨b0.1, fun y hy => ?_, fun r hr ha => ?_, fun _ _ _ _ _ _ => rfl, fun _ _ _ _ _ => rfl, DT_0, fun q => q⟩
                  · rw [kbo _ _ (by omega), v3 _ _ (by
                      by_cases c0 : X = 0
                      · exact Or.inr c0
                      · have := hXl c0; exact Or.inl (by omega))]
                    exact b0.2.1 y hy
                  · have old := b0.2.2.1 r hr ha
                    rw [← old]
                    unfold tel at ha ⊢
                    by_cases c : own r = true
                    · rw [if_pos c]
                      have hr14 : r < 1114 := by unfold rk at hr; omega
                      have := hpl_own c hr14
                      unfold sH
                      rw [kbn _ (by omega)]
                    · rw [if_neg c]
                      rcases ha with q | ⟨q1, -⟩
                      · exact absurd q c
                      · have ht := t3.2.1 n (trl r) hn q1
                        have hx2 : tl A W n (trl r) ≠ X ∨ X = 0 := by
                          by_cases c0 : X = 0
                          · exact Or.inr c0
                          · refine Or.inl (fun z => ?_)
                            obtain ⟨q, y1, y2, y3⟩ := hXr c0
                            have := (t3.1 n (trl r) n q hn hn q1 (by rw [z, y3])).2
                            have := trl_in c
                            omega
                        unfold sH
                        rw [kbo _ _ (by omega), v3 _ _ hx2]
                obtain ⟨u3, K3, dd3, P, c, d1, d2, d3, d4, d5, d6⟩ := x_gbF (N := N) (p := p) g gl hna (by omega) t3 ft hn c1 (by omega) a2 bb
                have hPl : ∀ r, P r = true → r < 1102 ∧ tl A W n r ≠ 0 := fun r q => by
                  refine ⟨?_, d3.1 r q⟩
                  rcases (d4 r).mp q with y | y | y <;> omega
                have d1' : fX0_giveBackFrom L N (nI n) (((nI sz + 64) - 1) / 64) u2 = some (nI c, u3) := by
                  have e2 : (nI sz + 64) - 1 = nI (sz + 63) := by
                    rw [show nI sz + (64 : Int32) = nI (sz + 64) from nI_add sz 64]
                    exact pk_sub (b := 1) (by omega)
                  rw [e2, show nI (sz + 63) / (64 : Int32) = nI ((sz + 63) / 64) from pk_div (d := 64) (by omega) (by decide) (by decide), ← hp]
                  exact d1
                -- the reference
                obtain ⟨w1, A1, dm1, Pm, cm, e1, e2, e3, e4, e5, e6, e7⟩ := m_shrink (N := N) (p := p) g hna (by omega) t3 ft hn (fun q hq => (tl_p c1 hq).symm) (fun i hi => (tl_i c1 hi).symm) gm.2.2.2.2.2.2.2.1 gm.2.2.2.2.2.2.2.2 (by omega) rm ms tw.1.2.2.2.2.2.2.2
                have ePP : Pm = P := by
                  funext r
                  rw [Bool.eq_iff_iff, d4 r, e5 r]
                subst ePP
                have ecc : cm = c := by omega
                subst ecc
                have Xng : X ≠ 0 → ¬ gvn A W n Pm X := by
                  rintro h0 ⟨r, r1, r2⟩
                  obtain ⟨q, y1, y2, y3⟩ := hXr h0
                  have := (t3.1 n r n q hn hn (hPl r r1).2 (by rw [r2, y3])).2
                  rw [this] at r1
                  rcases (d4 q).mp r1 with y | y | y <;> omega
                have hm2 : ∃ w2 A2 dm2, (if nI sz - nI sz / 64 * 64 = 0 then fX11_cut_b102 N (nI n) (nI sz) (nI cm) (-1) w1 else q_rd 68352 (q_a w1 9) (1068 * nI n + nI sz / 64) (fun v15 => fX11_cut_b102 N (nI n) (nI sz) (nI cm) v15 w1)) = fX11_cut_b155 N (nI n) (nI sz) (nI cm) w2 ∧ RM Ls A2 nm (q_a w2) (q_j w2 0) ∧ MS Ls dm2 w2 ∧ A2 = zA A1 X w ∧ dm2 = (if X = 0 then dm1 else setb dm1 X true) ∧ Fr [25] [18, 33] [] w1 w2 := by
                  have er : nI sz - nI sz / (64 : Int32) * 64 = nI w := by rw [hw]; exact rem_n (d := 64) (by omega) (by decide) (by decide)
                  have zz : X = 0 → zA A1 X w = A1 := fun h0 => by
                    funext k' j
                    unfold zA
                    rw [if_neg (fun z => z.2.1 h0)]
                  have stp : ∀ y0 : Int32, y0 = i0 X → ∃ w2 A2 dm2, fX11_cut_b102 N (nI n) (nI sz) (nI cm) y0 w1 = fX11_cut_b155 N (nI n) (nI sz) (nI cm) w2 ∧ RM Ls A2 nm (q_a w2) (q_j w2 0) ∧ MS Ls dm2 w2 ∧ A2 = zA A1 X w ∧ dm2 = (if X = 0 then dm1 else setb dm1 X true) ∧ Fr [25] [18, 33] [] w1 w2 := by
                    intro y0 hy0
                    subst hy0
                    unfold fX11_cut_b102
                    by_cases c0 : X = 0
                    · refine ⟨w1, A1, dm1, ?_, e2, e3, (zz c0).symm, by rw [if_pos c0], Fr.rf _ _ _ _⟩
                      rw [if_pos (by rw [c0]; rfl)]
                    · have hxl := hXl c0
                      have r18 := RM_18z (x := X) (w := w) c0 e2
                      obtain ⟨w3, hw3⟩ : ∃ q, q = (q_sa w1 18 (fun j => if 64 * X + w ≤ j ∧ j < 64 * X + 64 then sB 0 else q_a w1 18 j)) := ⟨_, rfl⟩
                      rw [← hw3] at r18
                      have ms3 : MS Ls dm1 w3 := ⟨by rw [hw3, qa_ne (by decide)]; exact e3.1, by rw [hw3]; exact e3.2⟩
                      obtain ⟨w4, s1, s2⟩ := m_soil (N := N) hl.2 ms3 hxl.2.1
                      have f4 := fr_X11_soil s1
                      have zb := m_zb (N := N) (x := X) (x1 := nI n) (x2 := nI sz) (x3 := nI cm) (by omega) (64 - w) w N w1 (by omega) (by omega)
                      rw [← hw3, s1, qb_s] at zb
                      refine ⟨w4, zA A1 X w, setb dm1 X true, ?_, RM_fr r18 (fun k q1 q2 => f4.2.1 k (by simp only [List.mem_cons, List.not_mem_nil, or_false]; omega)) (f4.2.2 0 (by decide)), s2, rfl, by rw [if_neg c0], ?_⟩
                      · rw [i0_ne c0, if_neg (m1_ne _ (by omega)), show (64 : Int32) * nI X = nI (64 * X) from pk_mul 64 _, er, nI_add, qn_s]
                        exact zb
                      · have q1 : Fr [25] [18, 33] [] w1 w3 := by rw [hw3]; exact fr_sa1 _ (by decide)
                        exact q1.trans (f4.mono (by decide) (by decide) (by decide))
                  rw [er]
                  by_cases cw : w = 0
                  · rw [if_pos (by rw [cw]; rfl)]
                    exact stp (-1) (by rw [hX, if_pos cw]; rfl)
                  · have np : Pm (sz / 64) = false := by
                      cases hq : Pm (sz / 64) with
                      | false => rfl
                      | true => rcases (d4 _).mp hq with y | y | y <;> omega
                    rw [if_neg (nI_ne0 (by omega) (by omega)), show nI sz / (64 : Int32) = nI (sz / 64) from pk_div (d := 64) (by omega) (by decide) (by decide), show (1068 : Int32) * nI n = nI (1068 * n) from pk_mul 1068 n, nI_add, qr_n (by omega) (by omega), e2.2.2.1 _ (by omega), GM_9 e4 (by omega) np]
                    exact stp _ (by rw [hX, if_neg cw, tl_p c1 (by omega)])
                obtain ⟨w2, A2, dm2, g1, g2, g3, g4, g5, g6⟩ := hm2
                have r6 := RM_7 (n := n) (k0 := 6) (v := sz) g2 (by decide)
                obtain ⟨w5, hw5⟩ : ∃ q, q = q_sa w2 6 (upd (q_a w2 6) n (nI sz)) := ⟨_, rfl⟩
                rw [← hw5] at r6
                have ms5 : MS Ls dm2 w5 := ⟨by rw [hw5, qa_ne (by decide)]; exact g3.1, by rw [hw5]; exact g3.2⟩
                have fm5 : Fr [25] [6, 9, 10, 17, 18, 33] [] um w5 := by
                  have q1 : Fr [25] [6, 9, 10, 17, 18, 33] [] w2 w5 := by rw [hw5]; exact fr_sa1 _ (by decide)
                  exact ((e7.mono (by decide) (by decide) (by decide)).trans (g6.mono (by decide) (by decide) (by decide))).trans q1
                obtain ⟨w6, s1, s2⟩ := m_soilNode (N := N) (n := n) g hna ((fm5.1 8 (by decide)).trans gm.2.2.2.2.2.2.2.2) ms5 hn
                have f6 := fr_X11_soilNode s1
                have fm6 : Fr [25] [6, 9, 10, 17, 18, 33] [] um w6 := fm5.trans (f6.mono (by decide) (by decide) (by decide))
                have rmf := RM_fr r6 (fun k q1 q2 => f6.2.1 k (by simp only [List.mem_cons, List.not_mem_nil, or_false]; omega)) (f6.2.2 0 (by decide))
                have hshr : fX11_shrink N (nI n) ((nI sz + 63) / 64) um = some (nI cm, w1) := by
                  rw [show nI sz + (63 : Int32) = nI (sz + 63) from nI_add sz 63, show nI (sz + 63) / (64 : Int32) = nI ((sz + 63) / 64) from pk_div (d := 64) (by omega) (by decide) (by decide), ← hp]
                  exact e1
                have hMf : fX11_cut_b155 N (nI n) (nI sz) (nI cm) w2 = some (nI cm, w6) := by
                  unfold fX11_cut_b155
                  rw [qw_n hn (by decide), cl_n (by omega), ← hw5, s1, qb_s]
                have hXf : fX0_shorten_b57 L N (nI n) (nI sz) v = some (nI cm, u3) := by
                  unfold fX0_shorten_b57
                  rw [a1, qb_s, d1', qb_s]
                have cf : CF A (setA A2 6 n sz) W n sz X w Pm := by
                  obtain ⟨q1, q2, q3, q4, q5, q6, q7⟩ := e4
                  have zk : ∀ k', k' ≠ 6 → k' ≠ 18 → setA A2 6 n sz k' = A1 k' := fun k' y1 y2 => by rw [setA_k y1, g4, zA_k y2]
                  refine ⟨fun m => ?_, fun j => by rw [zk 9 (by decide) (by decide)]; exact q3 j, fun j => by rw [zk 10 (by decide) (by decide)]; exact q4 j, fun y => by rw [zk 17 (by decide) (by decide)]; exact q5 y, fun j => ?_, fun k' y1 y2 y3 y4 y5 => by rw [zk k' y1 y5, q2 k' y2 y3 y4]⟩
                  · by_cases c : m = n
                    · rw [c, setA_s, if_pos rfl]
                    · rw [setA_n c, if_neg c, g4, zA_k (by decide), q2 6 (by decide) (by decide) (by decide)]
                  · rw [setA_k (by decide), g4]
                    unfold zA
                    by_cases c : X ≠ 0 ∧ 64 * X + w ≤ j ∧ j < 64 * X + 64
                    · rw [if_pos ⟨rfl, c⟩, if_pos c]
                    · rw [if_neg (fun z => c z.2), if_neg c, q2 18 (by decide) (by decide) (by decide)]
                have twf := ct_TW tw hn c1 (by omega) hp d4 cf
                have rxf : RX W Ls na (setA A2 6 n sz) nm K3 := ct_RX hna (by omega) t3 hn c1 (fun r q => (hPl r q).1) rx d3 cf (by omega) (fun h0 => by obtain ⟨q, y1, y2, y3⟩ := hXr h0; exact ⟨q, y1, y3⟩) (fun y j y1 y2 => by rw [kbo y j y1, v3 y j y2]) (fun h0 j hj => by
                  have := hXl h0
                  have eq : Kb X = Kz X := by funext i; exact kbo _ _ (by omega)
                  rw [eq]; exact v4 h0 j hj) (by rw [hKb, setW_s, kzn]) p1
                have dtx := d3.2.2.2.2.2.1
                have dtm := e4.2.2.2.2.2.1
                have dsub : ∀ z, z < Ls → dd3 z = true → z = na + n ∨ (¬ gvn A W n Pm z ∧ ((80 ≤ z ∧ z < na) ∨ ((z = tl A W n (trl (p - 1)) ∨ z = tl A W n 1069) ∧ A 17 z = 1 ∧ 80 ≤ z) ∨ (z = X ∧ X ≠ 0) ∨ dd z = true)) := by
                  intro z hz hdz
                  by_cases c : z = na + n
                  · exact Or.inl c
                  · right
                    obtain ⟨q1, q2⟩ := (dtx z hz c).mp hdz
                    refine ⟨q1, ?_⟩
                    rcases q2 with ⟨r, y1, y2 | y2⟩ | q2
                    · have hr := t3.2.1 n r hn (hPl r y1).2
                      left; omega
                    · right; left
                      unfold tel at y2
                      by_cases co : own r = true
                      · rw [if_pos co] at y2; exact absurd y2 c
                      · rw [if_neg co] at y2
                        have ho := own_f co
                        have hr0 := (hPl r y1).2
                        have ht0 : tl A W n (trl r) ≠ 0 := by
                          rcases ho with ho | ho
                          · exact ft.1 r ho.1 ho.2 hr0
                          · have et : trl r = 1069 := by unfold trl; rw [if_neg (by omega), if_neg (by omega)]
                            rw [et]
                            exact ft.2.2.1 (r - 1070) (by omega) (by rw [show 1070 + (r - 1070) = r by omega]; exact hr0)
                        have hu := t3.2.1 n (trl r) hn ht0
                        rw [← y2] at hu
                        refine ⟨?_, hu.2.2, by omega⟩
                        rcases ho with ho | ho
                        · left
                          have nP : ¬ Pm (trl r) = true := fun q => q1 ⟨trl r, q, y2.symm⟩
                          have hti := trl_in co
                          have nri : ¬ RI A W n p (trl r) := by
                            intro q
                            refine nP ((d4 _).mpr (Or.inr (Or.inl ⟨?_, q⟩)))
                            have : trl r ≠ 1069 := by
                              unfold trl
                              repeat' split
                              all_goals omega
                            omega
                          have hpr : p ≤ r := by
                            rcases (d4 r).mp y1 with y | y | y <;> omega
                          by_cases ex : ∃ q, 12 ≤ q ∧ q < 1068 ∧ q < p ∧ trl q = trl r ∧ tl A W n q ≠ 0
                          · obtain ⟨q, w1, w2, w3, w4, w5⟩ := ex
                            have : trl (p - 1) = trl r := by
                              unfold trl at w4 ⊢
                              repeat' split at w4
                              all_goals (repeat' split)
                              all_goals omega
                            rw [this]; exact y2
                          · exfalso
                            refine nri ⟨ht0, fun q w1 w2 w3 w4 => ?_⟩
                            by_cases w0 : tl A W n q = 0
                            · exact w0
                            · exact absurd ⟨q, w1, w2, w3, w4, w0⟩ ex
                        · right
                          have et : trl r = 1069 := by unfold trl; rw [if_neg (by omega), if_neg (by omega)]
                          rw [← et]; exact y2
                    · right; right
                      rw [setb_n c, v5] at q2
                      by_cases c0 : X = 0
                      · rw [if_pos c0] at q2; exact Or.inr q2
                      · rw [if_neg c0] at q2
                        rcases sbt.mp q2 with y | y
                        · exact Or.inl ⟨y, c0⟩
                        · exact Or.inr y
                have fx3 : Fr [13, 22] [5] [2] ux u3 := (v6.trans ((fr_X4_setLength a1).mono (by decide) (by decide) (by decide))).trans d6
                have fin : Tn B T S C W Ls na (300 * k + 200) D kv Ak nk K3 dd3 (setA A2 6 n sz) nm u3 w6 := by
                  refine Tn_end t d2 s2 (fun z hz => ?_) (fun z hz hdz => ?_) rmf twf rxf ?_ (fx3.1 7 (by decide)) (fx3.1 24 (by decide)) (fx3.1 0 (by decide)) (tpR_fr al.2.2.2.2.2.2.1 (fx3.1 32 (by decide)) (fm6.1 27 (by decide)) (fx3.2.1 8 (by decide)) (fm6.2.1 35 (by decide))) (fun q q1 q2 q3 => fm6.1 q (by simp only [List.mem_cons, List.not_mem_nil, or_false]; omega)) (fun q q1 q2 q3 => fm6.2.1 q (by simp only [List.mem_cons, List.not_mem_nil, or_false]; omega)) (fm6.2.2 1 (by decide))
                  · by_cases c : z = na + n
                    · rw [c, setb_s]
                      exact (d3.2.2.2.2.2.2 setb_s).symm
                    · rw [setb_n c, g5]
                      by_cases c0 : X = 0
                      · rw [if_pos c0]
                        refine (DT_eq dtx dtm (fun y hy hne => ?_) hz c).symm
                        rw [setb_n hne, v5, if_pos c0]
                      · rw [if_neg c0]
                        by_cases cX : z = X
                        · rw [cX, setb_s]
                          refine ((dtx X (hXl c0).2.1 (by have := hXl c0; omega)).mpr ⟨Xng c0, Or.inr ?_⟩).symm
                          rw [setb_n (by have := hXl c0; omega), v5, if_neg c0, setb_s]
                        · rw [setb_n cX, Bool.eq_iff_iff, dtm z hz c, dtx z hz c, setb_n c, v5, if_neg c0, setb_n cX]
                  · rw [(cf.2.2.2.1 z).2]
                    rcases dsub z hz hdz with q | ⟨q1, q2⟩
                    · rw [q]
                      refine ⟨by omega, hlow _ (by omega), fun ⟨r, y1, y2⟩ => ?_⟩
                      have := t3.2.1 n r hn (hPl r y1).2
                      omega
                    · rcases q2 with q2 | q2 | q2 | q2
                      · exact ⟨q2.1, hlow _ (by omega), q1⟩
                      · exact ⟨q2.2.2, q2.2.1, q1⟩
                      · have := hXl q2.2
                        rw [q2.1]; rw [q2.1] at q1
                        exact ⟨by omega, this.2.2, q1⟩
                      · exact ⟨(h80 z hz q2).1, (h80 z hz q2).2, q1⟩
                  · intro m r hm2 q ht hdz j hj
                    rw [CF_tl cf c1 (fun r q => (hPl r q).1)] at ht hdz ⊢
                    rw [cf.2.2.2.2.2 5 (by decide) (by decide) (by decide) (by decide) (by decide)] at q
                    by_cases c : m = n ∧ Pm r = true
                    · rw [if_pos c] at ht; exact absurd rfl ht
                    · rw [if_neg c] at ht hdz ⊢
                      have hq := t3.2.1 m r hm2 ht
                      have ng : ¬ gvn A W n Pm (tl A W m r) := by
                        rintro ⟨r', y1, y2⟩
                        have := t3.1 m r n r' hm2 hn ht y2.symm
                        rw [← this.2] at y1
                        exact c ⟨this.1, y1⟩
                      have key : ∀ b, setb ddz (na + n) true (tl A W m r) = b → b = false := by
                        intro b hb
                        cases b with
                        | false => rfl
                        | true =>
                          rw [(dtx _ hq.2.1 (by omega)).mpr ⟨ng, Or.inr hb⟩] at hdz
                          cases hdz
                      have k2 := key _ rfl
                      rw [setb_n (by omega), v5] at k2
                      have cX : X = 0 ∨ tl A W m r ≠ X := by
                        by_cases c0 : X = 0
                        · exact Or.inl c0
                        · refine Or.inr (fun z => ?_)
                          rw [if_neg c0, z, setb_s] at k2
                          cases k2
                      have k3 : dd (tl A W m r) = false := by
                        by_cases c0 : X = 0
                        · rw [if_pos c0] at k2; exact k2
                        · rw [if_neg c0] at k2; exact setb_f k2
                      rw [cf.2.2.2.2.1, if_neg (fun z => by
                        rcases cX with y | y
                        · exact z.1 y
                        · omega)]
                      exact nb m r hm2 q ht k3 j hj
                rw [v1, hXf, qb_s, hshr, qb_s, g1, hMf]
                refine ⟨_, u3, w6, rfl, rfl, Tn_Iv fin ?_ (by omega)⟩
                have m1 : cnt dd3 Ls ≤ cnt (setb (setb (setb (setb (setb (setb (setb (setb dd 80 true) 81 true) 82 true) 83 true) (tl A W n (trl (p - 1))) true) (tl A W n 1069) true) X true) (na + n) true) Ls := by
                  refine cnt_mono (fun z hz hdz => ?_)
                  rcases dsub z hz hdz with q | ⟨q1, q2⟩
                  · rw [q, setb_s]
                  · have goal : z = na + n ∨ z = X ∨ z = tl A W n 1069 ∨ z = tl A W n (trl (p - 1)) ∨ z = 83 ∨ z = 82 ∨ z = 81 ∨ z = 80 ∨ dd z = true := by
                      rcases q2 with q2 | q2 | q2 | q2
                      · have : z = 80 ∨ z = 81 ∨ z = 82 ∨ z = 83 := by omega
                        rcases this with y | y | y | y <;> simp [y]
                      · rcases q2.1 with y | y <;> simp [y]
                      · simp [q2.1]
                      · simp [q2]
                    rcases goal with y | y | y | y | y | y | y | y | y
                    · exact sbt.mpr (Or.inl y)
                    · exact sbt.mpr (Or.inr (sbt.mpr (Or.inl y)))
                    · exact sbt.mpr (Or.inr (sbt.mpr (Or.inr (sbt.mpr (Or.inl y)))))
                    · exact sbt.mpr (Or.inr (sbt.mpr (Or.inr (sbt.mpr (Or.inr (sbt.mpr (Or.inl y)))))))
                    · exact sbt.mpr (Or.inr (sbt.mpr (Or.inr (sbt.mpr (Or.inr (sbt.mpr (Or.inr (sbt.mpr (Or.inl y)))))))))
                    · exact sbt.mpr (Or.inr (sbt.mpr (Or.inr (sbt.mpr (Or.inr (sbt.mpr (Or.inr (sbt.mpr (Or.inr (sbt.mpr (Or.inl y)))))))))))
                    · exact sbt.mpr (Or.inr (sbt.mpr (Or.inr (sbt.mpr (Or.inr (sbt.mpr (Or.inr (sbt.mpr (Or.inr (sbt.mpr (Or.inr (sbt.mpr (Or.inl y)))))))))))))
                    · exact sbt.mpr (Or.inr (sbt.mpr (Or.inr (sbt.mpr (Or.inr (sbt.mpr (Or.inr (sbt.mpr (Or.inr (sbt.mpr (Or.inr (sbt.mpr (Or.inr (sbt.mpr (Or.inl y)))))))))))))))
                    · exact sbt.mpr (Or.inr (sbt.mpr (Or.inr (sbt.mpr (Or.inr (sbt.mpr (Or.inr (sbt.mpr (Or.inr (sbt.mpr (Or.inr (sbt.mpr (Or.inr (sbt.mpr (Or.inr y)))))))))))))))
                have q1 := cnt_up1 (P := setb (setb (setb (setb (setb (setb (setb dd 80 true) 81 true) 82 true) 83 true) (tl A W n (trl (p - 1))) true) (tl A W n 1069) true) X true) (x := na + n) (n := Ls)
                have q2 := cnt_up1 (P := setb (setb (setb (setb (setb (setb dd 80 true) 81 true) 82 true) 83 true) (tl A W n (trl (p - 1))) true) (tl A W n 1069) true) (x := X) (n := Ls)
                have q3 := cnt_up1 (P := setb (setb (setb (setb (setb dd 80 true) 81 true) 82 true) 83 true) (tl A W n (trl (p - 1))) true) (x := tl A W n 1069) (n := Ls)
                have q4 := cnt_up1 (P := setb (setb (setb (setb dd 80 true) 81 true) 82 true) 83 true) (x := tl A W n (trl (p - 1))) (n := Ls)
                have q5 := cnt_up1 (P := setb (setb (setb dd 80 true) 81 true) 82 true) (x := 83) (n := Ls)
                have q6 := cnt_up1 (P := setb (setb dd 80 true) 81 true) (x := 82) (n := Ls)
                have q7 := cnt_up1 (P := setb dd 80 true) (x := 81) (n := Ls)
                have q8 := cnt_up1 (P := dd) (x := 80) (n := Ls)
                omega
            · rw [if_neg (nI_ge (by omega) p1), if_neg (nI_ge (by omega) p1)]
              exact ⟨_, ux, um, rfl, rfl, stay⟩
      · rw [if_neg c1, if_pos rfl, if_neg (show ¬ nI (A 5 n) = (1 : Int32) from nI_k (b := 1) hk4 (by decide) c1)]
        exact ⟨_, ux, um, rfl, rfl, stay⟩
    · rw [x_kindOut e, qb_s, m_isFileOut e, qb_s, if_neg (by decide), if_pos rfl]
      exact ⟨_, ux, um, rfl, rfl, stay⟩
