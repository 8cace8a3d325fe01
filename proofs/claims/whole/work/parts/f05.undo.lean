/-! ===== DIRECTORIES and LAID FILES given back; how giving back begins ===== -/
theorem tl_d {A : Nat → Nat → Nat} {W n k : Nat} (h2 : A 5 n = 2) (hk : k < A 8 n) : tl A W n (1102 + k) = A 13 (12 * n + k) := by
  unfold tl
  rw [if_neg (by omega), if_pos h2, if_pos (by omega), show 1102 + k - 1102 = k by omega]
theorem m_undo {B T S C W Ls na n : Nat} {A : Nat → Nat → Nat} {nm : Nat → Int64} {dm : Nat → Bool} {N : Nat} {um : q_St} (g : Geo B T S C W Ls) (hna : na = 80 + (Ls + 511) / 512) (hN : 3000 ≤ N) (t3 : TW3 W Ls (na + 64) A) (hn : n < 64) (h2 : A 5 n = 2) (h8 : A 8 n ≤ 12) (h13 : ∀ k, k < A 8 n → A 13 (12 * n + k) ≠ 0) (h7 : q_i um 7 = nI 80) (rm0 : RM Ls A nm (q_a um) (q_j um 0)) (ms0 : MS Ls dm um) (h17 : ∀ x, A 17 x ≤ 1) :
    ∃ vm A2 dm2 P, fX11_undo N (nI n) um = some (nI (A 8 n), vm) ∧ RM Ls (setA A2 8 n 0) nm (q_a vm) (q_j vm 0) ∧ MS Ls dm2 vm ∧ GM A W na n Ls P A2 dm dm2 ∧ (∀ r, P r = true ↔ 1102 ≤ r ∧ r < 1102 + A 8 n) ∧ cnt P 1400 = A 8 n ∧ Fr [25] [8, 17, 33] [] um vm := by
  have hl := g.l
  have key : ∀ (k i m : Nat) (P1 : Nat → Bool) (A1 : Nat → Nat → Nat) (dm1 : Nat → Bool) (u : q_St), i + k = A 8 n → k < m → RM Ls A1 nm (q_a u) (q_j u 0) → MS Ls dm1 u → GM A W na n Ls P1 A1 dm dm1 → (∀ r, P1 r = true ↔ 1102 ≤ r ∧ r < 1102 + i) → cnt P1 1400 = i → Fr [25] [8, 17, 33] [] um u →
      ∃ vm A2 dm2 P, q_lp (fX11_undo_b9 N) (fun _ _ _ _ => none) m (nI n) (nI (A 8 n)) (nI i) u = some (nI (A 8 n), vm) ∧ RM Ls (setA A2 8 n 0) nm (q_a vm) (q_j vm 0) ∧ MS Ls dm2 vm ∧ GM A W na n Ls P A2 dm dm2 ∧ (∀ r, P r = true ↔ 1102 ≤ r ∧ r < 1102 + A 8 n) ∧ cnt P 1400 = A 8 n ∧ Fr [25] [8, 17, 33] [] um vm := by
    intro k
    induction k with
    | zero =>
      intro i m P1 A1 dm1 u z1 z2 rm ms gm hP hc fr
      have e : i = A 8 n := by omega
      rw [e] at hP hc ⊢
      have r2 := RM_7 (n := n) (k0 := 8) (v := 0) rm (by decide)
      refine ⟨_, A1, dm1, P1, ?_, r2, ⟨by rw [qa_ne (by decide)]; exact ms.1, ms.2⟩, gm, hP, hc, fr.trans (fr_sa1 _ (by decide))⟩
      rw [lp_1 _ _ (by omega), fX11_undo_b9, if_pos (nI_le (by omega) (by omega)), qw_n hn (by decide), cl_n (by omega)]
      rfl
    | succ k ih =>
      intro i m P1 A1 dm1 u z1 z2 rm ms gm hP hc fr
      have et : tl A W n (1102 + i) = A 13 (12 * n + i) := tl_d h2 (by omega)
      have h0 := h13 i (by omega)
      have hr := t3.2.1 n (1102 + i) hn (by rw [et]; exact h0)
      rw [et] at hr
      have Pi : P1 (1102 + i) = false := by
        cases hp : P1 (1102 + i) with
        | false => rfl
        | true => have := (hP _).mp hp; omega
      have oi : own (1102 + i) = true := decide_eq_true (by omega)
      have e13 : A1 13 = A 13 := gm.2.1 13 (by decide) (by decide) (by decide)
      obtain ⟨vm, A2, dm2, b1, b2, b3, b4, b5⟩ := gm_op (N := N) (r0 := 1102 + i) (A1' := A1) (dm1' := dm1) g hna t3 hn gm et h0 Pi (Or.inl oi) rm ms ((fr.1 7 (by decide)).trans h7) (fun k j => by rw [if_neg (by omega)]) (fun z hz hne => by rw [tel_own oi, if_neg hne]) (fun q => q)
      obtain ⟨v3, A3, dm3, P3, d1, d2, d3, d4, d5, d6, d7⟩ := ih (i + 1) (m - 1) (setb P1 (1102 + i) true) A2 dm2 vm (by omega) (by omega) b2 b3 b4 (fun r => by
        rw [sbt, hP r]
        omega) (by rw [cnt_set (by omega) Pi, hc]) (fr.trans (b5.mono (by decide) (by decide) (by decide)))
      refine ⟨v3, A3, dm3, P3, ?_, d2, d3, d4, d5, d6, d7⟩
      rw [lp_1 _ _ (by omega), fX11_undo_b9, if_neg (nI_ge (by omega) (by omega)), show (12 : Int32) * nI n = nI (12 * n) from pk_mul 12 n, nI_add, qr_n (by omega) (by omega), rm.2.2.2.2.1 _ (by omega), e13, b1, qb_s, qn_s, nI_1]
      exact d1
  unfold fX11_undo
  rw [qr_n hn (by decide), rm0.r7 (by decide) hn]
  exact key (A 8 n) 0 N (fun _ => false) A dm um (by omega) (by omega) rm0 ms0 (GM_0 h17) (fun r => ⟨fun w => (by cases w), fun w => (by omega)⟩) (cnt_no _) (Fr.rf _ _ _ _)
theorem m_unlay {B T S C W Ls na n : Nat} {A : Nat → Nat → Nat} {nm : Nat → Int64} {dm : Nat → Bool} {N : Nat} {um : q_St} (g : Geo B T S C W Ls) (hna : na = 80 + (Ls + 511) / 512) (hN : 3000 ≤ N) (t3 : TW3 W Ls (na + 64) A) (hn : n < 64) (h3 : A 5 n = 3) (h13 : A 13 (12 * n) ≠ 0) (h7 : q_i um 7 = nI 80) (h4 : q_i um 4 = nI W) (rm0 : RM Ls A nm (q_a um) (q_j um 0)) (ms0 : MS Ls dm um) (h17 : ∀ x, A 17 x ≤ 1) :
    ∃ vm A2 dm2 P, fX11_unlay N (nI n) um = some (nI W, vm) ∧ RM Ls A2 nm (q_a vm) (q_j vm 0) ∧ MS Ls dm2 vm ∧ GM A W na n Ls P A2 dm dm2 ∧ (∀ r, P r = true ↔ 1114 ≤ r ∧ r < 1114 + W) ∧ cnt P 1400 = W ∧ Fr [25] [17, 33] [] um vm := by
  have hl := g.l
  have hw := g.w
  have key : ∀ (k i m : Nat) (P1 : Nat → Bool) (A1 : Nat → Nat → Nat) (dm1 : Nat → Bool) (u : q_St), i + k = W → k < m → RM Ls A1 nm (q_a u) (q_j u 0) → MS Ls dm1 u → GM A W na n Ls P1 A1 dm dm1 → (∀ r, P1 r = true ↔ 1114 ≤ r ∧ r < 1114 + i) → cnt P1 1400 = i → Fr [25] [17, 33] [] um u →
      ∃ vm A2 dm2 P, q_lp (fX11_unlay_b10 N) (fun _ _ _ => none) m (nI n) (nI (A 13 (12 * n) + i)) u = some (nI W, vm) ∧ RM Ls A2 nm (q_a vm) (q_j vm 0) ∧ MS Ls dm2 vm ∧ GM A W na n Ls P A2 dm dm2 ∧ (∀ r, P r = true ↔ 1114 ≤ r ∧ r < 1114 + W) ∧ cnt P 1400 = W ∧ Fr [25] [17, 33] [] um vm := by
    intro k
    induction k with
    | zero =>
      intro i m P1 A1 dm1 u z1 z2 rm ms gm hP hc fr
      have e : i = W := by omega
      subst e
      have et := tl_l (A := A) (n := n) (i := 0) h3 (W := i) (by omega)
      have hr := t3.2.1 n (1114 + 0) hn (by rw [et]; omega)
      rw [et] at hr
      have e13 : A1 13 = A 13 := gm.2.1 13 (by decide) (by decide) (by decide)
      refine ⟨u, A1, dm1, P1, ?_, rm, ms, gm, hP, hc, fr⟩
      rw [lp_1 _ _ (by omega), fX11_unlay_b10, show (12 : Int32) * nI n = nI (12 * n) from pk_mul 12 n, qr_n (by omega) (by omega), rm.2.2.2.2.1 _ (by omega), e13, fr.1 4 (by decide), h4, nI_add, if_pos (nI_le (by omega) (by omega))]
    | succ k ih =>
      intro i m P1 A1 dm1 u z1 z2 rm ms gm hP hc fr
      have et := tl_l (A := A) (n := n) (i := i) h3 (W := W) (by omega)
      have hr := t3.2.1 n (1114 + i) hn (by rw [et]; omega)
      rw [et] at hr
      have Pi : P1 (1114 + i) = false := by
        cases hp : P1 (1114 + i) with
        | false => rfl
        | true => have := (hP _).mp hp; omega
      have oi : own (1114 + i) = true := decide_eq_true (by omega)
      have e13 : A1 13 = A 13 := gm.2.1 13 (by decide) (by decide) (by decide)
      obtain ⟨vm, A2, dm2, b1, b2, b3, b4, b5⟩ := gm_op (N := N) (r0 := 1114 + i) (A1' := A1) (dm1' := dm1) g hna t3 hn gm et (by omega) Pi (Or.inl oi) rm ms ((fr.1 7 (by decide)).trans h7) (fun k j => by rw [if_neg (by omega)]) (fun z hz hne => by rw [tel_own oi, if_neg hne]) (fun q => q)
      obtain ⟨v3, A3, dm3, P3, d1, d2, d3, d4, d5, d6, d7⟩ := ih (i + 1) (m - 1) (setb P1 (1114 + i) true) A2 dm2 vm (by omega) (by omega) b2 b3 b4 (fun r => by
        rw [sbt, hP r]
        omega) (by rw [cnt_set (by omega) Pi, hc]) (fr.trans (b5.mono (by decide) (by decide) (by decide)))
      refine ⟨v3, A3, dm3, P3, ?_, d2, d3, d4, d5, d6, d7⟩
      have hlast := tl_l (A := A) (n := n) (i := W - 1) h3 (W := W) (by omega)
      have hrl := t3.2.1 n (1114 + (W - 1)) hn (by rw [hlast]; omega)
      rw [hlast] at hrl
      rw [lp_1 _ _ (by omega), fX11_unlay_b10, show (12 : Int32) * nI n = nI (12 * n) from pk_mul 12 n, qr_n (by omega) (by omega), rm.2.2.2.2.1 _ (by omega), e13, fr.1 4 (by decide), h4, nI_add, if_neg (nI_ge (by omega) (by omega)), b1, qb_s, qn_s, nI_1]
      exact d1
  unfold fX11_unlay
  rw [show (12 : Int32) * nI n = nI (12 * n) from pk_mul 12 n, qr_n (by omega) (by omega), rm0.2.2.2.2.1 _ (by omega)]
  exact key W 0 N (fun _ => false) A dm um (by omega) (by omega) rm0 ms0 (GM_0 h17) (fun r => ⟨fun w => (by cases w), fun w => (by omega)⟩) (cnt_no _) (Fr.rf _ _ _ _)
theorem x_gbBand {B T S C W Ls na hb n bd : Nat} {um : q_St} {D K : Nat → Nat → Int64} {dd : Nat → Bool} {A : Nat → Nat → Nat} {L : Nat → Nat} {N : Nat} {ux : q_St} (g : Geo B T S C W Ls) (gl : gL B C W Ls L) (hna : na = 80 + (Ls + 511) / 512) (hN : 300 ≤ N) (t3 : TW3 W Ls (na + 64) A) (hn : n < 64) (h3 : A 5 n = 3) (hbd : bd * W = A 13 (12 * n)) (h13 : A 13 (12 * n) ≠ 0) (s0 : XS B T S C W Ls hb um D K dd ux) (b0 : GB A W na n Ls (fun _ => false) K K dd dd) :
    ∃ u K2 dd2 P, fX5_giveBackBand L N (nI bd) ux = some (nI W, u) ∧ XS B T S C W Ls hb um D K2 dd2 u ∧ GB A W na n Ls P K K2 dd dd2 ∧ (∀ r, P r = true ↔ 1114 ≤ r ∧ r < 1114 + W) ∧ cnt P 1400 = W ∧ Fr [13, 22] [5] [2] ux u := by
  have hl := g.l
  have hw := g.w
  have hlast := tl_l (A := A) (n := n) (i := W - 1) h3 (W := W) (by omega)
  have hrl := t3.2.1 n (1114 + (W - 1)) hn (by rw [hlast]; omega)
  rw [hlast] at hrl
  have key : ∀ (k i m : Nat) (P1 : Nat → Bool) (K1 : Nat → Nat → Int64) (dd1 : Nat → Bool) (u : q_St), i + k = W → k < m → XS B T S C W Ls hb um D K1 dd1 u → GB A W na n Ls P1 K K1 dd dd1 → (∀ r, P1 r = true ↔ 1114 ≤ r ∧ r < 1114 + i) → cnt P1 1400 = i → Fr [13, 22] [5] [2] ux u →
      ∃ v K2 dd2 P, q_lp (fX5_giveBackBand_b9 L N) (fun _ _ _ => none) m (nI (A 13 (12 * n))) (nI (A 13 (12 * n) + i)) u = some (nI W, v) ∧ XS B T S C W Ls hb um D K2 dd2 v ∧ GB A W na n Ls P K K2 dd dd2 ∧ (∀ r, P r = true ↔ 1114 ≤ r ∧ r < 1114 + W) ∧ cnt P 1400 = W ∧ Fr [13, 22] [5] [2] ux v := by
    intro k
    induction k with
    | zero =>
      intro i m P1 K1 dd1 u z1 z2 s b hP hc fr
      have e : i = W := by omega
      subst e
      have e26 := s.1.gx.2.2.2.2.2.2.2.1
      refine ⟨u, K1, dd1, P1, ?_, s, b, hP, hc, fr⟩
      rw [lp_1 _ _ (by omega), fX5_giveBackBand_b9, e26, nI_add, if_pos (nI_le (by omega) (by omega))]
    | succ k ih =>
      intro i m P1 K1 dd1 u z1 z2 s b hP hc fr
      have e26 := s.1.gx.2.2.2.2.2.2.2.1
      have et := tl_l (A := A) (n := n) (i := i) h3 (W := W) (by omega)
      have hr := t3.2.1 n (1114 + i) hn (by rw [et]; omega)
      rw [et] at hr
      have Pi : P1 (1114 + i) = false := by
        cases hp : P1 (1114 + i) with
        | false => rfl
        | true => have := (hP _).mp hp; omega
      have oi : own (1114 + i) = true := decide_eq_true (by omega)
      obtain ⟨u1, K2, a1, a2, a3, a4, a5⟩ := gb_a (N := N) (r0 := 1114 + i) g gl hna t3 hn s et (by omega) b
      obtain ⟨b1, b2, b3, b4, b5, b6, b7⟩ := b
      have gb2 : GB A W na n Ls (setb P1 (1114 + i) true) K K2 dd (setb (setb dd1 (80 + (A 13 (12 * n) + i) / 512) true) (A 13 (12 * n) + i) false) := by
        refine ⟨fun r hrr => ?_, a3, fun r hr1 => ?_, fun y w hy hyL hyn hu => ?_, fun w w1 w2 w3 w4 => ?_, ?_, fun q => ?_⟩
        · rcases sbt.mp hrr with e | e
          · rw [e, et]; omega
          · exact b1 r e
        · unfold rk at hr1; omega
        · have hyx : y ≠ A 13 (12 * n) + i := fun z => by
            have := (hu (1114 + i) (by rw [et, z])).2
            rw [setb_s] at this
            cases this
          rw [a4 y w hy hyx]
          exact b4 y w hy hyL hyn (fun r hr2 => ⟨(hu r hr2).1, setb_f (hu r hr2).2⟩)
        · rw [a4 _ _ (by omega) (by omega)]
          exact b5 w w1 w2 w3 w4
        · refine DT_step (fb := na + 64) (x := A 13 (12 * n) + i) (s := na + n) b6 et (tel_own oi) (by omega) (fun ⟨r, r1, r2⟩ => ?_) (fun r q => (t3.2.1 n r hn (b1 r q)).1) hr.1 (by omega) (fun z hz hne => ?_)
          · have := t3.2.1 n r hn (b1 r r1)
            omega
          · unfold setb
            by_cases c : z = A 13 (12 * n) + i
            · rw [if_pos c, if_pos c]
            · rw [if_neg c, if_neg c]
              by_cases c3 : z = 80 + (A 13 (12 * n) + i) / 512
              · rw [if_pos c3, if_pos (Or.inl c3)]
              · rw [if_neg c3, if_neg (fun q => q.elim c3 hne)]
        · rw [setb_n (by omega)]
          exact setb_k (b7 q)
      obtain ⟨v3, K3, dd3, P3, d1, d2, d3, d4, d5, d6⟩ := ih (i + 1) (m - 1) (setb P1 (1114 + i) true) K2 _ u1 (by omega) (by omega) a2 gb2 (fun r => by
        rw [sbt, hP r]
        omega) (by rw [cnt_set (by omega) Pi, hc]) (fr.trans a5)
      refine ⟨v3, K3, dd3, P3, ?_, d2, d3, d4, d5, d6⟩
      rw [lp_1 _ _ (by omega), fX5_giveBackBand_b9, e26, nI_add, if_neg (nI_ge (by omega) (by omega)), a1, qb_s, qn_s, nI_1]
      exact d1
  have e26 := s0.1.gx.2.2.2.2.2.2.2.1
  unfold fX5_giveBackBand
  rw [e26, pk_mul, hbd, qn_s]
  exact key W 0 N (fun _ => false) K dd ux (by omega) (by omega) s0 b0 (fun r => ⟨fun w => (by cases w), fun w => (by omega)⟩) (cnt_no _) (Fr.rf _ _ _ _)
theorem x_gbDir {B T S C W Ls na hb n : Nat} {um : q_St} {D K : Nat → Nat → Int64} {dd : Nat → Bool} {A : Nat → Nat → Nat} {L : Nat → Nat} {N : Nat} {ux : q_St} (g : Geo B T S C W Ls) (gl : gL B C W Ls L) (hna : na = 80 + (Ls + 511) / 512) (hN : 300 ≤ N) (t3 : TW3 W Ls (na + 64) A) (hn : n < 64) (h2 : A 5 n = 2) (h8 : A 8 n ≤ 12) (h13 : ∀ k, k < A 8 n → A 13 (12 * n + k) ≠ 0) (s : XS B T S C W Ls hb um D K dd ux) (b : GB A W na n Ls (fun _ => false) K K dd dd) :
    ∃ u K2 dd2 P c, fX0_giveBackTold L N (nI (na + n)) 4 16 ux = some (nI c, u) ∧ XS B T S C W Ls hb um D K2 dd2 u ∧ GB A W na n Ls P K K2 dd dd2 ∧ (∀ r, P r = true ↔ 1102 ≤ r ∧ r < 1102 + A 8 n) ∧ cnt P 1400 = c ∧ Fr [13, 22] [5] [2] ux u := by
  have hl := g.l
  have oq : ∀ q, own (1102 + (q - 4)) = true := fun q => decide_eq_true (by omega)
  obtain ⟨u1, K1, dd1, P1, c1, a1, a2, a3, a4, a5, a6, a7⟩ := x_gbT (N := N) (a := 4) (b := 16) (P0 := fun _ => false) (sct := na + n) (K := K) (dd := dd) (um := um) (D := D) (hb := hb) g gl hna t3 hn (fun q => 1102 + (q - 4)) (by decide) ⟨by omega, by omega⟩ (fun q q1 q2 => by
    refine ⟨Or.inr ⟨h2, by omega, by omega⟩, tel_own (oq q), ?_, Or.inl (oq q), rfl⟩
    unfold hpl
    rw [if_neg (by omega), if_neg (by omega), if_neg (by omega), if_neg (by omega), if_neg (by omega), if_neg (by omega)]
    omega) 12 4 N 0 (fun _ => false) K dd ux (by omega) (by omega) (by omega) s b (fun r => ⟨fun z => Or.inl z, fun z => z.elim id (fun ⟨q', w1, w2, _⟩ => by omega)⟩) (Nat.add_zero _).symm (by omega)
  refine ⟨u1, K1, dd1, P1, c1, a1, a2, a3, fun r => ?_, by rw [a5, cnt_no]; omega, a7⟩
  rw [a4 r]
  constructor
  · rintro (z | ⟨q', w1, w2, w3, w4⟩)
    · cases z
    · refine ⟨by omega, ?_⟩
      rcases Nat.lt_or_ge r (1102 + A 8 n) with q | q
      · exact q
      · exfalso
        apply w4
        unfold tl
        rw [if_neg (by omega), if_pos h2, if_neg (by omega)]
  · rintro ⟨z1, z2⟩
    refine Or.inr ⟨r - 1102 + 4, by omega, by omega, by omega, ?_⟩
    have := tl_d (A := A) (W := W) (n := n) (k := r - 1102) h2 (by omega)
    rw [show 1102 + (r - 1102) = r by omega] at this
    rw [this]
    exact h13 _ (by omega)
/-- before anything is given back -/
theorem GB_0 {B W Ls na n : Nat} {A : Nat → Nat → Nat} {nm : Nat → Int64} {K : Nat → Nat → Int64} {dd : Nat → Bool} (t1 : TW1 W B A) (rx : RX W Ls na A nm K) (hn : n < 64) : GB A W na n Ls (fun _ => false) K K dd dd := by
  refine ⟨fun r h => (by cases h), fun x hx => ?_, fun r hr ha => ?_, fun y w _ _ _ _ => rfl, fun w _ _ _ _ => rfl, DT_0, fun q => q⟩
  · have m := rx.1 x hx
    rw [m]
    simp only [Bool.and_eq_true, decide_eq_true_eq]
    exact ⟨fun q => ⟨q.1, q.2, fun ⟨r, r1, _⟩ => (by cases r1)⟩, fun q => ⟨q.1, q.2.1⟩⟩
  · rw [if_neg (show ¬ (false = true) by decide)]
    have mn := rx.2.1 n hn
    rcases hr with ⟨h1, h2⟩ | ⟨h1, h2, h3⟩
    · have m4 := mn.2.2.2.1 h1
      by_cases c : own r = true
      · rw [tel_own c]
        have ho := own_t c
        unfold hpl
        by_cases c1 : r < 12
        · rw [if_pos c1, m4.1 r c1, tl_p h1 (by omega)]
        · rw [if_neg c1, if_neg (by omega), if_neg (by omega)]
          by_cases c2 : r = 1068
          · have := tl_i (W := W) h1 (show 0 < 34 by decide)
            rw [if_pos c2, m4.2.1, c2, this, Nat.add_zero]
          · have e : r = 1068 + 1 := by omega
            rw [if_neg c2, if_pos (by omega), m4.2.2, e, tl_i h1 (by decide)]
      · have ho := own_f c
        rcases ha with q | ⟨q1, -⟩
        · exact absurd q c
        · have ro := rx.2.2 n (trl r) hn q1
          unfold tel
          rw [if_neg c]
          unfold hpl
          rw [if_neg (by omega)]
          by_cases c1 : r < 44
          · have et : trl r = 1068 := by unfold trl; rw [if_pos c1]
            rw [et] at ro ⊢
            rw [if_pos c1, ro.2.1 h1 rfl (r - 12) (by omega), tl_p h1 (by omega), show 1068 * n + 12 + (r - 12) = 1068 * n + r by omega]
          · by_cases c2 : r < 1068
            · have et : trl r = 1070 + (r - 44) / 32 := by unfold trl; rw [if_neg c1, if_pos c2]
              rw [et] at ro ⊢
              rw [if_neg c1, if_pos c2, ro.2.2.2.1 h1 (by omega) ((r - 44) % 32) (by omega), tl_p h1 c2, show 1068 * n + 44 + 32 * (1070 + (r - 44) / 32 - 1070) + (r - 44) % 32 = 1068 * n + r by omega]
            · have et : trl r = 1069 := by unfold trl; rw [if_neg c1, if_neg c2]
              have e : r = 1068 + (r - 1068) := by omega
              have := tl_i (W := W) h1 (show r - 1068 < 34 by omega)
              rw [← e] at this
              rw [et] at ro ⊢
              rw [if_neg c1, if_neg c2, if_neg (by omega), if_neg (by omega), if_pos (by omega), ro.2.2.1 h1 rfl (r - 1070) (by omega), this, show 34 * n + 2 + (r - 1070) = 34 * n + (r - 1068) by omega]
    · have m3 := (mn.2.2.1 h1).1 (r - 1102) (by omega)
      rw [tel_own (decide_eq_true (by omega))]
      unfold hpl
      rw [if_neg (by omega), if_neg (by omega), if_neg (by omega), if_neg (by omega), if_neg (by omega), if_neg (by omega), m3]
      unfold tl
      rw [if_neg (show ¬ A 5 n = 1 by omega), if_pos h1]
      by_cases c : r - 1102 < A 8 n
      · rw [if_pos c, if_pos ⟨h2, c⟩]
      · rw [if_neg c, if_neg (fun z => c z.2)]
theorem GB_cg {A A2 : Nat → Nat → Nat} {W na n Ls : Nat} {P dd dd1 : Nat → Bool} {K K1 : Nat → Nat → Int64} (b : GB A W na n Ls P K K1 dd dd1) (h5 : A2 5 = A 5) (h8 : A2 8 = A 8) (h9 : A2 9 = A 9) (h10 : A2 10 = A 10) (h13 : A2 13 = A 13) (h17 : A2 17 = A 17) : GB A2 W na n Ls P K K1 dd dd1 := by
  have ht := tl_sc (W := W) h5 h8 h9 h10 h13
  have ev : gvn A2 W n P = gvn A W n P := by funext z; unfold gvn; rw [ht]
  have et : tel A2 W na n = tel A W na n := by funext r; unfold tel; rw [ht]
  have er : rk A2 n = rk A n := by funext r; unfold rk; rw [h5]
  unfold GB DT at b ⊢
  rw [ev, et, er, ht, h17]
  exact b
