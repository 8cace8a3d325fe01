/-! ===== check ===== -/
theorem isi_0 {A : Nat → Nat → Nat} : ∀ k e, upn A k e = 0 → isi A 0 k e = true
  | 0, e, h => decide_eq_true h
  | k + 1, e, h => by
    have i1 : isi A 0 (k + 1) e = if e = 0 then true else isi A 0 k (A 7 e) := rfl
    rw [i1]
    by_cases c : e = 0
    · rw [if_pos c]
    · rw [if_neg c]
      exact isi_0 k (A 7 e) h
theorem ck_nodes {B T S C W Ls na hb : Nat} {um : q_St} {D K : Nat → Nat → Int64} {dd : Nat → Bool} {A : Nat → Nat → Nat} {nm : Nat → Int64} {L : Nat → Nat} {N : Nat} {ux : q_St} (x : Xr B T S C W Ls na hb um D K dd A nm L ux) (hN : 3000 ≤ N) : ∀ (k n m : Nat) (u : q_St), n + k = 64 → k < m → CK W Ls A ux n (fun _ => False) (48 * n) u → ∃ v, q_lp (fX1_wrongThings_b31 L N) (fun _ _ => none) m (nI n) u = q_lp (fX1_wrongThings_b104 L N) (fun _ _ => none) N 0 v ∧ CK W Ls A ux 64 (fun _ => False) 3072 v := by
  have t4 := x.2.2.2.2.2.2.1
  intro k
  induction k with
  | zero =>
    intro n m u q1 q2 ck
    have : n = 64 := by omega
    subst this
    exact ⟨u, by rw [lp_1 _ _ (by omega), fX1_wrongThings_b31, if_pos (show (64 : Int32) ≤ nI 64 by decide)], ck⟩
  | succ k ih =>
    intro n m u q1 q2 ck
    have hn : n < 64 := by omega
    have xu := Xr_sc x ck.1
    have hk4 := x.k4 hn
    have noS : A 5 n ≠ 2 → ∀ j, 48 * n ≤ j → j < 48 * (n + 1) → A 14 j = 0 := by
      intro h2 j j1 j2
      by_cases z : A 14 j = 0
      · exact z
      · exfalso
        have := (t4 j (by omega) z).1
        rw [show j / 48 = n by omega] at this
        exact h2 this
    have go : ∀ v, CK W Ls A ux n (fun _ => True) (48 * (n + 1)) v → ∃ z, fX1_wrongThings_b96 L N (q_lp (fX1_wrongThings_b31 L N) (fun _ _ => none) (m - 1)) (nI n) v = q_lp (fX1_wrongThings_b104 L N) (fun _ _ => none) N 0 z ∧ CK W Ls A ux 64 (fun _ => False) 3072 z := by
      intro v cv
      obtain ⟨z, k1, k2⟩ := ih (n + 1) (m - 1) v (by omega) (by omega) (ck_step cv)
      refine ⟨z, ?_, k2⟩
      unfold fX1_wrongThings_b96
      rw [qn_s, nI_1]
      exact k1
    rw [lp_1 _ _ (by omega), fX1_wrongThings_b31, if_neg (show ¬ (64 : Int32) ≤ nI n from nI_ge (b := 64) hn (by decide)), x_kindOf xu hn, qb_s]
    have hk : A 5 n = 0 ∨ A 5 n = 1 ∨ A 5 n = 2 ∨ A 5 n = 3 ∨ A 5 n = 4 := by omega
    rcases hk with h | h | h | h | h
    · rw [h, if_neg (by decide), if_neg (by decide), if_neg (by decide)]
      refine go u (ck_J (ck_ext ck (fun r hr => ⟨fun z => z.elim, fun _ => ?_⟩)) (by omega) (noS (by omega)))
      exact hr (by unfold tl; rw [if_neg (by omega), if_neg (by omega), if_neg (by omega)])
    · obtain ⟨v, a1, a2⟩ := ck_file (N := N) x hN hn h ck
      rw [h, if_pos (show nI 1 = (1 : Int32) from rfl), a1, qb_s]
      exact go v (ck_J a2 (by omega) (noS (by omega)))
    · obtain ⟨v, a1, a2⟩ := ck_dir (N := N) x hN hn h ck
      rw [h, if_neg (show ¬ nI 2 = (1 : Int32) by decide), if_pos (show nI 2 = (2 : Int32) from rfl), a1, qb_s]
      exact go v a2
    · obtain ⟨v, a1, a2⟩ := ck_laid (N := N) x hN hn h ck
      rw [h, if_neg (show ¬ nI 3 = (1 : Int32) by decide), if_neg (show ¬ nI 3 = (2 : Int32) by decide), if_pos (show nI 3 = (3 : Int32) from rfl), a1, qb_s]
      exact go v (ck_J a2 (by omega) (noS (by omega)))
    · rw [h, if_neg (by decide), if_neg (by decide), if_neg (by decide)]
      refine go u (ck_J (ck_ext ck (fun r hr => ⟨fun z => z.elim, fun _ => ?_⟩)) (by omega) (noS (by omega)))
      exact hr (by unfold tl; rw [if_neg (by omega), if_neg (by omega), if_neg (by omega)])
theorem ck_held {B T S C W Ls na hb n : Nat} {um : q_St} {D K : Nat → Nat → Int64} {dd : Nat → Bool} {A : Nat → Nat → Nat} {nm : Nat → Int64} {L : Nat → Nat} {N : Nat} {ux u : q_St} (x : Xr B T S C W Ls na hb um D K dd A nm L ux) (hN : 3000 ≤ N) (hn : n < 64) (ck : CK W Ls A ux 64 (fun _ => False) 3072 u) : fX1_isHeldRight L N (nI n) u = some (1, u) := by
  have gl := x.1.2.1
  have l18 : L 18 = 64 := gl.2.2.2.2.2.2.2.2.2.2.2.2.2.2.2.2.2.2.1
  have l19 : L 19 = 64 := gl.2.2.2.2.2.2.2.2.2.2.2.2.2.2.2.2.2.2.2
  obtain ⟨c1, c2, -, c4, c5⟩ := ck
  obtain ⟨-, t2, t3, t4, t5⟩ := x.2.2.2.2.2.2
  have xu := Xr_sc x c1
  have hk4 := x.k4 hn
  have h15 := (x.2.2.2.1.1 n hn).2.2.2.1
  have cnt1 : n ≠ 0 → q_a u 13 n = nI (if A 5 n = 0 then 0 else A 15 n) := fun h0 => by rw [c4 n hn, if_neg h0, t2 n hn h0]
  have h00 := x.2.2.2.1.2.1
  unfold fX1_isHeldRight
  rw [if_neg (nI_pos (by omega)), l18, l19, if_neg (nI_ge (by omega) (by decide)), if_pos (nI_lt (by omega) (by decide)), x_kindOf xu hn, qb_s]
  have hk : A 5 n = 0 ∨ A 5 n = 1 ∨ A 5 n = 2 ∨ A 5 n = 3 ∨ A 5 n = 4 := by omega
  have file : (A 5 n = 1 ∨ A 5 n = 3) → (q_rd 64 (q_a u 13) (nI n) (fun v18 => (if v18 ≤ 0 then (some ((0 : Int32), u)) else (q_rd 64 (q_a u 13) (nI n) (fun v19 => (q_bnd (fX4_linksOf L N (nI n) u) (fun r20 u21 => (if v19 = r20 then (some (1, u21)) else (some (0, u21)))))))))) = some (1, u) := by
    intro hf
    have h0 : n ≠ 0 := fun z => by rw [z] at hf; omega
    have h1 := t4 n hn h0 (by omega)
    rw [qr_n hn (by decide), cnt1 h0, if_neg (show ¬ A 5 n = 0 by omega), if_neg (show ¬ nI (A 15 n) ≤ (0 : Int32) from nI_ge (a := 0) (by omega) (by omega)), qr_n hn (by decide), cnt1 h0, if_neg (show ¬ A 5 n = 0 by omega), x_linksOf xu hn (by omega), qb_s, if_pos hf, if_pos rfl]
  rcases hk with h | h | h | h | h
  · have h0 : n ≠ 0 := fun z => by rw [z] at h; omega
    rw [h, if_pos (show nI 0 = (0 : Int32) from rfl), qr_n hn (by decide), cnt1 h0, if_pos h, if_pos (show nI 0 = (0 : Int32) from rfl)]
  · rw [h, if_neg (show ¬ nI 1 = (0 : Int32) by decide), if_neg (show ¬ nI 1 = (2 : Int32) by decide), if_neg (show ¬ nI 1 = (4 : Int32) by decide)]
    exact file (Or.inl h)
  · rw [h, if_neg (show ¬ nI 2 = (0 : Int32) by decide), if_pos (show nI 2 = (2 : Int32) from rfl)]
    have mh := ((x.2.2.1.2.1 n hn).2.2.1 h).2
    by_cases h0 : n = 0
    · rw [if_pos (by rw [h0]; rfl), qr_n hn (by decide), c4 n hn, if_pos h0, if_pos (show nI 0 = (0 : Int32) from rfl), x_holderOf xu hn, qb_s, mh, h0, h00.2, if_pos (show nI 0 = (0 : Int32) from rfl)]
    · have h1 := t3 n hn h0 (Or.inl h)
      have hc := t2 n hn h0
      rw [if_neg (by omega), h1] at hc
      have hex : ∃ j, j < 3072 ∧ A 14 j = n ∧ A 14 j ≠ 0 := by
        by_cases c : ∃ j, j < 3072 ∧ A 14 j = n
        · obtain ⟨j, j1, j2⟩ := c
          exact ⟨j, j1, j2, by rw [j2]; exact h0⟩
        · exfalso
          have : cnt (fun j => decide (A 14 j = n)) 3072 = cnt (fun _ => false) 3072 := cnt_congr (fun j hj => decide_eq_false (fun z => c ⟨j, hj, z⟩))
          rw [this, cnt_no] at hc
          omega
      have h7 : ∀ m, m < 64 → A 5 m = 2 → A 7 m < 64 ∧ A 5 (A 7 m) = 2 := fun m hm hk => ⟨(x.2.2.2.1.2.2.1 m hm hk).1, (x.2.2.2.1.2.2.1 m hm hk).2.1⟩
      obtain ⟨kk, kk1, kk2⟩ := up63 h7 hn h (t5 n hn h)
      have iw : fX4_isWithin L N (nI n) 0 u = some (1, u) := by
        have := x_isWithin (N := N) (n := 0) xu (by decide) kk 0 N 64 (by omega) (by omega) (by omega) n hn h kk2 (Or.inr trivial)
        rw [isi_0 kk n kk2] at this
        exact this
      rw [if_neg (nI_ne0 (by omega) (by omega)), qr_n hn (by decide), cnt1 h0, if_neg (show ¬ A 5 n = 0 by omega), h1, if_pos (show nI 1 = (1 : Int32) from rfl), x_holderOf xu hn, qb_s, mh, qr_n hn (by decide), c5 n hn h hex, if_pos rfl, iw, qb_s, if_neg (by decide)]
  · rw [h, if_neg (show ¬ nI 3 = (0 : Int32) by decide), if_neg (show ¬ nI 3 = (2 : Int32) by decide), if_neg (show ¬ nI 3 = (4 : Int32) by decide)]
    exact file (Or.inr h)
  · have h0 : n ≠ 0 := fun z => by rw [z] at h; omega
    have h1 := t3 n hn h0 (Or.inr h)
    rw [h, if_neg (show ¬ nI 4 = (0 : Int32) by decide), if_neg (show ¬ nI 4 = (2 : Int32) by decide), if_pos (show nI 4 = (4 : Int32) from rfl), qr_n hn (by decide), cnt1 h0, if_neg (show ¬ A 5 n = 0 by omega), h1, if_pos (show nI 1 = (1 : Int32) from rfl)]
theorem p_check {B T S C W Ls na : Nat} {L : Nat → Nat} {N : Nat} (g : Geo B T S C W Ls) (gl : gL B C W Ls L) (hna : na = 80 + (Ls + 511) / 512) (hN : 3000 ≤ N) : st_check (Iv B T S C W Ls na) L N := by
  intro k ux um hk h
  have hl := g.l
  refine rd_sc (off := -99) g gl hna h (fun q1 q2 => ?_) (fun hb D K dd A nm q1 q2 x rm wh ms => ?_)
  · unfold fX10_check fX11_check
    rw [if_pos q1, if_pos q2]
    exact ⟨rfl, rfl⟩
  · unfold fX10_check fX11_check
    rw [q1, q2, if_neg (by decide), if_neg (by decide)]
    have l17 : L 17 = Ls := gl.2.2.2.2.2.2.2.2.2.2.2.2.2.2.2.2.2.1
    have l18 : L 18 = 64 := gl.2.2.2.2.2.2.2.2.2.2.2.2.2.2.2.2.2.2.1
    have l19 : L 19 = 64 := gl.2.2.2.2.2.2.2.2.2.2.2.2.2.2.2.2.2.2.2
    obtain ⟨f1, a1, a2⟩ := x_fill29 (N := N) l17 (by omega) hN 0 (q_si ux 40 0)
    obtain ⟨f2, b1, b2⟩ := x_fill30 (N := N) l18 (by omega) hN 0 (q_sa (q_si ux 40 0) 12 f1)
    obtain ⟨f3, d1, d2⟩ := x_fill31 (N := N) l19 (by omega) hN (-1) (q_sa (q_sa (q_si ux 40 0) 12 f1) 13 f2)
    obtain ⟨u, hu⟩ : ∃ q, q = q_sa (q_sa (q_sa (q_si ux 40 0) 12 f1) 13 f2) 14 f3 := ⟨_, rfl⟩
    have ck0 : CK W Ls A ux 0 (fun _ => False) (48 * 0) u := by
      refine ⟨?_, by rw [hu]; show q_i (q_si ux 40 0) 40 = 0; exact qi_eq, ⟨fun _ => false, fun z hz => ?_, fun z => ⟨fun q => (by cases q), fun q => ?_⟩⟩, fun e he => ?_, fun e he _ hj => ?_⟩
      · have e1 : Fr [34, 35, 36, 37, 38, 39, 40] [7, 10, 11, 12, 13, 14] [4] ux (q_si ux 40 0) := fr_si1 _ (by decide)
        have e2 : Fr [34, 35, 36, 37, 38, 39, 40] [7, 10, 11, 12, 13, 14] [4] (q_si ux 40 0) (q_sa (q_si ux 40 0) 12 f1) := fr_sa1 _ (by decide)
        have e3 : Fr [34, 35, 36, 37, 38, 39, 40] [7, 10, 11, 12, 13, 14] [4] (q_sa (q_si ux 40 0) 12 f1) (q_sa (q_sa (q_si ux 40 0) 12 f1) 13 f2) := fr_sa1 _ (by decide)
        have e4 : Fr [34, 35, 36, 37, 38, 39, 40] [7, 10, 11, 12, 13, 14] [4] (q_sa (q_sa (q_si ux 40 0) 12 f1) 13 f2) u := by rw [hu]; exact fr_sa1 _ (by decide)
        exact ((e1.trans e2).trans e3).trans e4
      · rw [hu, qa_ne (by decide), qa_ne (by decide), qa_eq]
        exact a2 z hz
      · rcases q with ⟨m, r, q, -⟩ | ⟨r, q, -⟩
        · omega
        · exact q.elim
      · rw [hu, qa_ne (by decide), qa_eq, b2 e he]
        by_cases c : e = 0
        · rw [if_pos c]; rfl
        · rw [if_neg c]; rfl
      · obtain ⟨j, j1, -⟩ := hj
        omega
    obtain ⟨v, k1, k2⟩ := ck_nodes (N := N) x hN 64 0 N u (by omega) (by omega) ck0
    have hld : ∀ (k n m : Nat), n + k = 64 → k < m → q_lp (fX1_wrongThings_b104 L N) (fun _ _ => none) m (nI n) v = q_lp (fX1_wrongThings_b127 L N) (fun _ _ => none) N 0 v := by
      intro k
      induction k with
      | zero =>
        intro n m q1 q2
        have : n = 64 := by omega
        subst this
        rw [lp_1 _ _ (by omega), fX1_wrongThings_b104, if_pos (show (64 : Int32) ≤ nI 64 by decide)]
      | succ k ih =>
        intro n m q1 q2
        rw [lp_1 _ _ (by omega), fX1_wrongThings_b104, if_neg (show ¬ (64 : Int32) ≤ nI n from nI_ge (b := 64) (by omega) (by decide)), ck_held (N := N) x hN (by omega) k2, qb_s]
        unfold fX1_expect
        rw [if_neg (by decide), qb_s, qn_s, nI_1]
        exact ih (n + 1) (m - 1) (by omega) (by omega)
    obtain ⟨c1, c2, ⟨U, u1, u2⟩, -, -⟩ := id k2
    have xv := Xr_sc x c1
    have t3 := x.2.2.2.2.2.1
    have h17 := x.2.2.2.1.2.2.2.2.2.2.2
    have e29 : q_i v 29 = nI (144 + (Ls + 511) / 512) := (c1.1 29 (by decide)).trans x.2.1.1.gx.2.2.2.2.2.2.2.2.2.2.1
    have fin : ∀ (k z m : Nat), z + k = Ls → k < m → q_lp (fX1_wrongThings_b127 L N) (fun _ _ => none) m (nI z) v = some (0, v) := by
      intro k
      induction k with
      | zero =>
        intro z m q1 q2
        have : z = Ls := by omega
        subst this
        rw [lp_1 _ _ (by omega), fX1_wrongThings_b127, l17, if_pos (nI_le (by omega) (by omega)), c2]
      | succ k ih =>
        intro z m q1 q2
        have hz : z < Ls := by omega
        have rest : fX1_wrongThings_b197 L N (q_lp (fX1_wrongThings_b127 L N) (fun _ _ => none) (m - 1)) (nI z) 1 v = some (0, v) := by
          unfold fX1_wrongThings_b197 fX1_expect
          rw [if_neg (by decide), qb_s, qn_s, nI_1]
          exact ih (z + 1) (m - 1) (by omega) (by omega)
        rw [lp_1 _ _ (by omega), fX1_wrongThings_b127, l17, if_neg (nI_ge hz (by omega)), qr_n hz (by omega), u1 z hz, if_neg (show ¬ (1 : Int32) < b2i (U z) by cases U z <;> decide)]
        unfold fX1_wrongThings_b152 fX1_expect
        rw [if_neg (by decide), qb_s, x_isSet g gl xv.2.1 xv.2.2.1.1 hz, qb_s, e29, l17]
        unfold fX1_wrongThings_b184 fX1_wrongThings_b189
        by_cases cz : z < 144 + (Ls + 511) / 512
        · rw [if_pos (nI_lt cz (by omega)), t3.2.2.2 z (by omega)]
          exact rest
        · rw [if_neg (nI_nlt (by omega) (by omega)), qr_n hz (by omega), u1 z hz]
          cases hU : U z with
          | true =>
            have : A 17 z = 1 := by
              rcases (u2 z).mp hU with ⟨m', r, y1, y2, y3⟩ | ⟨r, y1, -⟩
              · have := (t3.2.1 m' r y1 y3).2.2
                rw [y2] at this
                exact this
              · exact y1.elim
            rw [this, if_neg (show ¬ b2i true ≤ 0 by decide)]
            exact rest
          | false =>
            have : A 17 z ≠ 1 := by
              intro y
              obtain ⟨m', r, y1, y2⟩ := t3.2.2.1 z (by omega) hz y
              rw [(u2 z).mpr (Or.inl ⟨m', r, y1, y2, by rw [y2]; omega⟩)] at hU
              cases hU
            rw [decide_eq_false this, if_pos (show b2i false ≤ 0 by decide)]
            exact rest
    refine ⟨0, v, um, ?_, rfl, c1, Fr.rf _ _ _ _⟩
    unfold fX1_wrongThings
    have k1 : q_lp (fX1_wrongThings_b31 L N) (fun _ _ => none) N 0 u = q_lp (fX1_wrongThings_b104 L N) (fun _ _ => none) N 0 v := k1
    have hld0 : q_lp (fX1_wrongThings_b104 L N) (fun _ _ => none) N 0 v = q_lp (fX1_wrongThings_b127 L N) (fun _ _ => none) N 0 v := hld 64 0 N (by omega) (by omega)
    have fin0 : q_lp (fX1_wrongThings_b127 L N) (fun _ _ => none) N 0 v = some (0, v) := fin Ls 0 N (by omega) (by omega)
    rw [qn_s, a1, qb_s, b1, qb_s, d1, qb_s, ← hu, k1, hld0, fin0, qb_s]
