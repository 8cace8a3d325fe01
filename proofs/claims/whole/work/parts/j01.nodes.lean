/-! ===== check: each NODE ===== -/
theorem ck_file {B T S C W Ls na hb n J : Nat} {um : q_St} {D K : Nat → Nat → Int64} {dd : Nat → Bool} {A : Nat → Nat → Nat} {nm : Nat → Int64} {L : Nat → Nat} {N : Nat} {ux u : q_St} (x : Xr B T S C W Ls na hb um D K dd A nm L ux) (hN : 3000 ≤ N) (hn : n < 64) (h1 : A 5 n = 1) (ck : CK W Ls A ux n (fun _ => False) J u) : ∃ v, fX1_useFile L N (nI n) u = some ((), v) ∧ CK W Ls A ux n (fun _ => True) J v := by
  have hl := x.1.1.l
  have hna := x.1.2.2
  have t3 := x.2.2.2.2.2.1
  obtain ⟨e30, hnaL⟩ := x.na30
  obtain ⟨m1, m2, m3⟩ := (x.2.2.1.2.1 n hn).2.2.2.1 h1
  have ft := FT_of (W := W) x.2.2.2.2.1 hn h1
  have h6 := (x.2.2.2.1.1 n hn).2.2.2.2.1
  have hp : ∀ q, q < 1068 → tl A W n q = A 9 (1068 * n + q) := fun q hq => tl_p h1 hq
  have hi : ∀ i, i < 34 → tl A W n (1068 + i) = A 10 (34 * n + i) := fun i hi => tl_i h1 hi
  have hz : ∀ r, 1102 ≤ r → tl A W n r = 0 := fun r hr => by
    unfold tl
    rw [if_pos h1, if_neg (by omega), if_neg (by omega)]
  obtain ⟨v7, hv7⟩ : ∃ q, q = (A 6 n + 63) / 64 := ⟨_, rfl⟩
  have hpb : ∀ q, q < 1068 → tl A W n q ≠ 0 → q < v7 := by
    intro q hq h0
    rcases Nat.lt_or_ge q v7 with c | c
    · exact c
    · exfalso
      apply h0
      rw [hp q hq]
      exact (x.2.2.2.2.1.2 n hn h1).1 q hq (by unfold szp; omega)
  have xu := Xr_sc x ck.1
  have eu30 : q_i u 30 = nI na := (ck.1.1 30 (by decide)).trans e30
  -- the first twelve
  obtain ⟨u2, c2, a1, a2, -, -⟩ := ck_told (N := N) (X := na + n) (off := 4) (cn := 12) (r0 := 0) (x4 := nI v7) (R := fun _ => False) x hn (by omega) (by omega) (by decide) (fun i hi => by rw [m1 i hi, Nat.zero_add, hp i (by omega)]) (fun i hi z => z) (fun i hi h0 => nI_ge (by rw [Nat.zero_add] at h0; exact hpb i (by omega) h0) (by omega)) 12 0 0 N u (by omega) (by omega) (by omega) (fun ⟨i', q, _⟩ => absurd q (Nat.not_lt_zero _)) (ck_ext ck (fun r hr => ⟨fun z => z.elim, fun z => by
    rcases z with z | z
    · exact z
    · omega⟩))
  have a1 : fX1_useTold L N (nI (na + n)) 4 12 (nI v7) u = some (nI c2, u2) := a1
  have a2 : CK W Ls A ux n (fun r => r < 12) J u2 := ck_ext a2 (fun r hr => ⟨fun z => by
    rcases z with z | z
    · exact z.elim
    · omega, fun z => Or.inr (by omega)⟩)
  have xu2 := Xr_sc x a2.1
  have e68 : sH (K (na + n)) 16 = tl A W n 1068 := by rw [m2]; exact (hi 0 (by decide)).symm
  have e69 : sH (K (na + n)) 17 = tl A W n 1069 := by rw [m3]; exact (hi 1 (by decide)).symm
  have h16 : fX6_half L N (nI (na + n)) 16 u2 = some (nI (tl A W n 1068), u2) := by
    have := Xs_half (N := N) x.1.1 x.1.2.1 xu2.2.1 (y := na + n) (i := 16) (by omega) (by omega) (by decide)
    rw [e68] at this
    exact this
  obtain ⟨u3, b1, b2⟩ := ck_index (N := N) (r0 := 12) (ri := 1068) (x4 := nI v7 - 12) x hN hn (fun h0 i hi' => by rw [(x.2.2.1.2.2 n 1068 hn h0).2.1 h1 rfl i hi', hp _ (by omega), Nat.add_assoc]) (fun i hi' z => by omega) (fun z => by omega) (by omega) (fun i hi' h0 => by
    have := hpb (12 + i) (by omega) h0
    rw [show nI v7 - (12 : Int32) = nI (v7 - 12) from pk_sub (b := 12) (by omega)]
    exact nI_ge (by omega) (by omega)) (fun i hi' h0 => by
    have := ft.1 (12 + i) (by omega) (by omega) h0
    unfold trl at this
    rw [if_pos (by omega)] at this
    exact this) (fun h0 => by
    obtain ⟨q, q1, q2, q3, q4⟩ := ft.2.1 1068 (Or.inl rfl) h0
    have : q < 44 := by
      unfold trl at q3
      by_cases c : q < 44
      · exact c
      · rw [if_neg c, if_pos q2] at q3; omega
    exact ⟨q - 12, by omega, by rw [show 12 + (q - 12) = q by omega]; exact q4⟩) a2
  have xu3 := Xr_sc x b2.1
  have h17 : fX6_half L N (nI (na + n)) 17 u3 = some (nI (tl A W n 1069), u3) := by
    have := Xs_half (N := N) x.1.1 x.1.2.1 xu3.2.1 (y := na + n) (i := 17) (by omega) (by omega) (by decide)
    rw [e69] at this
    exact this
  have head : fX1_useFile L N (nI n) u = if nI (tl A W n 1069) = 0 then some ((), u3) else q_bnd (fX1_use L N (nI (tl A W n 1069)) u3) (fun _ u21 => q_lp (fX1_useFile_b84 L N) (fun _ _ _ _ _ => none) N (nI v7) (nI (tl A W n 1069)) 0 0 u21) := by
    unfold fX1_useFile fX4_sectorOf
    rw [qb_s, eu30, nI_add, x_lengthOf xu hn (by omega), qb_s, if_pos (Or.inl h1), show nI (A 6 n) + (64 : Int32) = nI (A 6 n + 64) from nI_add _ 64, show nI (A 6 n + 64) - (1 : Int32) = nI (A 6 n + 64 - 1) from pk_sub (b := 1) (by omega), show nI (A 6 n + 64 - 1) / (64 : Int32) = nI ((A 6 n + 64 - 1) / 64) from pk_div (d := 64) (by omega) (by decide) (by decide), show (A 6 n + 64 - 1) / 64 = v7 by omega, qn_s, a1, qb_s, h16, qb_s, b1, qb_s, h17, qb_s]
  by_cases c0 : tl A W n 1069 = 0
  · refine ⟨u3, by rw [head, c0, if_pos (show nI 0 = (0 : Int32) from rfl)], ck_ext b2 (fun r hr => ⟨fun _ => trivial, fun _ => ?_⟩)⟩
    have nz : ∀ i, i < 32 → tl A W n (1070 + i) = 0 := fun i hi' => by
      by_cases z : tl A W n (1070 + i) = 0
      · exact z
      · exact absurd c0 (ft.2.2.1 i hi' z)
    by_cases q1 : r < 12
    · exact Or.inl q1
    · by_cases q2 : r < 44
      · exact Or.inr (Or.inr (by omega))
      · by_cases q3 : r < 1068
        · exfalso
          have := ft.1 r (by omega) q3 hr
          unfold trl at this
          rw [if_neg (by omega), if_pos q3] at this
          exact this (nz _ (by omega))
        · by_cases q4 : r = 1068
          · exact Or.inr (Or.inl q4)
          · by_cases q5 : r = 1069
            · rw [q5] at hr; exact absurd c0 hr
            · by_cases q6 : r < 1102
              · have := nz (r - 1070) (by omega)
                rw [show 1070 + (r - 1070) = r by omega] at this
                exact absurd this hr
              · exact absurd (hz r (by omega)) hr
  · have t69 := t3.2.1 n 1069 hn c0
    obtain ⟨u4, d1, d2⟩ := ck_use (N := N) x hn b2 c0 (fun z => by omega)
    obtain ⟨X, hX⟩ : ∃ X, X = tl A W n 1069 := ⟨_, rfl⟩
    have key : ∀ (k i m : Nat) (x5 : Int32) (u : q_St), i + k = 32 → k < m → (x5 = 0 ∨ x5 = 1) → ((∃ i', i' < i ∧ tl A W n (1070 + i') ≠ 0) → x5 = 1) → CK W Ls A ux n (fun r => r < 44 ∨ r = 1068 ∨ r = 1069 ∨ (1070 ≤ r ∧ r < 1070 + i) ∨ (44 ≤ r ∧ r < 44 + 32 * i)) J u → ∃ v, q_lp (fX1_useFile_b84 L N) (fun _ _ _ _ _ => none) m (nI v7) (nI X) x5 (nI i) u = some ((), v) ∧ CK W Ls A ux n (fun r => r < 44 ∨ r = 1068 ∨ r = 1069 ∨ (1070 ≤ r ∧ r < 1070 + 32) ∨ (44 ≤ r ∧ r < 44 + 32 * 32)) J v := by
      intro k
      induction k with
      | zero =>
        intro i m x5 u q1 q2 q3 q4 ck
        have : i = 32 := by omega
        subst this
        obtain ⟨i0', y1, y2⟩ := ft.2.2.2 c0
        have e5 := q4 ⟨i0', y1, y2⟩
        refine ⟨u, ?_, ck⟩
        rw [lp_1 _ _ (by omega), fX1_useFile_b84, if_pos (show (32 : Int32) ≤ nI 32 by decide), e5]
        unfold fX1_expect
        rw [if_neg (by decide), qb_s]
      | succ k ih =>
        intro i m x5 u q1 q2 q3 q4 ck
        have xu := Xr_sc x ck.1
        have hf : fX6_half L N (nI X) (nI i) u = some (nI (tl A W n (1070 + i)), u) := by
          rw [Xs_half x.1.1 x.1.2.1 xu.2.1 (by rw [hX]; exact t69.2.1) (by rw [hX]; exact c0) (by omega), hX, (x.2.2.1.2.2 n 1069 hn c0).2.2.1 h1 rfl i (by omega), show 1070 + i = 1068 + (2 + i) by omega, hi _ (by omega), Nat.add_assoc]
        obtain ⟨v, g1, g2⟩ := ck_index (N := N) (r0 := 44 + 32 * i) (ri := 1070 + i) (x4 := (nI v7 - 44) - (32 * nI i)) x hN hn (fun h0 j hj => by rw [(x.2.2.1.2.2 n (1070 + i) hn h0).2.2.2.1 h1 (by omega) j hj, show 1070 + i - 1070 = i by omega, hp _ (by omega), show 1068 * n + 44 + 32 * i + j = 1068 * n + (44 + 32 * i + j) by omega]) (fun j hj z => by omega) (fun z => by omega) (by omega) (fun j hj h0 => by
          have := hpb (44 + 32 * i + j) (by omega) h0
          rw [show nI v7 - (44 : Int32) = nI (v7 - 44) from pk_sub (b := 44) (by omega), show (32 : Int32) * nI i = nI (32 * i) from pk_mul 32 i, pk_sub (by omega)]
          exact nI_ge (by omega) (by omega)) (fun j hj h0 => by
          have := ft.1 (44 + 32 * i + j) (by omega) (by omega) h0
          unfold trl at this
          rw [if_neg (by omega), if_pos (by omega), show (44 + 32 * i + j - 44) / 32 = i by omega] at this
          exact this) (fun h0 => by
          obtain ⟨q, y1, y2, y3, y4⟩ := ft.2.1 (1070 + i) (Or.inr (by omega)) h0
          have hq : 44 ≤ q ∧ (q - 44) / 32 = i := by
            unfold trl at y3
            by_cases c : q < 44
            · rw [if_pos c] at y3; omega
            · rw [if_neg c, if_pos y2] at y3; omega
          exact ⟨q - (44 + 32 * i), by omega, by rw [show 44 + 32 * i + (q - (44 + 32 * i)) = q by omega]; exact y4⟩) ck
        have hlt : tl A W n (1070 + i) < 2048 := by
          by_cases z : tl A W n (1070 + i) = 0
          · omega
          · have := t3.2.1 n _ hn z; omega
        have fin : ∀ y0 : Int32, (y0 = 0 ∨ y0 = 1) → (y0 = 0 → x5 = 0 ∧ tl A W n (1070 + i) = 0) → ∃ v, fX1_useFile_b119 L N (q_lp (fX1_useFile_b84 L N) (fun _ _ _ _ _ => none) (m - 1)) (nI v7) (nI X) (nI i) (nI (tl A W n (1070 + i))) y0 u = some ((), v) ∧ CK W Ls A ux n (fun r => r < 44 ∨ r = 1068 ∨ r = 1069 ∨ (1070 ≤ r ∧ r < 1070 + 32) ∨ (44 ≤ r ∧ r < 44 + 32 * 32)) J v := by
          intro y0 w1 w2
          obtain ⟨v2, k1, k2⟩ := ih (i + 1) (m - 1) y0 v (by omega) (by omega) w1 (fun ⟨i', y1, y2⟩ => by
            rcases w1 with w | w
            · exfalso
              obtain ⟨z1, z2⟩ := w2 w
              by_cases c : i' = i
              · rw [c] at y2; exact y2 z2
              · have := q4 ⟨i', by omega, y2⟩
                rw [z1] at this
                exact absurd this (by decide)
            · exact w) (ck_ext g2 (fun r hr => ⟨fun z => by omega, fun z => by omega⟩))
          refine ⟨v2, ?_, k2⟩
          unfold fX1_useFile_b119
          rw [g1, qb_s, qn_s, nI_1]
          exact k1
        rw [lp_1 _ _ (by omega), fX1_useFile_b84, if_neg (show ¬ (32 : Int32) ≤ nI i from nI_ge (b := 32) (by omega) (by decide)), hf, qb_s]
        unfold fX1_useFile_b114
        by_cases e5 : x5 = 0
        · rw [if_pos e5]
          by_cases ez : tl A W n (1070 + i) = 0
          · rw [if_pos (by rw [ez]; rfl)]
            exact fin 0 (Or.inl rfl) (fun _ => ⟨e5, ez⟩)
          · rw [if_neg (nI_ne0 (by omega) (by omega))]
            exact fin 1 (Or.inr rfl) (fun z => absurd z (by decide))
        · rw [if_neg e5]
          exact fin 1 (Or.inr rfl) (fun z => absurd z (by decide))
    obtain ⟨v, k1, k2⟩ := key 32 0 N 0 u4 (by omega) (by omega) (Or.inl rfl) (fun ⟨i', q, _⟩ => absurd q (Nat.not_lt_zero _)) (ck_ext d2 (fun r hr => ⟨fun z => by omega, fun z => by omega⟩))
    refine ⟨v, ?_, ck_ext k2 (fun r hr => ⟨fun _ => trivial, fun _ => ?_⟩)⟩
    · rw [head, if_neg (nI_ne0 (by omega) (by omega)), d1, qb_s, ← hX]
      exact k1
    · by_cases q : r < 1102
      · omega
      · exact absurd (hz r (by omega)) hr
theorem ck_laid {B T S C W Ls na hb n J : Nat} {um : q_St} {D K : Nat → Nat → Int64} {dd : Nat → Bool} {A : Nat → Nat → Nat} {nm : Nat → Int64} {L : Nat → Nat} {N : Nat} {ux u : q_St} (x : Xr B T S C W Ls na hb um D K dd A nm L ux) (hN : 3000 ≤ N) (hn : n < 64) (h3 : A 5 n = 3) (ck : CK W Ls A ux n (fun _ => False) J u) : ∃ v, fX1_useLaid L N (nI n) u = some ((), v) ∧ CK W Ls A ux n (fun _ => True) J v := by
  have hl := x.1.1.l
  have hw := x.1.1.w
  have t3 := x.2.2.2.2.2.1
  have htl : ∀ i, i < W → tl A W n (1114 + i) = A 13 (12 * n) + i := fun i hi => tl_l h3 hi
  have h0 := (x.2.2.2.1.2.2.2.2.1 n hn h3).2.1
  have mn := (x.2.2.1.2.1 n hn).2.2.2.2.1 h3
  have xu := Xr_sc x ck.1
  have g4 : ∀ v, Fr [34, 35, 36, 37, 38, 39, 40] [7, 10, 11, 12, 13, 14] [4] ux v → q_i v 4 = nI W := fun v f => (f.1 4 (by decide)).trans x.2.1.1.gx.2.2.2.1
  have key : ∀ (k i m : Nat) (u : q_St), i + k = W → k < m → CK W Ls A ux n (fun r => 1114 ≤ r ∧ r < 1114 + i) J u → ∃ v, q_lp (fX1_useLaid_b19 L N) (fun _ _ _ => none) m (nI (A 13 (12 * n))) (nI i) u = some ((), v) ∧ CK W Ls A ux n (fun r => 1114 ≤ r ∧ r < 1114 + W) J v := by
    intro k
    induction k with
    | zero =>
      intro i m u q1 q2 ck
      have : i = W := by omega
      subst this
      exact ⟨u, by rw [lp_1 _ _ (by omega), fX1_useLaid_b19, g4 u ck.1, if_pos (nI_le (by omega) (by omega))], ck⟩
    | succ k ih =>
      intro i m u q1 q2 ck
      have ht := htl i (by omega)
      obtain ⟨v, b1, b2⟩ := ck_use (N := N) (r0 := 1114 + i) x hn ck (by rw [ht]; omega) (fun z => by omega)
      rw [ht] at b1
      obtain ⟨v2, k1, k2⟩ := ih (i + 1) (m - 1) v (by omega) (by omega) (ck_ext b2 (fun r hr => ⟨fun z => by omega, fun z => by omega⟩))
      refine ⟨v2, ?_, k2⟩
      rw [lp_1 _ _ (by omega), fX1_useLaid_b19, g4 u ck.1, if_neg (nI_ge (by omega) (by omega)), nI_add, b1, qb_s, qn_s, nI_1]
      exact k1
  obtain ⟨v, k1, k2⟩ := key W 0 N u (by omega) (by omega) (ck_ext ck (fun r hr => ⟨fun z => z.elim, fun z => by omega⟩))
  refine ⟨v, ?_, ck_ext k2 (fun r hr => ⟨fun _ => trivial, fun _ => ?_⟩)⟩
  · unfold fX1_useLaid
    rw [x_holderOf xu hn, qb_s, g4 u ck.1, pk_mul, mn, qn_s]
    exact k1
  · by_cases c : 1114 ≤ r ∧ r < 1114 + W
    · exact c
    · exfalso
      apply hr
      unfold tl
      rw [if_neg (by omega), if_neg (by omega), if_pos h3, if_neg (by omega)]
