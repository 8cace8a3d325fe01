/-! ===== check: DIRECTORIES, and all together ===== -/
theorem x_fill29 {L : Nat → Nat} {N M : Nat} (lM : L 17 = M) (hM : M ≤ 2048) (hN : 3000 ≤ N) (v : Int32) (u : q_St) : ∃ f, fJ7_fill_29 L N v u = some ((), q_sa u 12 f) ∧ ∀ b, b < M → f b = v := by
  have key : ∀ k n b (f : Nat → Int32), b + k = M → k < n → (∀ j, j < b → f j = v) → ∃ f2, q_lp (fJ7_fill_29_b5 L N) (fun _ _ _ _ => none) n v (nI b) (nI M) (q_sa u 12 f) = some ((), q_sa u 12 f2) ∧ ∀ j, j < M → f2 j = v := by
    intro k
    induction k with
    | zero =>
      intro n b f h1 h2 h3
      rw [lp_1 _ _ (by omega), fJ7_fill_29_b5, if_pos (nI_le (by omega) (by omega))]
      exact ⟨f, rfl, fun j hj => h3 j (by omega)⟩
    | succ k ih =>
      intro n b f h1 h2 h3
      rw [lp_1 _ _ (by omega), fJ7_fill_29_b5, if_neg (nI_ge (by omega) (by omega)), lM, qw_n (by omega) (by omega), qn_s, nI_1, cl_n (by omega), qa_eq, sa_sa]
      refine ih (n - 1) (b + 1) (upd f b v) (by omega) (by omega) (fun j hj => ?_)
      by_cases c : j = b
      · rw [c, up_s]
      · rw [up_n c]; exact h3 j (by omega)
  unfold fJ7_fill_29
  rw [lM, qn_s]
  have := key M N 0 (q_a u 12) (by omega) (by omega) (fun j hj => absurd hj (Nat.not_lt_zero _))
  rw [sa_self] at this
  exact this
theorem x_fill30 {L : Nat → Nat} {N M : Nat} (lM : L 18 = M) (hM : M ≤ 2048) (hN : 3000 ≤ N) (v : Int32) (u : q_St) : ∃ f, fJ7_fill_30 L N v u = some ((), q_sa u 13 f) ∧ ∀ b, b < M → f b = v := by
  have key : ∀ k n b (f : Nat → Int32), b + k = M → k < n → (∀ j, j < b → f j = v) → ∃ f2, q_lp (fJ7_fill_30_b5 L N) (fun _ _ _ _ => none) n v (nI b) (nI M) (q_sa u 13 f) = some ((), q_sa u 13 f2) ∧ ∀ j, j < M → f2 j = v := by
    intro k
    induction k with
    | zero =>
      intro n b f h1 h2 h3
      rw [lp_1 _ _ (by omega), fJ7_fill_30_b5, if_pos (nI_le (by omega) (by omega))]
      exact ⟨f, rfl, fun j hj => h3 j (by omega)⟩
    | succ k ih =>
      intro n b f h1 h2 h3
      rw [lp_1 _ _ (by omega), fJ7_fill_30_b5, if_neg (nI_ge (by omega) (by omega)), lM, qw_n (by omega) (by omega), qn_s, nI_1, cl_n (by omega), qa_eq, sa_sa]
      refine ih (n - 1) (b + 1) (upd f b v) (by omega) (by omega) (fun j hj => ?_)
      by_cases c : j = b
      · rw [c, up_s]
      · rw [up_n c]; exact h3 j (by omega)
  unfold fJ7_fill_30
  rw [lM, qn_s]
  have := key M N 0 (q_a u 13) (by omega) (by omega) (fun j hj => absurd hj (Nat.not_lt_zero _))
  rw [sa_self] at this
  exact this
theorem x_fill31 {L : Nat → Nat} {N M : Nat} (lM : L 19 = M) (hM : M ≤ 2048) (hN : 3000 ≤ N) (v : Int32) (u : q_St) : ∃ f, fJ7_fill_31 L N v u = some ((), q_sa u 14 f) ∧ ∀ b, b < M → f b = v := by
  have key : ∀ k n b (f : Nat → Int32), b + k = M → k < n → (∀ j, j < b → f j = v) → ∃ f2, q_lp (fJ7_fill_31_b5 L N) (fun _ _ _ _ => none) n v (nI b) (nI M) (q_sa u 14 f) = some ((), q_sa u 14 f2) ∧ ∀ j, j < M → f2 j = v := by
    intro k
    induction k with
    | zero =>
      intro n b f h1 h2 h3
      rw [lp_1 _ _ (by omega), fJ7_fill_31_b5, if_pos (nI_le (by omega) (by omega))]
      exact ⟨f, rfl, fun j hj => h3 j (by omega)⟩
    | succ k ih =>
      intro n b f h1 h2 h3
      rw [lp_1 _ _ (by omega), fJ7_fill_31_b5, if_neg (nI_ge (by omega) (by omega)), lM, qw_n (by omega) (by omega), qn_s, nI_1, cl_n (by omega), qa_eq, sa_sa]
      refine ih (n - 1) (b + 1) (upd f b v) (by omega) (by omega) (fun j hj => ?_)
      by_cases c : j = b
      · rw [c, up_s]
      · rw [up_n c]; exact h3 j (by omega)
  unfold fJ7_fill_31
  rw [lM, qn_s]
  have := key M N 0 (q_a u 14) (by omega) (by omega) (fun j hj => absurd hj (Nat.not_lt_zero _))
  rw [sa_self] at this
  exact this
theorem ck_slot {B T S C W Ls na hb n J : Nat} {um : q_St} {D K : Nat → Nat → Int64} {dd : Nat → Bool} {A : Nat → Nat → Nat} {nm : Nat → Int64} {L : Nat → Nat} {N : Nat} {ux u : q_St} {R : Nat → Prop} (x : Xr B T S C W Ls na hb um D K dd A nm L ux) (hJ : J < 3072) (hn : n = J / 48) (h0 : A 14 J ≠ 0) (c : CK W Ls A ux n R J u) : ∃ v, fX1_useSlot L N (nI n) (nI (A 14 J)) u = some ((), v) ∧ CK W Ls A ux n R (J + 1) v := by
  obtain ⟨c1, c2, c3, c4, c5⟩ := c
  have gl := x.1.2.1
  have l18 : L 18 = 64 := gl.2.2.2.2.2.2.2.2.2.2.2.2.2.2.2.2.2.2.1
  have l19 : L 19 = 64 := gl.2.2.2.2.2.2.2.2.2.2.2.2.2.2.2.2.2.2.2
  obtain ⟨q1, q2, q3, q4, q5, q6⟩ := x.2.2.2.2.2.2.1 J hJ h0
  obtain ⟨e, he⟩ : ∃ e, e = A 14 J := ⟨_, rfl⟩
  rw [← he] at q3 q4 q6 h0 ⊢
  have hcl := cnt_le (fun j => decide (A 14 j = e)) J
  have hc : q_a u 13 e = nI (cnt (fun j => decide (A 14 j = e)) J) := by rw [c4 e q3, if_neg h0]
  obtain ⟨u1, hu1⟩ : ∃ q, q = q_sa u 13 (upd (q_a u 13) e (nI (cnt (fun j => decide (A 14 j = e)) J + 1))) := ⟨_, rfl⟩
  have f1 : Fr [34, 35, 36, 37, 38, 39, 40] [7, 10, 11, 12, 13, 14] [4] u u1 := by rw [hu1]; exact fr_sa1 _ (by decide)
  obtain ⟨u2, hu2⟩ : ∃ q, q = q_sa u1 14 (upd (q_a u1 14) e (nI n)) := ⟨_, rfl⟩
  have f2 : Fr [34, 35, 36, 37, 38, 39, 40] [7, 10, 11, 12, 13, 14] [4] u1 u2 := by rw [hu2]; exact fr_sa1 _ (by decide)
  have r12 : q_a u2 12 = q_a u 12 := by rw [hu2, qa_ne (by decide), hu1, qa_ne (by decide)]
  have r13 : q_a u2 13 = upd (q_a u 13) e (nI (cnt (fun j => decide (A 14 j = e)) J + 1)) := by rw [hu2, qa_ne (by decide), hu1, qa_eq]
  have r14 : q_a u2 14 = upd (q_a u 14) e (nI n) := by rw [hu2, qa_eq, hu1, qa_ne (by decide)]
  refine ⟨u2, ?_, (c1.trans f1).trans f2, by rw [hu2, hu1]; exact c2, ?_, fun d hd => ?_, fun d hd hk hj => ?_⟩
  · unfold fX1_useSlot
    rw [if_neg (nI_pos (by omega)), l18, l19, if_neg (nI_ge (by omega) (by decide)), if_pos (nI_lt (by omega) (by decide)), qr_n q3 (by decide), hc, nI_1, qw_n q3 (by decide), cl_n (by omega), ← hu1, qw_n q3 (by decide), ← hu2]
  · rw [r12]; exact c3
  · rw [r13]
    have e1 : cnt (fun j => decide (A 14 j = d)) (J + 1) = cnt (fun j => decide (A 14 j = d)) J + (if decide (A 14 J = d) = true then 1 else 0) := rfl
    by_cases cd : d = e
    · rw [cd, up_s, if_neg h0]
      rw [cd] at e1
      rw [e1, decide_eq_true he.symm, if_pos rfl]
    · rw [up_n cd, c4 d hd, e1, decide_eq_false (fun z => cd (by rw [he]; exact z.symm))]
      rfl
  · rw [r14]
    by_cases cd : d = e
    · rw [cd, up_s, hn, ← q6 (by rw [← cd]; exact hk)]
    · rw [up_n cd]
      obtain ⟨j, j1, j2, j3⟩ := hj
      refine c5 d hd hk ⟨j, ?_, j2, j3⟩
      rcases Nat.lt_or_ge j J with q | q
      · exact q
      · have : j = J := by omega
        rw [this] at j2
        exact absurd (j2.symm.trans he.symm) cd
theorem ck_dir {B T S C W Ls na hb n : Nat} {um : q_St} {D K : Nat → Nat → Int64} {dd : Nat → Bool} {A : Nat → Nat → Nat} {nm : Nat → Int64} {L : Nat → Nat} {N : Nat} {ux u : q_St} (x : Xr B T S C W Ls na hb um D K dd A nm L ux) (hN : 3000 ≤ N) (hn : n < 64) (h2 : A 5 n = 2) (ck : CK W Ls A ux n (fun _ => False) (48 * n) u) : ∃ v, fX1_useDirectory L N (nI n) u = some ((), v) ∧ CK W Ls A ux n (fun _ => True) (48 * (n + 1)) v := by
  have hl := x.1.1.l
  have hna := x.1.2.2
  have t3 := x.2.2.2.2.2.1
  have t4 := x.2.2.2.2.2.2.1
  obtain ⟨e30, hnaL⟩ := x.na30
  have m1 := ((x.2.2.1.2.1 n hn).2.2.1 h2).1
  have htl : ∀ i, i < 12 → tl A W n (1102 + i) = if i < A 8 n then A 13 (12 * n + i) else 0 := by
    intro i hi
    unfold tl
    rw [if_neg (by omega), if_pos h2, show 1102 + i - 1102 = i by omega]
    by_cases c : i < A 8 n
    · rw [if_pos ⟨by omega, c⟩, if_pos c]
    · rw [if_neg (fun z => c z.2), if_neg c]
  have h8 := x.t8 hn
  have h13 := (x.2.2.2.1.2.2.1 n hn h2).2.2
  have key : ∀ (k i m : Nat) (u : q_St), i + k = 12 → k < m → CK W Ls A ux n (fun r => 1102 ≤ r ∧ r < 1102 + i) (48 * n + 4 * i) u → ∃ v, q_lp (fX1_useDirectory_b2 L N) (fun _ _ _ => none) m (nI n) (nI i) u = some ((), v) ∧ CK W Ls A ux n (fun r => 1102 ≤ r ∧ r < 1114) (48 * (n + 1)) v := by
    intro k
    induction k with
    | zero =>
      intro i m u q1 q2 ck
      have : i = 12 := by omega
      subst this
      rw [show 48 * n + 4 * 12 = 48 * (n + 1) by omega] at ck
      exact ⟨u, by rw [lp_1 _ _ (by omega), fX1_useDirectory_b2, if_pos (show (12 : Int32) ≤ nI 12 by decide)], ck⟩
    | succ k ih =>
      intro i m u q1 q2 ck
      have xu := Xr_sc x ck.1
      have eu30 : q_i u 30 = nI na := (ck.1.1 30 (by decide)).trans e30
      have hf : fX6_half L N (nI (na + n)) (nI (4 + i)) u = some (nI (tl A W n (1102 + i)), u) := by rw [Xs_half x.1.1 x.1.2.1 xu.2.1 (by omega) (by omega) (by omega), m1 i (by omega), htl i (by omega)]
      have st : q_lp (fX1_useDirectory_b2 L N) (fun _ _ _ => none) m (nI n) (nI i) u = if nI (tl A W n (1102 + i)) = 0 then q_lp (fX1_useDirectory_b2 L N) (fun _ _ _ => none) (m - 1) (nI n) (nI (i + 1)) u else q_bnd (fX1_use L N (nI (tl A W n (1102 + i))) u) (fun _ u8 => q_lp (fX1_useDirectory_b42 L N (q_lp (fX1_useDirectory_b2 L N) (fun _ _ _ => none) (m - 1))) (fun _ _ _ _ _ => none) N (nI n) (nI i) (nI (tl A W n (1102 + i))) 0 u8) := by
        rw [lp_1 _ _ (by omega), fX1_useDirectory_b2, if_neg (show ¬ (12 : Int32) ≤ nI i from nI_ge (b := 12) (by omega) (by decide))]
        unfold fX4_sectorOf fX1_useDirectory_b87
        rw [qb_s, eu30, nI_add, show (4 : Int32) + nI i = nI (4 + i) from nI_add 4 i, hf, qb_s, qn_s, nI_1]
      by_cases c0 : tl A W n (1102 + i) = 0
      · have c8 : A 8 n ≤ i := by
          rw [htl i (by omega)] at c0
          by_cases c : i < A 8 n
          · rw [if_pos c] at c0; exact absurd c0 (h13 i c)
          · omega
        have ck2 := ck_J (J2 := 48 * n + 4 * (i + 1)) ck (by omega) (fun j j1 j2 => by
          by_cases z : A 14 j = 0
          · exact z
          · exfalso
            have := (t4 j (by omega) z).2.1
            rw [show j / 48 = n by omega] at this
            omega)
        obtain ⟨v, k1, k2⟩ := ih (i + 1) (m - 1) u (by omega) (by omega) (ck_ext ck2 (fun r hr => ⟨fun z => by omega, fun z => by
          by_cases c : r = 1102 + i
          · rw [c] at hr; exact absurd c0 hr
          · omega⟩))
        exact ⟨v, by rw [st, c0, if_pos (show nI 0 = (0 : Int32) from rfl)]; exact k1, k2⟩
      · have ht := t3.2.1 n (1102 + i) hn c0
        obtain ⟨u2, b1, b2⟩ := ck_use (N := N) x hn ck c0 (fun z => by omega)
        obtain ⟨X, hX⟩ : ∃ X, X = tl A W n (1102 + i) := ⟨_, rfl⟩
        have mr := (x.2.2.1.2.2 n (1102 + i) hn c0).2.2.2.2 h2
        rw [← hX, show 1102 + i - 1102 = i by omega] at mr
        have inner : ∀ (k s m2 : Nat) (u : q_St), s + k = 4 → k < m2 → CK W Ls A ux n (fun r => (1102 ≤ r ∧ r < 1102 + i) ∨ r = 1102 + i) (48 * n + 4 * i + s) u → ∃ v, q_lp (fX1_useDirectory_b42 L N (q_lp (fX1_useDirectory_b2 L N) (fun _ _ _ => none) (m - 1))) (fun _ _ _ _ _ => none) m2 (nI n) (nI i) (nI X) (nI s) u = q_lp (fX1_useDirectory_b2 L N) (fun _ _ _ => none) (m - 1) (nI n) (nI (i + 1)) v ∧ CK W Ls A ux n (fun r => (1102 ≤ r ∧ r < 1102 + i) ∨ r = 1102 + i) (48 * n + 4 * i + 4) v := by
          intro k
          induction k with
          | zero =>
            intro s m2 u w1 w2 ck
            have : s = 4 := by omega
            subst this
            refine ⟨u, ?_, ck⟩
            rw [lp_1 _ _ (by omega), fX1_useDirectory_b42, if_pos (show (4 : Int32) ≤ nI 4 by decide)]
            unfold fX1_useDirectory_b87
            rw [qn_s, nI_1]
          | succ k ih2 =>
            intro s m2 u w1 w2 ck
            have xu := Xr_sc x ck.1
            have hw := x_word (N := N) (w := s) x.1.1 x.1.2.1 xu.2.1 (x := X) (by rw [hX]; exact ht.2.1) (by omega)
            have hms := mr s (by omega)
            by_cases cz : A 14 (48 * n + 4 * i + s) = 0
            · obtain ⟨v, k1, k2⟩ := ih2 (s + 1) (m2 - 1) u (by omega) (by omega) (ck_J ck (by omega) (fun j j1 j2 => by rw [show j = 48 * n + 4 * i + s by omega]; exact cz))
              refine ⟨v, ?_, k2⟩
              rw [lp_1 _ _ (by omega), fX1_useDirectory_b42, if_neg (show ¬ (4 : Int32) ≤ nI s from nI_ge (b := 4) (by omega) (by decide)), hw, qb_s, if_pos ((lg_cmp_eq _ 0).mpr (hms.1 cz))]
              unfold fX1_useDirectory_b81
              rw [qn_s, nI_1]
              exact k1
            · obtain ⟨z1, z2⟩ := hms.2 cz
              have okn := (t4 _ (by omega) cz).2.2.2.2.1.1
              obtain ⟨v1, d1, d2⟩ := ck_slot (N := N) x (J := 48 * n + 4 * i + s) (by omega) (by omega) cz ck
              obtain ⟨v, k1, k2⟩ := ih2 (s + 1) (m2 - 1) v1 (by omega) (by omega) d2
              refine ⟨v, ?_, k2⟩
              rw [lp_1 _ _ (by omega), fX1_useDirectory_b42, if_neg (show ¬ (4 : Int32) ≤ nI s from nI_ge (b := 4) (by omega) (by decide)), hw, qb_s, if_neg (fun z => okn (z1.symm.trans ((lg_cmp_eq _ 0).mp z))), show (16 : Int32) + nI s = nI (16 + s) from nI_add 16 s, Xs_half x.1.1 x.1.2.1 xu.2.1 (by rw [hX]; exact ht.2.1) (by rw [hX]; exact c0) (by omega), qb_s, z2, d1, qb_s]
              unfold fX1_useDirectory_b81
              rw [qn_s, nI_1]
              exact k1
        obtain ⟨v1, g1, g2⟩ := inner 4 0 N u2 (by omega) (by omega) b2
        obtain ⟨v, k1, k2⟩ := ih (i + 1) (m - 1) v1 (by omega) (by omega) (ck_ext g2 (fun r hr => ⟨fun z => by omega, fun z => by omega⟩))
        refine ⟨v, ?_, k2⟩
        rw [st, if_neg (nI_ne0 (by omega) (by omega)), b1, qb_s, ← hX]
        exact g1.trans k1
  obtain ⟨v, k1, k2⟩ := key 12 0 N u (by omega) (by omega) (ck_ext ck (fun r hr => ⟨fun z => z.elim, fun z => by omega⟩))
  refine ⟨v, ?_, ck_ext k2 (fun r hr => ⟨fun _ => trivial, fun _ => ?_⟩)⟩
  · unfold fX1_useDirectory
    exact k1
  · by_cases c : 1102 ≤ r ∧ r < 1114
    · exact c
    · exfalso
      apply hr
      unfold tl
      rw [if_neg (by omega), if_pos h2, if_neg (by omega)]
theorem ck_step {W Ls n J : Nat} {A : Nat → Nat → Nat} {ux u : q_St} (c : CK W Ls A ux n (fun _ => True) J u) : CK W Ls A ux (n + 1) (fun _ => False) J u := by
  obtain ⟨c1, c2, ⟨U, u1, u2⟩, c4, c5⟩ := c
  refine ⟨c1, c2, ⟨U, u1, fun x => ?_⟩, c4, c5⟩
  rw [u2 x]
  constructor
  · rintro (⟨m, r, q1, q2, q3⟩ | ⟨r, q1, q2, q3⟩)
    · exact Or.inl ⟨m, r, by omega, q2, q3⟩
    · exact Or.inl ⟨n, r, by omega, q2, q3⟩
  · rintro (⟨m, r, q1, q2, q3⟩ | ⟨r, q1, q2, q3⟩)
    · by_cases c : m = n
      · rw [c] at q2 q3
        exact Or.inr ⟨r, trivial, q2, q3⟩
      · exact Or.inl ⟨m, r, by omega, q2, q3⟩
    · exact q1.elim
