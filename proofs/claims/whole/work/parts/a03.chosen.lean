/-! ===== which SECTORS are DIRTY, in order; the page that lists them ===== -/
/-- the i-th one below n -/
def sel (dd : Nat → Bool) : Nat → Nat → Nat
  | 0, _ => 0
  | n + 1, i => if dd n = true ∧ i = cnt dd n then n else sel dd n i
def enu (dd : Nat → Bool) (n : Nat) (c : Nat → Nat) : Prop := (∀ i, i < cnt dd n → c i < n ∧ dd (c i) = true) ∧ (∀ i j, i < j → j < cnt dd n → c i < c j) ∧ (∀ x, x < n → dd x = true → ∃ i, i < cnt dd n ∧ c i = x)
theorem sel_ok (dd : Nat → Bool) : ∀ n, enu dd n (sel dd n)
  | 0 => ⟨fun i h => by simp only [cnt] at h; omega, fun i j _ h => by simp only [cnt] at h; omega, fun x h => by omega⟩
  | n + 1 => by
    obtain ⟨h1, h2, h3⟩ := sel_ok dd n
    by_cases c : dd n = true
    · have e : cnt dd (n + 1) = cnt dd n + 1 := by simp only [cnt]; rw [if_pos c]
      have s1 : sel dd (n + 1) (cnt dd n) = n := if_pos ⟨c, rfl⟩
      have s2 : ∀ i, i < cnt dd n → sel dd (n + 1) i = sel dd n i := fun i hi => by simp only [sel]; rw [if_neg (by omega)]
      refine ⟨fun i hi => ?_, fun i j hij hj => ?_, fun x hx hd => ?_⟩
      · by_cases q : i = cnt dd n
        · rw [q, s1]; exact ⟨by omega, c⟩
        · rw [s2 i (by omega)]
          have := h1 i (by omega)
          exact ⟨by omega, this.2⟩
      · by_cases q : j = cnt dd n
        · rw [q, s1, s2 i (by omega)]
          exact (h1 i (by omega)).1
        · rw [s2 i (by omega), s2 j (by omega)]
          exact h2 i j hij (by omega)
      · by_cases q : x = n
        · exact ⟨cnt dd n, by omega, by rw [s1, q]⟩
        · obtain ⟨i, i1, i2⟩ := h3 x (by omega) hd
          exact ⟨i, by omega, by rw [s2 i i1]; exact i2⟩
    · have e : cnt dd (n + 1) = cnt dd n := by simp only [cnt]; rw [if_neg c]; rfl
      have s2 : ∀ i, sel dd (n + 1) i = sel dd n i := fun i => by simp only [sel]; rw [if_neg (fun z => c z.1)]
      refine ⟨fun i hi => ?_, fun i j hij hj => ?_, fun x hx hd => ?_⟩
      · rw [s2]
        have := h1 i (by omega)
        exact ⟨by omega, this.2⟩
      · rw [s2, s2]; exact h2 i j hij (by omega)
      · by_cases q : x = n
        · rw [q] at hd; exact absurd hd c
        · obtain ⟨i, i1, i2⟩ := h3 x (by omega) hd
          exact ⟨i, by omega, by rw [s2]; exact i2⟩
/-- what the class does behind choosing -/
def cjt (L : Nat → Nat) (N : Nat) (x2 : Int32) (u : q_St) : Option (Int32 × q_St) := (q_bnd (fX6_writeJournal L N x2 u) (fun r1 u2 => (if r1 = 0 then (some (0, u2)) else (q_nm (q_si u2 24 1) (fun u4 => (q_nm (q_si u4 23 ((q_i u4 23) + 1)) (fun u5 => (q_lp (fX6_commitOver_b96 L N) (fun _ _ _ => none) N x2 0 u5))))))))
theorem x_choose6 {L : Nat → Nat} {N Ls : Nat} {dd : Nat → Bool} (hl : Ls ≤ 2048) (l8 : L 8 = Ls) (l9 : L 9 = Ls) : ∀ (k x n : Nat) (u : q_St), x + k = Ls → k < n → (∀ y, y < Ls → q_a u 5 y = b2i (dd y)) → (∀ i, i < cnt dd x → q_a u 6 i = nI (sel dd x i)) → ∃ f, (∀ i, i < cnt dd Ls → f i = nI (sel dd Ls i)) ∧ q_lp (fX6_commitOver_b26 L N) (fun _ _ _ => none) n (nI (cnt dd x)) (nI x) u = cjt L N (nI (cnt dd Ls)) (q_sa u 6 f) := by
  intro k
  induction k with
  | zero =>
    intro x n u h1 h2 h3 h4
    have : x = Ls := by omega
    subst this
    refine ⟨q_a u 6, h4, ?_⟩
    rw [lp_1 _ _ (by omega), fX6_commitOver_b26, l8, if_pos (nI_le (by omega) (by omega)), sa_self]
    rfl
  | succ k ih =>
    intro x n u h1 h2 h3 h4
    have hc : cnt dd x ≤ x := cnt_le dd x
    rw [lp_1 _ _ (by omega), fX6_commitOver_b26, l8, if_neg (nI_ge (by omega) (by omega)), qr_n (by omega) (by omega), h3 x (by omega)]
    unfold fX6_commitOver_b63
    cases hd : dd x with
    | false =>
      have e : cnt dd (x + 1) = cnt dd x := by simp only [cnt]; rw [hd]; rfl
      have s2 : ∀ i, sel dd (x + 1) i = sel dd x i := fun i => by simp only [sel]; rw [if_neg (fun z => by rw [hd] at z; exact absurd z.1 (by decide))]
      rw [b2i_f, if_pos rfl, qn_s, nI_1]
      obtain ⟨f, f1, f2⟩ := ih (x + 1) (n - 1) u (by omega) (by omega) h3 (fun i hi => by rw [s2]; exact h4 i (by omega))
      exact ⟨f, f1, by rw [e] at f2; exact f2⟩
    | true =>
      have e : cnt dd (x + 1) = cnt dd x + 1 := by simp only [cnt]; rw [hd]; rfl
      have s1 : sel dd (x + 1) (cnt dd x) = x := if_pos ⟨hd, rfl⟩
      have s2 : ∀ i, i < cnt dd x → sel dd (x + 1) i = sel dd x i := fun i hi => by simp only [sel]; rw [if_neg (by omega)]
      rw [b2i_t, if_neg (by decide), l9, if_neg (nI_ge (show cnt dd x < Ls by omega) (by omega)), qw_n (by omega) (by omega), cl_n (by omega), qn_s, nI_1, qn_s, nI_1]
      obtain ⟨f, f1, f2⟩ := ih (x + 1) (n - 1) (q_sa u 6 (upd (q_a u 6) (cnt dd x) (nI x))) (by omega) (by omega) h3 (fun i hi => by
        rw [qa_eq]
        by_cases q : i = cnt dd x
        · rw [q, up_s, s1]
        · rw [up_n q, s2 i (by omega)]; exact h4 i (by omega))
      refine ⟨f, f1, ?_⟩
      rw [e, sa_sa] at f2
      exact f2
/-- the page is made empty -/
theorem x_blank {L : Nat → Nat} {N : Nat} (hN : 300 ≤ N) (l10 : L 10 = 8) (u : q_St) : ∃ f, fJ7_fillJ_22 L N 0 u = some ((), q_sj u 3 f) ∧ ∀ w, w < 8 → f w = 0 := by
  have key : ∀ (k w n : Nat) (u : q_St), w + k = 8 → k < n → ∃ f, q_lp (fJ7_fillJ_22_b6 L N) (fun _ _ _ _ => none) n 0 (nI w) (nI 8) u = some ((), q_sj u 3 f) ∧ (∀ j, w ≤ j → j < 8 → f j = 0) ∧ (∀ j, j < w → f j = q_j u 3 j) := by
    intro k
    induction k with
    | zero =>
      intro w n u h1 h2
      refine ⟨q_j u 3, ?_, fun j q1 q2 => by omega, fun _ _ => rfl⟩
      have e : q_sj u 3 (q_j u 3) = u := by
        unfold q_sj q_j
        refine Prod.ext rfl (Prod.ext rfl (funext fun j => ?_))
        show (if j = 3 then u.2.2 3 else u.2.2 j) = u.2.2 j
        split
        · rename_i e; rw [e]
        · rfl
      rw [e, lp_1 _ _ (by omega), fJ7_fillJ_22_b6, if_pos (nI_le (by omega) (by omega))]
    | succ k ih =>
      intro w n u h1 h2
      obtain ⟨f, f1, f2, f3⟩ := ih (w + 1) (n - 1) (q_sj u 3 (vp_updL (q_j u 3) w 0)) (by omega) (by omega)
      refine ⟨f, ?_, fun j q1 q2 => ?_, fun j q1 => ?_⟩
      · rw [lp_1 _ _ (by omega), fJ7_fillJ_22_b6, if_neg (nI_ge (by omega) (by omega)), l10, qw_n (by omega) (by omega), cl_n (by omega), qn_s, nI_1, f1, sj_sj]
      · by_cases c : j = w
        · rw [f3 j (by omega), qj_eq, c, upL_s]
        · exact f2 j (by omega) q2
      · rw [f3 j (by omega), qj_eq, upL_n (by omega)]
  obtain ⟨f, f1, f2, -⟩ := key 8 0 N u (by omega) (by omega)
  refine ⟨f, ?_, fun w hw => f2 w (Nat.zero_le _) hw⟩
  unfold fJ7_fillJ_22
  rw [l10, qn_s]
  exact f1
theorem hfN_or {r : Int64} {i n : Nat} (hi : i < 4) (hn : n < 65536) {j : Nat} (hj : j < 4) : hfN (r ||| q_lshl (Int32.toInt64 (nI n)) (nI (16 * i))) j = if j = i then hfN r i ||| n else hfN r j := by
  refine Nat.eq_of_testBit_eq fun b => ?_
  have hc : ∀ m, bt (Int32.toInt64 (nI n)) m = n.testBit m := fun m => by unfold bt; rw [uN_i2l (by omega)]
  have hbig : ∀ m, 16 ≤ m → n.testBit m = false := fun m hm => by
    have hp : 2 ^ 16 ≤ 2 ^ m := Nat.pow_le_pow_right (by decide) hm
    exact Nat.testBit_lt_two_pow (by omega)
  rw [hfN_bt]
  by_cases hb : b < 16
  · rw [bt_or, bt_lshl _ (by omega) (by omega), hc]
    by_cases c1 : j = i
    · rw [if_pos c1, Nat.testBit_or, hfN_bt, c1, show 16 * i + b - 16 * i = b by omega]
      have : 16 * i ≤ 16 * i + b := by omega
      simp [hb, this]
    · rw [if_neg c1, hfN_bt]
      by_cases c2 : 16 * i ≤ 16 * j + b
      · rw [hbig (16 * j + b - 16 * i) (by omega)]
        simp
      · simp [c2]
  · by_cases c1 : j = i
    · rw [if_pos c1, Nat.testBit_or, hfN_bt, hbig b (by omega)]
      simp [hb]
    · rw [if_neg c1, hfN_bt]
      simp [hb]
theorem x_listChosen {L : Nat → Nat} {N Ls : Nat} {c : Nat → Nat} {first d : Nat} (hN : 300 ≤ N) (hl : Ls ≤ 2048) (l9 : L 9 = Ls) (l10 : L 10 = 8) (hd : d ≤ Ls) (hf : first < 2 ^ 20) (u : q_St) (hc : ∀ i, i < d → q_a u 6 i = nI (c i) ∧ c i < Ls) :
    ∃ pg, fX6_listChosen L N (nI first) (nI d) u = some ((), q_sj u 3 pg) ∧ (∀ j, j < 24 → first + j < d → hfN (pg (j / 4)) (j % 4) = c (first + j)) ∧ uN (pg 6) = d := by
  have fin : ∀ (v : q_St), fX6_listChosen_b56 L N (nI d) v = some ((), q_sj v 3 (vp_updL (q_j v 3) 6 (Int32.toInt64 (nI d)))) := by
    intro v
    unfold fX6_listChosen_b56
    rw [l10, show (6 : Int32) = nI 6 from rfl, qw_n (by omega) (by omega), cl_n (by omega)]
  have key : ∀ (k i n : Nat) (v : q_St), i + k = 24 → k < n → q_a v 6 = q_a u 6 → (∀ j, j < i → first + j < d → hfN (q_j v 3 (j / 4)) (j % 4) = c (first + j)) → (∀ j, i ≤ j → j < 24 → hfN (q_j v 3 (j / 4)) (j % 4) = 0) →
      ∃ pg, q_lp (fX6_listChosen_b10 L N) (fun _ _ _ _ => none) n (nI first) (nI d) (nI i) v = some ((), q_sj v 3 pg) ∧ (∀ j, j < 24 → first + j < d → hfN (pg (j / 4)) (j % 4) = c (first + j)) ∧ uN (pg 6) = d := by
    intro k
    induction k with
    | zero =>
      intro i n v h1 h2 h3 h4 h5
      have : i = 24 := by omega
      subst this
      refine ⟨_, by rw [lp_1 _ _ (by omega), fX6_listChosen_b10, if_pos (by decide), fin], fun j hj hjd => ?_, by rw [upL_s, uN_i2l (by omega)]⟩
      rw [upL_n (by omega)]
      exact h4 j hj hjd
    | succ k ih =>
      intro i n v h1 h2 h3 h4 h5
      have hm := Nat.mod_lt i (show 0 < 4 by decide)
      rw [lp_1 _ _ (by omega), fX6_listChosen_b10, if_neg (show ¬ (24 : Int32) ≤ nI i from nI_ge (a := i) (b := 24) (by omega) (by omega)), nI_add]
      by_cases hq : first + i < d
      · obtain ⟨q1, q2⟩ := hc (first + i) hq
        rw [if_neg (nI_ge hq (by omega)), show nI i / (4 : Int32) = nI (i / 4) from pk_div (d := 4) (by omega) (by decide) (by decide), l10, qr_n (by omega) (by omega), l9, qr_n (by omega) (by omega), qw_n (by omega) (by omega), cl_n (by omega), h3, q1, show nI (i / 4) * (4 : Int32) = nI (i / 4 * 4) from pk_mul _ 4, pk_sub (by omega), show i - i / 4 * 4 = i % 4 by omega, show (16 : Int32) * nI (i % 4) = nI (16 * (i % 4)) from pk_mul 16 _, qn_s, nI_1]
        have hset : ∀ j, j < 24 → hfN (vp_updL (q_j v 3) (i / 4) (q_j v 3 (i / 4) ||| q_lshl (Int32.toInt64 (nI (c (first + i)))) (nI (16 * (i % 4)))) (j / 4)) (j % 4) = if j = i then hfN (q_j v 3 (i / 4)) (i % 4) ||| c (first + i) else hfN (q_j v 3 (j / 4)) (j % 4) := by
          intro j hj
          have hm2 := Nat.mod_lt j (show 0 < 4 by decide)
          by_cases e : j / 4 = i / 4
          · rw [e, upL_s, hfN_or hm (by omega) hm2]
            by_cases e2 : j = i
            · rw [if_pos (by rw [e2]), if_pos e2]
            · rw [if_neg (by omega), if_neg e2]
          · rw [upL_n e, if_neg (fun z => e (by rw [z]))]
        obtain ⟨pg, p1, p2⟩ := ih (i + 1) (n - 1) (q_sj v 3 (vp_updL (q_j v 3) (i / 4) (q_j v 3 (i / 4) ||| q_lshl (Int32.toInt64 (nI (c (first + i)))) (nI (16 * (i % 4)))))) (by omega) (by omega) h3
          (fun j hj hjd => by
            rw [qj_eq, hset j (by omega)]
            by_cases e : j = i
            · rw [if_pos e, h5 i (Nat.le_refl _) (by omega), e, Nat.zero_or]
            · rw [if_neg e]; exact h4 j (by omega) hjd)
          (fun j hj hj2 => by
            rw [qj_eq, hset j (by omega), if_neg (by omega)]
            exact h5 j (by omega) hj2)
        rw [sj_sj] at p1
        exact ⟨pg, p1, p2⟩
      · rw [if_pos (nI_le (by omega) (by omega)), fin]
        refine ⟨_, rfl, fun j hj hjd => ?_, by rw [upL_s, uN_i2l (by omega)]⟩
        rw [upL_n (by omega)]
        exact h4 j (by omega) hjd
  obtain ⟨f, f1, f2⟩ := x_blank (N := N) hN l10 u
  obtain ⟨pg, p1, p2⟩ := key 24 0 N (q_sj u 3 f) (by omega) (by omega) rfl (fun j hj => by omega) (fun j _ hj => by rw [qj_eq, f2 _ (by omega)]; unfold hfN; rw [uN_0, Nat.zero_shiftRight])
  refine ⟨pg, ?_, p2⟩
  unfold fX6_listChosen
  rw [f1, qb_s]
  rw [sj_sj] at p1
  exact p1
