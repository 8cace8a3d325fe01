/-! ===== PICK of the class ===== -/
theorem x_fill17 {B C W Ls : Nat} {L : Nat → Nat} {N : Nat} (gl : gL B C W Ls L) (hB : B ≤ 8) (hN : 300 ≤ N) (u : q_St) : ∃ f, fJ7_fill_17 L N 0 u = some ((), q_sa u 4 f) ∧ ∀ b, b < B → f b = nI 0 := by
  have key : ∀ k n b (f : Nat → Int32), b + k = B → k < n → (∀ j, j < b → f j = nI 0) → ∃ f2, q_lp (fJ7_fill_17_b5 L N) (fun _ _ _ _ => none) n 0 (nI b) (nI B) (q_sa u 4 f) = some ((), q_sa u 4 f2) ∧ ∀ j, j < B → f2 j = nI 0 := by
    intro k
    induction k with
    | zero =>
      intro n b f h1 h2 h3
      rw [lp_1 _ _ (by omega), fJ7_fill_17_b5, if_pos (nI_le (by omega) (by omega))]
      exact ⟨f, rfl, fun j hj => h3 j (by omega)⟩
    | succ k ih =>
      intro n b f h1 h2 h3
      rw [lp_1 _ _ (by omega), fJ7_fill_17_b5, if_neg (nI_ge (by omega) (by omega)), gl.2.2.2.2.2.1, qw_n (by omega) (by omega), qn_s, nI_1, cl_n (by omega), qa_eq, sa_sa]
      refine ih (n - 1) (b + 1) (upd f b 0) (by omega) (by omega) (fun j hj => ?_)
      by_cases c : j = b
      · rw [c, up_s]; rfl
      · rw [up_n c]; exact h3 j (by omega)
  unfold fJ7_fill_17
  rw [gl.2.2.2.2.2.1, qn_s]
  have := key B N 0 (q_a u 4) (by omega) (by omega) (fun j hj => absurd hj (Nat.not_lt_zero _))
  rw [sa_self] at this
  exact this
theorem x_choose {B C W Ls : Nat} {L : Nat → Nat} {N : Nat} (gl : gL B C W Ls L) (hB : B ≤ 8) {u : q_St} {F : Nat → Nat} (hF : ∀ b, b < B → q_a u 4 b = nI (F b)) (hF2 : ∀ b, F b ≤ 256) : ∀ k n b, b + k = B → 1 ≤ b → k < n → q_lp (fX8_pick_b116 L N) (fun _ _ _ => none) n (nI (xmx F b)) (nI b) u = some (1, q_si (q_si (q_si u 16 (nI (xmx F B))) 17 (q_i u 14)) 19 0) := by
  have xl : ∀ n, 1 ≤ n → xmx F n < n := by
    intro n
    induction n with
    | zero => intro h; omega
    | succ n ih =>
      intro h
      simp only [xmx]
      split
      · omega
      · rcases Nat.eq_zero_or_pos n with q | q
        · subst q; simp [xmx]
        · have := ih q; omega
  intro k
  induction k with
  | zero =>
    intro n b h1 h2 h3
    have : b = B := by omega
    subst this
    rw [lp_1 _ _ (by omega), fX8_pick_b116, gl.2.2.2.2.2.1, if_pos (nI_le (by omega) (by omega)), qn_s, qn_s, qn_s]
    rfl
  | succ k ih =>
    intro n b h1 h2 h3
    have hx := xl b h2
    have ihh := ih (n - 1) (b + 1) (by omega) (by omega) (by omega)
    have e2 : xmx F (b + 1) = if F (xmx F b) < F b then b else xmx F b := rfl
    rw [lp_1 _ _ (by omega), fX8_pick_b116, gl.2.2.2.2.2.1, if_neg (nI_ge (by omega) (by omega)), qr_n (by omega) (by omega), qr_n (by omega) (by omega), hF b (by omega), hF _ (by omega)]
    unfold fX8_pick_b142
    rw [qn_s, qn_s, nI_1]
    have f1 := hF2 b
    have f2 := hF2 (xmx F b)
    by_cases c : F (xmx F b) < F b
    · rw [if_neg (nI_ge c (by omega))]
      rw [e2, if_pos c] at ihh
      exact ihh
    · rw [if_pos (nI_le (by omega) (by omega))]
      rw [e2, if_neg c] at ihh
      exact ihh
theorem x_tally {B T S C W Ls h t : Nat} {L : Nat → Nat} {ux um : q_St} {N : Nat} (g : Geo B T S C W Ls) (gl : gL B C W Ls L) (gx : gX B T S C W Ls ux) (v : vW B C W Ls h t um) (r : vR B C W Ls ux um) : ∀ k n q (f : Nat → Int32) (F : Nat → Nat), q + k = h → k < n → (∀ b, b < B → f b = nI (F b)) → (∀ b, F b + k < 2 ^ 28) →
    ∃ f2, q_lp (fX8_pick_b25 L N) (fun _ _ => none) n (nI q) (q_sa ux 4 f) = q_lp (fX8_pick_b116 L N) (fun _ _ _ => none) N 0 1 (q_sa ux 4 f2) ∧ ∀ b, b < B → f2 b = nI (F b + cq (lvb C W um (some b)) k q) := by
  have hw := g.w
  have hl := g.l
  obtain ⟨a1, a2, a3, a4, a5, a6⟩ := id g
  have hh := v.2.2.2.2.1
  have e1 : q_i ux 14 = nI h := r.1.trans v.1
  intro k
  induction k with
  | zero =>
    intro n q f F h1 h2 h3 h4
    rw [lp_1 _ _ (by omega), fX8_pick_b25, qi_sa, e1, if_pos (nI_le (by omega) (by omega))]
    exact ⟨f, rfl, fun b hb => h3 b hb⟩
  | succ k ih =>
    intro n q f F h1 h2 h3 h4
    have hlv := x_isLive (N := N) (L := L) (ux := q_sa ux 4 f) g gl gx v r (q := q) (by omega)
    have ho := v.ho (by omega) hl.2 q
    have hm := Nat.mod_lt q (show 0 < C by omega)
    have hbd := g.band ho.1
    rw [lp_1 _ _ (by omega), fX8_pick_b25, qi_sa, e1, if_neg (nI_ge (by omega) (by omega)), qi_sa, gx.2.2.2.2.2.1, rem_n (by omega) (by omega) (by omega), qd_n (by omega) (by omega), qn_s, if_neg (nI_pos (by omega)), gl.2.2.2.1, if_neg (nI_ge (by omega) (by omega)), qr_n (by omega) (by omega), qa_ne (show (2 : Nat) ≠ 4 by decide), r.2.2.1 _ hm, ho.2, qi_sa, gx.2.2.2.1, qd_n (by omega) (by omega), pk_div (by omega) (by omega) (by omega)]
    unfold fX8_pick_b74
    rw [if_neg (nI_pos (by omega)), gl.2.2.2.2.2.1, if_neg (nI_ge hbd (by omega)), hlv, qb_s]
    unfold fX8_pick_b106
    cases hq : lvm C W um q with
    | false =>
      rw [b2i_f, if_pos rfl, qn_s, nI_1]
      obtain ⟨f2, g1, g2⟩ := ih (n - 1) (q + 1) f F (by omega) (by omega) h3 (fun b => by have := h4 b; omega)
      refine ⟨f2, g1, fun b hb => ?_⟩
      rw [g2 b hb]
      have : lvb C W um (some b) q = false := by simp [lvb, hq]
      simp [cq, this]
    | true =>
      rw [b2i_t, if_neg (by decide), qr_n hbd (by omega), qw_n hbd (by omega), qn_s, nI_1, cl_n (by omega), qa_eq, sa_sa, h3 _ hbd, nI_1]
      obtain ⟨f2, g1, g2⟩ := ih (n - 1) (q + 1) (upd f (hol C um q / W) (nI (F (hol C um q / W) + 1))) (fun b => if b = hol C um q / W then F b + 1 else F b) (by omega) (by omega) (fun b hb => by
        by_cases c : b = hol C um q / W
        · rw [c, up_s, if_pos rfl]
        · rw [up_n c, if_neg c]; exact h3 b hb) (fun b => by have := h4 b; split <;> omega)
      refine ⟨f2, g1, fun b hb => ?_⟩
      rw [g2 b hb]
      have hlb : lvb C W um (some b) q = decide (hol C um q / W = b) := by simp [lvb, hq]
      simp only [cq]
      rw [hlb]
      by_cases c : b = hol C um q / W
      · rw [if_pos c, if_pos (by simp [c]), Nat.add_assoc]
      · rw [if_neg c, if_neg (by simp; exact fun z => c z.symm), Nat.zero_add]
