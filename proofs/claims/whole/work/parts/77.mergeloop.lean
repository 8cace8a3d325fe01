/-! ===== MERGE of a track, in both ===== -/
theorem l_mergeL {B T S C W Ls h t b lim tr : Nat} {sm : Option Nat} {L : Nat → Nat} {N : Nat} (g : Geo B T S C W Ls) (gl : gL B C W Ls L) (hN : 300 ≤ N) (ht : tr < T) : ∀ (k i n m : Nat) (ux um : q_St), i + k = 8 → k < n → k < m → vU B T S C W Ls h t (some (b, lim, false, tr)) sm (8 * tr + i) ux um →
    (∃ vx vm, q_lp (fX8_merge_b2 L N) (fun _ _ => none) n (nI i) ux = some (0, vx) ∧ q_lp (fX11_step_b127 N) (fun _ _ _ _ => none) m 3 1 (nI i) um = some (-99, vm) ∧ vU B T S C W Ls h t (some (b, lim, false, tr)) sm (8 * tr) vx vm ∧ q_i vx 7 = 0 ∧ q_a vm 4 = q_a um 4 ∧ ∀ x w, x < Ls → w < 8 → dsk C W Ls t (some (b, lim, false, tr)) vx vm x w = dsk C W Ls t (some (b, lim, false, tr)) ux um x w) ∨
    (∃ vx vm, q_lp (fX8_merge_b2 L N) (fun _ _ => none) n (nI i) ux = some (1, vx) ∧ q_lp (fX11_step_b127 N) (fun _ _ _ _ => none) m 3 1 (nI i) um = some (3, vm) ∧ vU B T S C W Ls h t (some (b, lim, false, tr + 1)) sm (8 * (tr + 1)) vx vm ∧ q_i vx 7 = q_i ux 7 ∧ q_a vm 4 = q_a um 4 ∧ ∀ x w, x < Ls → w < 8 → dsk C W Ls t (some (b, lim, false, tr + 1)) vx vm x w = dsk C W Ls t (some (b, lim, false, tr)) ux um x w) := by
  have hw := g.w
  have hl := g.l
  obtain ⟨a1, a2, a3, a4, a5, a6⟩ := id g
  intro k
  induction k with
  | zero =>
    intro i n m ux um h1 h2 h3 v
    right
    obtain ⟨⟨gx, gm⟩, vw, vr, cr, lr, ⟨k1, ks⟩, vc, e1, e2, e3, e4⟩ := id v
    obtain ⟨k2, k3, k4, k5, k6, k7, k8, k9, k10⟩ := k1
    rw [if_pos ht] at k10
    have hi8 : i = 8 := by omega
    subst hi8
    rw [lp_1 _ _ (by omega), fX8_merge_b2, if_pos (by decide), qn_s, k8, nI_1, lp_1 _ _ (by omega), fX11_step_b127, if_pos (by decide)]
    unfold fX11_step_b153
    rw [if_neg (by decide)]
    unfold fX11_nextTrack
    rw [k10.2, nI_1, qn_s, qi_ne (by decide), gm.2.1, qi_eq]
    by_cases hT : T ≤ tr + 1
    · rw [if_pos (nI_le hT (by omega)), qn_s, qn_s, qb_s]
      unfold fX11_step_b248
      rw [if_neg (by decide)]
      refine ⟨_, _, rfl, rfl, ⟨⟨gx, gm⟩, vw, vr, cr, lr, ⟨⟨k2, k3, k4, k5, k6, k7, rfl, by omega, ?_⟩, ks⟩, ⟨vc.1, ?_⟩, e1, e2, ?_, e4⟩, rfl, rfl, fun _ _ _ _ => rfl⟩
      · rw [if_neg (by omega)]
        exact ⟨rfl, rfl⟩
      · intro b' lim' sf tr' he
        cases he
        have := vc.2 b lim false tr rfl
        exact ⟨this.1, this.2.1, fun j hj hp => this.2.2.1 j hj (by rcases hp with hp | hp; exact Or.inl hp; exact Or.inr (by omega)), fun h => absurd h (by decide)⟩
      · intro b' lim' sf tr' he
        cases he
        exact e3 b lim false tr rfl
    · rw [if_neg (nI_ge (by omega) (by omega)), qb_s]
      unfold fX11_step_b248
      rw [if_neg (by decide)]
      refine ⟨_, _, rfl, rfl, ⟨⟨gx, gm⟩, vw, vr, cr, lr, ⟨⟨k2, k3, k4, k5, k6, k7, rfl, by omega, ?_⟩, ks⟩, ⟨vc.1, ?_⟩, e1, e2, ?_, e4⟩, rfl, rfl, fun _ _ _ _ => rfl⟩
      · rw [if_pos (by omega)]
        exact ⟨k10.1, rfl⟩
      · intro b' lim' sf tr' he
        cases he
        have := vc.2 b lim false tr rfl
        exact ⟨this.1, this.2.1, fun j hj hp => this.2.2.1 j hj (by rcases hp with hp | hp; exact Or.inl hp; exact Or.inr (by omega)), fun h => absurd h (by decide)⟩
      · intro b' lim' sf tr' he
        cases he
        exact e3 b lim false tr rfl
  | succ k ih =>
    intro i n m ux um h1 h2 h3 v
    obtain ⟨⟨gx, gm⟩, vw, vr, cr, lr, ⟨k1, ks⟩, vc, e1, e2, e3, e4⟩ := id v
    obtain ⟨k2, k3, k4, k5, k6, k7, k8, k9, k10⟩ := k1
    rw [if_pos ht] at k10
    have hb : b < B := e3 b lim false tr rfl
    have hi0 : 8 * tr + i < W := by omega
    have hib := in_band hb hi0
    have hx0 : b * W + (8 * tr + i) < Ls := by rw [a6]; exact hib.1
    have hsp := x_spot (N := N) g gl v hx0 (fun hlv => vc.1 _ hx0 hlv (by rw [hib.2]; exact (vc.2 b lim false tr rfl).1.2))
    have hbW : b * W ≤ B * W := Nat.mul_le_mul_right _ (by omega)
    have h8 : ¬ (8 : Int32) ≤ nI i := nI_ge (a := i) (b := 8) (by omega) (by omega)
    rw [lp_1 _ _ (by omega), fX8_merge_b2, if_neg h8, k8, show (8 : Int32) * nI tr = nI (8 * tr) from pk_mul 8 _, nI_add, qn_s, k2, gx.2.2.2.1, pk_mul, nI_add, hsp, qb_s, gx.2.2.2.2.1, nI_add]
    rw [lp_1 (fX11_step_b127 N) _ (n := m) (by omega), fX11_step_b127, if_neg h8, if_neg (by decide), k10.2]
    rcases l_merge1 (N := N) g gl hN ht (by omega) v with ⟨vx, vm, f1, f2, f3, f4, f6, f5⟩ | ⟨vx, vm, f1, f2, f3, f4, f6, f5⟩
    · left
      rw [f1, f2, qb_s, qb_s, if_pos rfl, qn_s, nI_1]
      refine ⟨vx, vm, rfl, ?_, f3, f4, f6, f5⟩
      rw [lp_1 (fX11_step_b127 N) _ (n := m - 1) (by omega), fX11_step_b127, if_pos rfl]
      unfold fX11_step_b153 fX11_step_b248
      rw [if_pos rfl, if_pos rfl]
      split <;> rfl
    · rw [f1, f2, qb_s, qb_s, if_neg (by decide), qn_s, qn_s, nI_1]
      rcases ih (i + 1) (n - 1) (m - 1) vx vm (by omega) (by omega) (by omega) f3 with ⟨wx, wm, g1, g2, g3, g4, g6, g5⟩ | ⟨wx, wm, g1, g2, g3, g4, g6, g5⟩
      · exact Or.inl ⟨wx, wm, g1, g2, g3, g4, g6.trans f6, fun x w hx hw8 => (g5 x w hx hw8).trans (f5 x w hx hw8)⟩
      · exact Or.inr ⟨wx, wm, g1, g2, g3, g4.trans f4, g6.trans f6, fun x w hx hw8 => (g5 x w hx hw8).trans (f5 x w hx hw8)⟩
