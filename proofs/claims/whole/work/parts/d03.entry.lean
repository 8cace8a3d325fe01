/-! ===== entry, name ===== -/
def usd (A : Nat → Nat → Nat) (d j : Nat) : Bool := decide (j < 4 * A 8 d) && decide (A 14 (48 * d + j) ≠ 0)
theorem usd_t {A : Nat → Nat → Nat} {d j : Nat} (h : usd A d j = true) : j < 4 * A 8 d ∧ A 14 (48 * d + j) ≠ 0 := by
  unfold usd at h
  simp only [Bool.and_eq_true, decide_eq_true_eq] at h
  exact h
/-- how many NAMES are ahead of that in a SLOT -/
def ahd (A : Nat → Nat → Nat) (nm : Nat → Int64) (d s : Nat) : Nat := cnt (fun j => usd A d j && decide (kN (nm (48 * d + j)) 8 < kN (nm (48 * d + s)) 8)) 48
theorem ahd_le (A : Nat → Nat → Nat) (nm : Nat → Int64) (d s : Nat) : ahd A nm d s ≤ 48 := cnt_le _ _
theorem x_slotInOrder {B T S C W Ls na hb : Nat} {um : q_St} {D K : Nat → Nat → Int64} {dd : Nat → Bool} {A : Nat → Nat → Nat} {nm : Nat → Int64} {L : Nat → Nat} {N : Nat} {ux : q_St} (x : Xr B T S C W Ls na hb um D K dd A nm L ux) (hN : 300 ≤ N) {d : Nat} (hd : d < 64) (hk : A 5 d = 2) (o : Int32) : ∃ vx, fX3_slotInOrder L N (nI d) o ux = some (slX 48 (fnd (fun s => usd A d s && decide (nI (ahd A nm d s) = o)) 48 0), vx) ∧ Fr [34, 35, 36, 37, 38, 39, 40] [7, 10, 11, 12, 13, 14] [4] ux vx := by
  obtain ⟨⟨g, gl, hna⟩, -⟩ := id x
  have h8 := x.t8 hd
  have l11 : L 11 = 48 := gl.2.2.2.2.2.2.2.2.2.2.2.1
  have l12 : L 12 = 48 := gl.2.2.2.2.2.2.2.2.2.2.2.2.1
  have hok : ∀ j, j < 48 → usd A d j = true → okN (nm (48 * d + j)) := fun j hj hu => (x.2.2.2.2.2.2.1 (48 * d + j) (by omega) (usd_t hu).2).2.2.2.2.1
  have ph1 : ∀ (k j n : Nat) (u : q_St), j + k = 48 → k < n → Fr [34, 35, 36, 37, 38, 39, 40] [7, 10, 11, 12, 13, 14] [4] ux u → (∀ i, i < cnt (usd A d) j → q_a u 7 i = nI (sel (usd A d) j i) ∧ q_j u 4 i = okI (nm (48 * d + sel (usd A d) j i)) 8) → ∃ v, Fr [34, 35, 36, 37, 38, 39, 40] [7, 10, 11, 12, 13, 14] [4] ux v ∧ (∀ i, i < cnt (usd A d) 48 → q_a v 7 i = nI (sel (usd A d) 48 i) ∧ q_j v 4 i = okI (nm (48 * d + sel (usd A d) 48 i)) 8) ∧ q_lp (fX3_slotInOrder_b5 L N) (fun _ _ _ _ _ => none) n (nI d) o (nI (cnt (usd A d) j)) (nI j) u = fX3_slotInOrder_b69 L N o (nI (cnt (usd A d) 48)) v := by
    intro k
    induction k with
    | zero =>
      intro j n u h1 h2 h3 h4
      have : j = 48 := by omega
      subst this
      exact ⟨u, h3, h4, by rw [lp_1 _ _ (by omega), fX3_slotInOrder_b5, l11, if_pos (nI_le (by omega) (by omega))]⟩
    | succ k ih =>
      intro j n u h1 h2 h3 h4
      have xu := Xr_sc x h3
      have hcj := cnt_le (usd A d) j
      have e1 : cnt (usd A d) (j + 1) = cnt (usd A d) j + (if usd A d j = true then 1 else 0) := rfl
      rw [lp_1 _ _ (by omega), fX3_slotInOrder_b5, l11, l12, if_neg (nI_ge (by omega) (by omega)), if_neg (nI_ge (by omega) (by omega)), x_nameAt xu hd hk (by omega), qb_s]
      unfold fX3_slotInOrder_b63
      by_cases c : usd A d j = true
      · have hk0 := (hok j (by omega) c).1
        rw [if_pos (usd_t c), if_neg (fun z => hk0 ((lg_cmp_eq _ _).mp z)), x_orderKey hN, qb_s, qw_n (by omega) (by omega), qw_n (by omega) (by omega), cl_n (by omega), qn_s, nI_1, qn_s, nI_1]
        rw [if_pos c] at e1
        rw [← e1]
        refine ih (j + 1) (n - 1) _ (by omega) (by omega) (h3.trans ((fr_sj1 _ (by decide)).trans (fr_sa1 _ (by decide)))) (fun i hi => ?_)
        rw [qa_eq, qj_sa, qj_eq, qa_sj]
        simp only [sel]
        by_cases ci : i = cnt (usd A d) j
        · rw [ci, up_s, upL_s, if_pos ⟨c, rfl⟩]
          exact ⟨rfl, rfl⟩
        · rw [up_n ci, upL_n ci, if_neg (fun z => ci z.2)]
          exact h4 i (by omega)
      · rw [show (if j < 4 * A 8 d ∧ A 14 (48 * d + j) ≠ 0 then nm (48 * d + j) else 0) = 0 from if_neg (fun z => c (by unfold usd; simp only [Bool.and_eq_true, decide_eq_true_eq]; exact z)), if_pos ((lg_cmp_eq 0 0).mpr rfl), qn_s, nI_1]
        have e1 : cnt (usd A d) (j + 1) = cnt (usd A d) j := by rw [e1, if_neg c]; rfl
        rw [← e1]
        refine ih (j + 1) (n - 1) u (by omega) (by omega) h3 (fun i hi => ?_)
        simp only [sel]
        rw [if_neg (fun z => c z.1)]
        exact h4 i (by omega)
  obtain ⟨v, v1, v2, v3⟩ := ph1 48 0 N ux (by omega) (by omega) (Fr.rf _ _ _ _) (fun i hi => absurd hi (Nat.not_lt_zero _))
  obtain ⟨m, hm⟩ : ∃ q, q = cnt (usd A d) 48 := ⟨_, rfl⟩
  have hm48 : m ≤ 48 := by rw [hm]; exact cnt_le _ _
  rw [← hm] at v2 v3
  have so := (sel_ok (usd A d) 48).1
  rw [← hm] at so
  refine ⟨v, ?_, v1⟩
  have inner : ∀ (ih72 : Int32 → Int32 → Int32 → q_St → Option (Int32 × q_St)) (i : Nat), i < m → ∀ (k j n acc : Nat), j + k = m → k < n → acc ≤ j → q_lp (fX3_slotInOrder_b84 L N ih72) (fun _ _ _ _ _ _ => none) n o (nI m) (nI i) (nI acc) (nI j) v = if nI (acc + cq (fun j => decide (kN (nm (48 * d + sel (usd A d) 48 j)) 8 < kN (nm (48 * d + sel (usd A d) 48 i)) 8)) k j) = o then some (nI (sel (usd A d) 48 i), v) else ih72 o (nI m) (nI (i + 1)) v := by
    intro ih72 i hi k
    induction k with
    | zero =>
      intro j n acc h1 h2 h3
      have e1 : acc + cq (fun j => decide (kN (nm (48 * d + sel (usd A d) 48 j)) 8 < kN (nm (48 * d + sel (usd A d) 48 i)) 8)) 0 j = acc := rfl
      rw [lp_1 _ _ (by omega), fX3_slotInOrder_b84, if_pos (nI_le (by omega) (by omega)), e1, l12, qr_n (by omega) (by omega), (v2 i hi).1, qn_s, nI_1]
    | succ k ih =>
      intro j n acc h1 h2 h3
      have e1 : cq (fun j => decide (kN (nm (48 * d + sel (usd A d) 48 j)) 8 < kN (nm (48 * d + sel (usd A d) 48 i)) 8)) (k + 1) j = (if decide (kN (nm (48 * d + sel (usd A d) 48 j)) 8 < kN (nm (48 * d + sel (usd A d) 48 i)) 8) = true then 1 else 0) + cq (fun j => decide (kN (nm (48 * d + sel (usd A d) 48 j)) 8 < kN (nm (48 * d + sel (usd A d) 48 i)) 8)) k (j + 1) := rfl
      have oj := ok_63 ((hok _ (so j (by omega)).1 (so j (by omega)).2).2 0 (by decide))
      have oi := ok_63 ((hok _ (so i hi).1 (so i hi).2).2 0 (by decide))
      have kk := key_ge oj oi
      rw [okI_u _ 8 (by decide), okI_u _ 8 (by decide)] at kk
      rw [lp_1 _ _ (by omega), fX3_slotInOrder_b84, if_neg (nI_ge (by omega) (by omega)), l11, qr_n (by omega) (by omega), qr_n (by omega) (by omega), (v2 i hi).2, (v2 j (by omega)).2, e1]
      unfold fX3_slotInOrder_b111
      by_cases c : kN (nm (48 * d + sel (usd A d) 48 j)) 8 < kN (nm (48 * d + sel (usd A d) 48 i)) 8
      · rw [if_neg (fun z => by have := kk.mp z; omega), qn_s, qn_s, nI_1, nI_1, ih (j + 1) (n - 1) (acc + 1) (by omega) (by omega) (by omega), decide_eq_true c, if_pos (show true = true from rfl), Nat.add_assoc]
      · rw [if_pos (kk.mpr (by omega)), qn_s, nI_1, ih (j + 1) (n - 1) acc (by omega) (by omega) (by omega), decide_eq_false c, if_neg (show ¬ (false = true) by decide), Nat.zero_add]
  have ec : ∀ i, cq (fun j => decide (kN (nm (48 * d + sel (usd A d) 48 j)) 8 < kN (nm (48 * d + sel (usd A d) 48 i)) 8)) m 0 = ahd A nm d (sel (usd A d) 48 i) := by
    intro i
    rw [cq_0, hm]
    exact sel_cnt (usd A d) (fun s => decide (kN (nm (48 * d + s)) 8 < kN (nm (48 * d + sel (usd A d) 48 i)) 8)) 48
  have outer : ∀ (k i n : Nat), i + k = m → k < n → q_lp (fX3_slotInOrder_b72 L N) (fun _ _ _ _ => none) n o (nI m) (nI i) v = some (if fnd (fun i => decide (nI (ahd A nm d (sel (usd A d) 48 i)) = o)) k i < m then nI (sel (usd A d) 48 (fnd (fun i => decide (nI (ahd A nm d (sel (usd A d) 48 i)) = o)) k i)) else -1, v) := by
    intro k
    induction k with
    | zero =>
      intro i n h1 h2
      rw [lp_1 _ _ (by omega), fX3_slotInOrder_b72, if_pos (nI_le (by omega) (by omega)), if_neg (show ¬ fnd (fun i => decide (nI (ahd A nm d (sel (usd A d) 48 i)) = o)) 0 i < m by show ¬ i < m; omega)]
    | succ k ih =>
      intro i n h1 h2
      have inn := inner (q_lp (fX3_slotInOrder_b72 L N) (fun _ _ _ _ => none) (n - 1)) i (by omega) m 0 N 0 (by omega) (by omega) (by omega)
      rw [Nat.zero_add, ec i] at inn
      have inn : q_lp (fX3_slotInOrder_b84 L N (q_lp (fX3_slotInOrder_b72 L N) (fun _ _ _ _ => none) (n - 1))) (fun _ _ _ _ _ _ => none) N o (nI m) (nI i) 0 0 v = _ := inn
      rw [lp_1 (fX3_slotInOrder_b72 L N) _ (n := n) (by omega), fX3_slotInOrder_b72, if_neg (nI_ge (by omega) (by omega)), inn, fnd_1]
      by_cases c : nI (ahd A nm d (sel (usd A d) 48 i)) = o
      · rw [if_pos c, decide_eq_true c, if_pos (show true = true from rfl), if_pos (by omega)]
      · rw [if_neg c, decide_eq_false c, if_neg (show ¬ (false = true) by decide)]
        exact ih (i + 1) (n - 1) (by omega) (by omega)
  unfold fX3_slotInOrder
  have v3 : q_lp (fX3_slotInOrder_b5 L N) (fun _ _ _ _ _ => none) N (nI d) o 0 0 ux = fX3_slotInOrder_b69 L N o (nI m) v := v3
  have out := outer m 0 N (by omega) (by omega)
  have out : q_lp (fX3_slotInOrder_b72 L N) (fun _ _ _ _ => none) N o (nI m) 0 v = _ := out
  have sf := sel_fnd (usd A d) (fun s => decide (nI (ahd A nm d s) = o)) 48
  rw [← hm] at sf
  rw [v3]
  unfold fX3_slotInOrder_b69
  rw [out, sf]
  unfold slX
  by_cases c : fnd (fun i => decide (nI (ahd A nm d (sel (usd A d) 48 i)) = o)) m 0 < m
  · rw [if_pos c, if_pos c, if_pos (so _ c).1]
  · rw [if_neg c, if_neg c, if_neg (by omega)]
theorem m_ordered {Ls : Nat} {A : Nat → Nat → Nat} {nm : Nat → Int64} {N : Nat} {um : q_St} (r : RM Ls A nm (q_a um) (q_j um 0)) (hN : 300 ≤ N) {d : Nat} (hd : d < 64) (h8 : A 8 d ≤ 12) (h14 : ∀ j, j < 3072 → A 14 j ≠ 0 → A 14 j < 64) (o : Int32) : fX11_ordered N (nI d) o um = some (slM d (4 * A 8 d) (fnd (fun s => usd A d s && decide (nI (ahd A nm d s) = o)) (4 * A 8 d) 0), um) := by
  have ea : ∀ s, ahd A nm d s = cq (fun j => usd A d j && decide (kN (nm (48 * d + j)) 8 < kN (nm (48 * d + s)) 8)) (4 * A 8 d) 0 := by
    intro s
    unfold ahd
    rw [cq_0]
    refine cnt_ext (fun i hi => ?_) (by omega)
    have : usd A d i = false := by
      unfold usd
      rw [decide_eq_false (by omega)]
      rfl
    rw [this]
    rfl
  have inner : ∀ (ih5 : Int32 → Int32 → Int32 → q_St → Option (Int32 × q_St)) (s : Nat), s < 4 * A 8 d → A 14 (48 * d + s) ≠ 0 → ∀ (k j n acc : Nat), j + k = 4 * A 8 d → k < n → acc ≤ j → q_lp (fX11_ordered_b41 N ih5) (fun _ _ _ _ _ _ => none) n (nI d) o (nI (48 * d + s)) (nI acc) (nI (48 * d + j)) um = if nI (acc + cq (fun j => usd A d j && decide (kN (nm (48 * d + j)) 8 < kN (nm (48 * d + s)) 8)) k j) = o then some (nI (48 * d + s), um) else ih5 (nI d) o (nI (48 * d + s + 1)) um := by
    intro ih5 s hs hs0 k
    induction k with
    | zero =>
      intro j n acc h1 h2 h3
      have e1 : acc + cq (fun j => usd A d j && decide (kN (nm (48 * d + j)) 8 < kN (nm (48 * d + s)) 8)) 0 j = acc := rfl
      rw [lp_1 _ _ (by omega), fX11_ordered_b41, m_slots4 r hd, qb_s, show (48 : Int32) * nI d = nI (48 * d) from pk_mul 48 _, nI_add, if_pos (nI_le (by omega) (by omega)), e1]
      unfold fX11_ordered_b110
      rw [qn_s, nI_1]
    | succ k ih =>
      intro j n acc h1 h2 h3
      have e1 : cq (fun j => usd A d j && decide (kN (nm (48 * d + j)) 8 < kN (nm (48 * d + s)) 8)) (k + 1) j = (if (usd A d j && decide (kN (nm (48 * d + j)) 8 < kN (nm (48 * d + s)) 8)) = true then 1 else 0) + cq (fun j => usd A d j && decide (kN (nm (48 * d + j)) 8 < kN (nm (48 * d + s)) 8)) k (j + 1) := rfl
      obtain ⟨q1, q2⟩ := r.2.2.2.2.2.1 (48 * d + j) (by omega)
      obtain ⟨p1, p2⟩ := r.2.2.2.2.2.1 (48 * d + s) (by omega)
      rw [lp_1 _ _ (by omega), fX11_ordered_b41, m_slots4 r hd, qb_s, show (48 : Int32) * nI d = nI (48 * d) from pk_mul 48 _, nI_add, if_neg (nI_ge (by omega) (by omega)), qr_n (by omega) (by omega), q1, e1]
      have nxt : ∀ b : Nat, b ≤ 1 → fX11_ordered_b93 N ih5 (q_lp (fX11_ordered_b41 N ih5) (fun _ _ _ _ _ _ => none) (n - 1)) (nI d) o (nI (48 * d + s)) (nI (48 * d + j)) (nI b) (nI acc) um = if nI (acc + (b + cq (fun j => usd A d j && decide (kN (nm (48 * d + j)) 8 < kN (nm (48 * d + s)) 8)) k (j + 1))) = o then some (nI (48 * d + s), um) else ih5 (nI d) o (nI (48 * d + s + 1)) um := by
        intro b hb
        unfold fX11_ordered_b93
        rw [qn_s, qn_s, nI_add, nI_1, show 48 * d + j + 1 = 48 * d + (j + 1) by omega, ih (j + 1) (n - 1) (acc + b) (by omega) (by omega) (by omega), Nat.add_assoc]
      unfold fX11_ordered_b92
      by_cases c : A 14 (48 * d + j) = 0
      · have hu : usd A d j = false := by unfold usd; rw [decide_eq_false (show ¬ A 14 (48 * d + j) ≠ 0 from fun z => z c), Bool.and_false]
        rw [if_pos ((i0_m1 (by omega)).mpr c), hu, Bool.false_and, if_neg (show ¬ (false = true) by decide)]
        exact nxt 0 (by decide)
      · have h64 := h14 (48 * d + j) (by omega) c
        have hu : usd A d j = true := by unfold usd; rw [decide_eq_true c, decide_eq_true (show j < 4 * A 8 d by omega)]; rfl
        rw [if_neg (fun z => c ((i0_m1 (by omega)).mp z)), qr_n (by omega) (by omega), qr_n (by omega) (by omega), q2 c, p2 hs0, m_isAhead hN, qb_s, hu, Bool.true_and]
        by_cases c2 : kN (nm (48 * d + j)) 8 < kN (nm (48 * d + s)) 8
        · rw [decide_eq_true c2, b2i_t, if_neg (show ¬ (1 : Int32) = 0 by decide), if_pos (show true = true from rfl)]
          exact nxt 1 (by decide)
        · rw [decide_eq_false c2, b2i_f, if_pos (show (0 : Int32) = 0 from rfl), if_neg (show ¬ (false = true) by decide)]
          exact nxt 0 (by decide)
  have outer : ∀ (k s n : Nat), s + k = 4 * A 8 d → k < n → q_lp (fX11_ordered_b5 N) (fun _ _ _ _ => none) n (nI d) o (nI (48 * d + s)) um = some (slM d (4 * A 8 d) (fnd (fun s => usd A d s && decide (nI (ahd A nm d s) = o)) k s), um) := by
    intro k
    induction k with
    | zero =>
      intro s n h1 h2
      rw [lp_1 _ _ (by omega), fX11_ordered_b5, m_slots4 r hd, qb_s, show (48 : Int32) * nI d = nI (48 * d) from pk_mul 48 _, nI_add, if_pos (nI_le (by omega) (by omega))]
      unfold slM
      rw [if_neg (show ¬ fnd (fun s => usd A d s && decide (nI (ahd A nm d s) = o)) 0 s < 4 * A 8 d by show ¬ s < 4 * A 8 d; omega)]
    | succ k ih =>
      intro s n h1 h2
      obtain ⟨q1, q2⟩ := r.2.2.2.2.2.1 (48 * d + s) (by omega)
      have ihh := ih (s + 1) (n - 1) (by omega) (by omega)
      rw [show 48 * d + (s + 1) = 48 * d + s + 1 by omega] at ihh
      rw [lp_1 (fX11_ordered_b5 N) _ (n := n) (by omega), fX11_ordered_b5, m_slots4 r hd, qb_s, show (48 : Int32) * nI d = nI (48 * d) from pk_mul 48 _, nI_add, if_neg (nI_ge (by omega) (by omega)), qr_n (by omega) (by omega), q1, fnd_1]
      by_cases c : A 14 (48 * d + s) = 0
      · have hu : usd A d s = false := by unfold usd; rw [decide_eq_false (show ¬ A 14 (48 * d + s) ≠ 0 from fun z => z c), Bool.and_false]
        unfold fX11_ordered_b110
        rw [if_pos ((i0_m1 (by omega)).mpr c), hu, Bool.false_and, if_neg (show ¬ (false = true) by decide), qn_s, nI_1]
        exact ihh
      · have h64 := h14 (48 * d + s) (by omega) c
        have hu : usd A d s = true := by unfold usd; rw [decide_eq_true c, decide_eq_true (show s < 4 * A 8 d by omega)]; rfl
        have inn := inner (q_lp (fX11_ordered_b5 N) (fun _ _ _ _ => none) (n - 1)) s (by omega) c (4 * A 8 d) 0 N 0 (by omega) (by omega) (by omega)
        rw [Nat.zero_add, Nat.add_zero, ← ea s] at inn
        have inn : q_lp (fX11_ordered_b41 N (q_lp (fX11_ordered_b5 N) (fun _ _ _ _ => none) (n - 1))) (fun _ _ _ _ _ _ => none) N (nI d) o (nI (48 * d + s)) 0 (nI (48 * d)) um = _ := inn
        rw [if_neg (fun z => c ((i0_m1 (by omega)).mp z)), qn_s, inn, hu, Bool.true_and]
        by_cases c2 : nI (ahd A nm d s) = o
        · rw [if_pos c2, decide_eq_true c2, if_pos (show true = true from rfl)]
          unfold slM
          rw [if_pos (by omega)]
        · rw [if_neg c2, decide_eq_false c2, if_neg (show ¬ (false = true) by decide)]
          exact ihh
  unfold fX11_ordered
  rw [show (48 : Int32) * nI d = nI (48 * d) from pk_mul 48 _, qn_s]
  exact outer (4 * A 8 d) 0 N (by omega) (by omega)
/-- both find the same SLOT -/
theorem l_ord {B T S C W Ls na hb : Nat} {D K : Nat → Nat → Int64} {dd : Nat → Bool} {A : Nat → Nat → Nat} {nm : Nat → Int64} {L : Nat → Nat} {N : Nat} {ux um : q_St} (x : Xr B T S C W Ls na hb um D K dd A nm L ux) (rm : RM Ls A nm (q_a um) (q_j um 0)) (hN : 300 ≤ N) {d : Nat} (hd : d < 64) (hk : A 5 d = 2) (o : Int32) : ∃ vx, Fr [34, 35, 36, 37, 38, 39, 40] [7, 10, 11, 12, 13, 14] [4] ux vx ∧ ((fX3_slotInOrder L N (nI d) o ux = some (-1, vx) ∧ fX11_ordered N (nI d) o um = some (-1, um)) ∨ ∃ f, f < 4 * A 8 d ∧ A 14 (48 * d + f) ≠ 0 ∧ fX3_slotInOrder L N (nI d) o ux = some (nI f, vx) ∧ fX11_ordered N (nI d) o um = some (nI (48 * d + f), um)) := by
  have h8 := x.t8 hd
  obtain ⟨vx, a1, a2⟩ := x_slotInOrder (N := N) x hN hd hk o
  have b1 := m_ordered (N := N) rm hN hd h8 x.t14 o
  refine ⟨vx, a2, ?_⟩
  have hno : ∀ i, 4 * A 8 d ≤ i → (usd A d i && decide (nI (ahd A nm d i) = o)) = false := by
    intro i hi
    have : usd A d i = false := by
      unfold usd
      rw [decide_eq_false (by omega)]
      rfl
    rw [this]
    rfl
  have e : fnd (fun s => usd A d s && decide (nI (ahd A nm d s) = o)) 48 0 = if fnd (fun s => usd A d s && decide (nI (ahd A nm d s) = o)) (4 * A 8 d) 0 < 4 * A 8 d then fnd (fun s => usd A d s && decide (nI (ahd A nm d s) = o)) (4 * A 8 d) 0 else 48 := by
    have q := fnd_add (fun s => usd A d s && decide (nI (ahd A nm d s) = o)) (4 * A 8 d) (48 - 4 * A 8 d) 0
    rw [show 4 * A 8 d + (48 - 4 * A 8 d) = 48 by omega, Nat.zero_add] at q
    rw [q]
    have i2 := fnd_in (fun s => usd A d s && decide (nI (ahd A nm d s) = o)) (48 - 4 * A 8 d) (4 * A 8 d)
    have y2 := fnd_yes (fun s => usd A d s && decide (nI (ahd A nm d s) = o)) (48 - 4 * A 8 d) (4 * A 8 d)
    generalize fnd (fun s => usd A d s && decide (nI (ahd A nm d s) = o)) (48 - 4 * A 8 d) (4 * A 8 d) = z at i2 y2 ⊢
    have : z = 48 := by
      rcases Nat.lt_or_ge z 48 with q | q
      · have := y2 (by omega)
        have h2 := hno z i2.1
        rw [h2] at this
        cases this
      · omega
    rw [this]
  have y := fnd_yes (fun s => usd A d s && decide (nI (ahd A nm d s) = o)) (4 * A 8 d) 0
  rw [e] at a1
  generalize fnd (fun s => usd A d s && decide (nI (ahd A nm d s) = o)) (4 * A 8 d) 0 = f at a1 b1 y
  by_cases c : f < 4 * A 8 d
  · right
    have hy := y (by omega)
    simp only [Bool.and_eq_true] at hy
    unfold slX at a1
    unfold slM at b1
    rw [if_pos c, if_pos (by omega)] at a1
    rw [if_pos c] at b1
    exact ⟨f, c, (usd_t hy.1).2, a1, b1⟩
  · left
    unfold slX at a1
    unfold slM at b1
    rw [if_neg c, if_neg (by omega)] at a1
    rw [if_neg c] at b1
    exact ⟨a1, b1⟩
theorem p_entry {B T S C W Ls na : Nat} {L : Nat → Nat} {N : Nat} (g : Geo B T S C W Ls) (gl : gL B C W Ls L) (hna : na = 80 + (Ls + 511) / 512) (hN : 300 ≤ N) : st_entry (Iv B T S C W Ls na) L N := by
  intro k ux um x0 o hk h
  refine rd_sc (off := -99) g gl hna h (fun q1 q2 => ?_) (fun hb D K dd A nm q1 q2 x rm wh ms => ?_)
  · unfold fX10_entry fX11_entry fX10_refusalToList
    rw [if_pos q1, if_pos q2, qb_s, if_neg (by decide)]
    exact ⟨rfl, rfl⟩
  · have fx0 := Fr.rf [34, 35, 36, 37, 38, 39, 40] [7, 10, 11, 12, 13, 14] [4] ux
    have fm0 := Fr.rf [29, 30, 31] [36, 37] [] um
    unfold fX10_entry fX11_entry fX10_refusalToList
    rw [q1, q2, if_neg (by decide), if_neg (by decide)]
    rcases nod x0 with ⟨n, hn, e⟩ | e
    · subst e
      rw [x_kindOf x hn, qb_s, m_isDir rm hn (x.k4 hn), qb_s]
      by_cases c : A 5 n = 2
      · rw [if_pos c, c, if_pos (show nI 2 = (2 : Int32) from rfl), if_neg (show ¬ (1 : Int32) = 0 by decide), x_may x hn (by omega) (by omega), m_may rm hn, qb_s, qb_s, wh.1]
        rcases mayR_01 (q_i um 28) (nI (A 11 n)) (nI (A 12 n)) 4 with hm | hm
        · rw [hm, if_pos rfl, if_pos rfl, qb_s, if_neg (by decide)]
          exact ⟨_, ux, um, rfl, rfl, fx0, fm0⟩
        · have h8 := x.t8 hn
          rw [hm, if_neg (by decide), if_neg (by decide), qb_s, if_pos rfl]
          obtain ⟨vx, w1, w2⟩ := l_ord (N := N) x rm hN hn c o
          rcases w2 with ⟨w2, w3⟩ | ⟨f, hf, h14, w2, w3⟩
          · rw [w2, w3, qb_s, qb_s, if_pos rfl, if_pos rfl]
            exact ⟨_, vx, um, rfl, rfl, w1, fm0⟩
          · rw [w2, w3, qb_s, qb_s, if_neg (m1_ne f (by omega)), if_neg (m1_ne _ (by omega)), x_nodeAt (Xr_sc x w1) hn c hf h14, qb_s, qr_n (by omega) (by omega), (rm.2.2.2.2.2.1 _ (by omega)).1]
            unfold i0
            rw [if_neg h14]
            exact ⟨_, vx, um, rfl, rfl, w1, fm0⟩
      · rw [if_neg c, if_pos rfl, if_neg (show ¬ nI (A 5 n) = (2 : Int32) from nI_k (b := 2) (x.k4 hn) (by decide) c), qb_s, if_neg (by decide)]
        exact ⟨_, ux, um, rfl, rfl, fx0, fm0⟩
    · rw [x_kindOut e, qb_s, m_isDirOut e, qb_s, if_neg (by decide), if_pos rfl, qb_s, if_neg (by decide)]
      exact ⟨_, ux, um, rfl, rfl, fx0, fm0⟩
theorem p_name {B T S C W Ls na : Nat} {L : Nat → Nat} {N : Nat} (g : Geo B T S C W Ls) (gl : gL B C W Ls L) (hna : na = 80 + (Ls + 511) / 512) (hN : 300 ≤ N) : st_name (Iv B T S C W Ls na) L N := by
  intro k ux um x0 o hk h
  refine rd_sc (off := -99) g gl hna h (fun q1 q2 => ?_) (fun hb D K dd A nm q1 q2 x rm wh ms => ?_)
  · unfold fX10_name fX11_name fX10_refusalToList
    rw [if_pos q1, if_pos q2, qb_s, if_neg (by decide)]
    exact ⟨rfl, rfl⟩
  · have fx0 := Fr.rf [34, 35, 36, 37, 38, 39, 40] [7, 10, 11, 12, 13, 14] [4] ux
    have fm0 := Fr.rf [29, 30, 31] [36, 37] [] um
    unfold fX10_name fX11_name fX10_refusalToList
    rw [q1, q2, if_neg (by decide), if_neg (by decide)]
    rcases nod x0 with ⟨n, hn, e⟩ | e
    · subst e
      rw [x_kindOf x hn, qb_s, m_isDir rm hn (x.k4 hn), qb_s]
      by_cases c : A 5 n = 2
      · rw [if_pos c, c, if_pos (show nI 2 = (2 : Int32) from rfl), if_neg (show ¬ (1 : Int32) = 0 by decide), x_may x hn (by omega) (by omega), m_may rm hn, qb_s, qb_s, wh.1]
        rcases mayR_01 (q_i um 28) (nI (A 11 n)) (nI (A 12 n)) 4 with hm | hm
        · rw [hm, if_pos rfl, if_pos rfl, qb_s, if_neg (by decide)]
          exact ⟨_, ux, um, rfl, rfl, fx0, fm0⟩
        · have h8 := x.t8 hn
          rw [hm, if_neg (by decide), if_neg (by decide), qb_s, if_pos rfl]
          obtain ⟨vx, w1, w2⟩ := l_ord (N := N) x rm hN hn c o
          rcases w2 with ⟨w2, w3⟩ | ⟨f, hf, h14, w2, w3⟩
          · rw [w2, w3, qb_s, qb_s, if_pos rfl, if_pos rfl]
            exact ⟨_, vx, um, rfl, rfl, w1, fm0⟩
          · rw [w2, w3, qb_s, qb_s, if_neg (m1_ne f (by omega)), if_neg (m1_ne _ (by omega)), x_nameAt (Xr_sc x w1) hn c (by omega), qb_s, if_pos ⟨hf, h14⟩, qr_n (by omega) (by omega), (rm.2.2.2.2.2.1 _ (by omega)).2 h14]
            exact ⟨_, vx, um, rfl, rfl, w1, fm0⟩
      · rw [if_neg c, if_pos rfl, if_neg (show ¬ nI (A 5 n) = (2 : Int32) from nI_k (b := 2) (x.k4 hn) (by decide) c), qb_s, if_neg (by decide)]
        exact ⟨_, ux, um, rfl, rfl, fx0, fm0⟩
    · rw [x_kindOut e, qb_s, m_isDirOut e, qb_s, if_neg (by decide), if_pos rfl, qb_s, if_neg (by decide)]
      exact ⟨_, ux, um, rfl, rfl, fx0, fm0⟩
