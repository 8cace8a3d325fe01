/-! ===== what is only scratch; NAMES in their order ===== -/
theorem Iv_sc {B T S C W Ls na k : Nat} {ux um vx vm : q_St} (h : Iv B T S C W Ls na k ux um) (hx : Fr [34, 35, 36, 37, 38, 39, 40] [7, 10, 11, 12, 13, 14] [4] ux vx) (hm : Fr [29, 30, 31] [36, 37] [] um vm) : Iv B T S C W Ls na k vx vm := by
  obtain ⟨sm, D, kv, Ak, nk, al, on⟩ := h
  have ri : ∀ k, k < 34 → q_i vx k = q_i ux k := fun k hk => hx.1 k (by simp only [List.mem_cons, List.not_mem_nil, or_false]; omega)
  have ra : ∀ k, (k < 7 ∨ k = 8) → q_a vx k = q_a ux k := fun k hk => hx.2.1 k (by simp only [List.mem_cons, List.not_mem_nil, or_false]; omega)
  have rj : ∀ k, k ≠ 4 → q_j vx k = q_j ux k := fun k hk => hx.2.2 k (by simp only [List.mem_cons, List.not_mem_nil, or_false]; omega)
  have mi : ∀ k, k < 29 → q_i vm k = q_i um k := fun k hk => hm.1 k (by simp only [List.mem_cons, List.not_mem_nil, or_false]; omega)
  have ma : ∀ k, k < 36 → q_a vm k = q_a um k := fun k hk => hm.2.1 k (by simp only [List.mem_cons, List.not_mem_nil, or_false]; omega)
  have mj : ∀ k, q_j vm k = q_j um k := fun k => hm.2.2 k (by simp)
  have v := VV_fr al.1 (fun k q _ _ _ _ => ri k (by omega)) (fun k q => ra k (by omega)) (rj 0 (by decide)) (fun k q => mi k (by omega)) (fun k q => ma k (by omega))
  have wh := whR_fr al.2.2.2.2.2.2.2 (ri 0 (by decide)) (mi 28 (by decide))
  have tp := tpR_fr al.2.2.2.2.2.2.1 (ri 32 (by decide)) (mi 27 (by decide)) (ra 8 (by decide)) (ma 35 (by decide))
  refine ⟨sm, D, kv, Ak, nk, Al_fr al v (ri 24 (by decide)) (mi 26 (by decide)) (fun k q1 q2 q3 => ma k (by omega)) (mj 1) tp wh, ?_⟩
  rcases on with q | ⟨q1, q2⟩
  · exact Or.inl ((ri 7 (by decide)).trans q)
  · refine Or.inr ⟨q1, ?_⟩
    rw [q1] at v
    exact On_fr q2 v (ri 7 (by decide)) (fun k w1 w2 => ma k (by omega)) (ma 31 (by decide)) (ma 33 (by decide)) (mi 25 (by decide)) (mj 0) (ra 5 (by decide)) (ri 22 (by decide)) (rj 2 (by decide))
theorem Xr_sc {B T S C W Ls na hb : Nat} {um : q_St} {D K : Nat → Nat → Int64} {dd : Nat → Bool} {A : Nat → Nat → Nat} {nm : Nat → Int64} {L : Nat → Nat} {ux vx : q_St} (x : Xr B T S C W Ls na hb um D K dd A nm L ux) (hx : Fr [34, 35, 36, 37, 38, 39, 40] [7, 10, 11, 12, 13, 14] [4] ux vx) : Xr B T S C W Ls na hb um D K dd A nm L vx := by
  obtain ⟨g, ⟨v, s1, s2, s3⟩, rx, tw⟩ := x
  have ri : ∀ k, k < 34 → q_i vx k = q_i ux k := fun k hk => hx.1 k (by simp only [List.mem_cons, List.not_mem_nil, or_false]; omega)
  have ra : ∀ k, (k < 7 ∨ k = 8) → q_a vx k = q_a ux k := fun k hk => hx.2.1 k (by simp only [List.mem_cons, List.not_mem_nil, or_false]; omega)
  have rj : ∀ k, k ≠ 4 → q_j vx k = q_j ux k := fun k hk => hx.2.2 k (by simp only [List.mem_cons, List.not_mem_nil, or_false]; omega)
  exact ⟨g, ⟨VV_fr v (fun k q _ _ _ _ => ri k (by omega)) (fun k q => ra k (by omega)) (rj 0 (by decide)) (fun _ _ => rfl) (fun _ _ => rfl), by rw [ra 5 (by decide)]; exact s1, by rw [ri 22 (by decide)]; exact s2, by rw [rj 2 (by decide)]; exact s3⟩, rx, tw⟩
/-- a call that reads, with scratch -/
theorem rd_sc {B T S C W Ls na k : Nat} {L : Nat → Nat} {ux um : q_St} {α : Type} {fx : Option (α × q_St)} {fm : Option (α × q_St)} {off : α} (g : Geo B T S C W Ls) (gl : gL B C W Ls L) (hna : na = 80 + (Ls + 511) / 512) (h : Iv B T S C W Ls na k ux um) (hoff : q_i ux 7 = 0 → q_i um 9 = 0 → fx = some (off, ux) ∧ fm = some (off, um))
    (hon : ∀ hb D K dd A nm, q_i ux 7 = 1 → q_i um 9 = 1 → Xr B T S C W Ls na hb um D K dd A nm L ux → RM Ls A nm (q_a um) (q_j um 0) → whR ux um → MS Ls dd um → ∃ r vx vm, fx = some (r, vx) ∧ fm = some (r, vm) ∧ Fr [34, 35, 36, 37, 38, 39, 40] [7, 10, 11, 12, 13, 14] [4] ux vx ∧ Fr [29, 30, 31] [36, 37] [] um vm) : ∃ r vx vm, fx = some (r, vx) ∧ fm = some (r, vm) ∧ Iv B T S C W Ls na (k + 1) vx vm := by
  have e9 := Iv_on h
  obtain ⟨sm, D, kv, Ak, nk, al, on⟩ := id h
  rcases on with q | ⟨q1, h7, dh, K, dd, A, nm, xs, ms, c75, h80, rm, tw, rx, nb⟩
  · obtain ⟨a1, a2⟩ := hoff q (e9.trans q)
    exact ⟨off, ux, um, a1, a2, Iv_up h⟩
  · subst q1
    obtain ⟨r, vx, vm, a1, a2, a3, a4⟩ := hon (300 * k) D K dd A nm h7 (e9.trans h7) ⟨⟨g, gl, hna⟩, xs, rx, tw⟩ rm al.2.2.2.2.2.2.2 ms
    exact ⟨r, vx, vm, a1, a2, Iv_up (Iv_sc h a3 a4)⟩
/-- the order of NAMES as a number -/
def okI (v : Int64) : Nat → Int64
  | 0 => 0
  | i + 1 => (q_lshl (okI v i) 8) ||| ((q_lush v (nI (8 * i))) &&& 255)
def kN (v : Int64) : Nat → Nat
  | 0 => 0
  | i + 1 => kN v i * 256 + ocN v i
theorem kN_lt (v : Int64) : ∀ i, kN v i < 256 ^ i
  | 0 => Nat.zero_lt_one
  | i + 1 => by
    have h1 := kN_lt v i
    have h2 := ocN_lt v i
    simp only [kN]
    rw [Nat.pow_succ]
    omega
theorem kN_lt2 {v : Int64} (h : ocN v 0 < 128) : ∀ i, kN v (i + 1) < 128 * 256 ^ i
  | 0 => by
    simp only [kN]
    omega
  | i + 1 => by
    have h1 := kN_lt2 h i
    have h2 := ocN_lt v (i + 1)
    have e : kN v (i + 1 + 1) = kN v (i + 1) * 256 + ocN v (i + 1) := rfl
    rw [e, Nat.pow_succ]
    omega
theorem okI_u (v : Int64) : ∀ i, i ≤ 8 → uN (okI v i) = kN v i
  | 0, _ => uN_0
  | i + 1, h => by
    have ih := okI_u v i (by omega)
    have h1 := kN_lt v i
    have hp : 256 ^ i ≤ 256 ^ 7 := Nat.pow_le_pow_right (by decide) (by omega)
    have h7 : (256 : Nat) ^ 7 = 2 ^ 56 := by decide
    have hm : (uN v >>> (8 * i)) % 2 ^ 8 < 2 ^ 8 := Nat.mod_lt _ (by decide)
    have e0 : uN (okI v (i + 1)) = uN ((q_lshl (okI v i) (nI 8)) ||| ((q_lush v (nI (8 * i))) &&& 255)) := rfl
    have e1 : (kN v i <<< 8) % 2 ^ 64 = kN v i <<< 8 := Nat.mod_eq_of_lt (by rw [Nat.shiftLeft_eq]; omega)
    rw [e0, uN_or, uN_lshl _ (by decide), uN_and, uN_lush _ (by omega), ih, show uN 255 = 2 ^ 8 - 1 from by decide +kernel, Nat.and_two_pow_sub_one_eq_mod, e1, ← Nat.shiftLeft_add_eq_or_of_lt hm, Nat.shiftLeft_eq]
    rfl
theorem x_orderKey {L : Nat → Nat} {N : Nat} {v : Int64} {u : q_St} (hN : 300 ≤ N) : fX3_orderKey L N v u = some (okI v 8, u) := by
  have key : ∀ (k i n : Nat), i + k = 8 → k < n → q_lp (fX3_orderKey_b5 L N) (fun _ _ _ _ => none) n v (okI v i) (nI i) u = some (okI v 8, u) := by
    intro k
    induction k with
    | zero =>
      intro i n h1 h2
      have : i = 8 := by omega
      subst this
      rw [lp_1 _ _ (by omega), fX3_orderKey_b5, if_pos (show (8 : Int32) ≤ nI 8 by decide)]
    | succ k ih =>
      intro i n h1 h2
      rw [lp_1 _ _ (by omega), fX3_orderKey_b5, if_neg (show ¬ (8 : Int32) ≤ nI i from nI_ge (a := i) (b := 8) (by omega) (by omega)), qn_s, qn_s, nI_1, show (8 : Int32) * nI i = nI (8 * i) from pk_mul 8 i]
      exact ih (i + 1) (n - 1) (by omega) (by omega)
  unfold fX3_orderKey
  exact key 8 0 N (by omega) (by omega)
theorem i64_toInt {x : Int64} (h : uN x < 2 ^ 63) : x.toInt = (uN x : Int) := by
  have e : x.toBitVec.toInt = (x.toBitVec.toNat : Int) := BitVec.toInt_eq_toNat_of_lt (by unfold uN at h; omega)
  exact e
theorem key_ge {x y : Int64} (hx : uN x < 2 ^ 63) (hy : uN y < 2 ^ 63) : (0 ≤ lg_cmp x y) ↔ uN y ≤ uN x := by
  rw [lg_cmp_ge, Int64.le_iff_toInt_le, i64_toInt hx, i64_toInt hy]
  omega
theorem ok_63 {v : Int64} (h : ocN v 0 < 128) : uN (okI v 8) < 2 ^ 63 := by
  rw [okI_u v 8 (by decide)]
  have := kN_lt2 h 7
  have h7 : (128 : Nat) * 256 ^ 7 = 2 ^ 63 := by decide
  omega
theorem kN_mono {a b : Int64} {i : Nat} (h : kN a i < kN b i) : ∀ m, kN a (i + m) < kN b (i + m)
  | 0 => h
  | m + 1 => by
    have h1 := kN_mono h m
    have h2 := ocN_lt a (i + m)
    have e : ∀ v, kN v (i + (m + 1)) = kN v (i + m) * 256 + ocN v (i + m) := fun v => rfl
    rw [e, e]
    omega
theorem m_isAhead {N : Nat} {a b : Int64} {u : q_St} (hN : 300 ≤ N) : fX11_isAhead N a b u = some (b2i (decide (kN a 8 < kN b 8)), u) := by
  have key : ∀ (k i n : Nat), i + k = 8 → k < n → kN a i = kN b i → q_lp (fX11_isAhead_b3 N) (fun _ _ _ _ => none) n a b (nI i) u = some (b2i (decide (kN a 8 < kN b 8)), u) := by
    intro k
    induction k with
    | zero =>
      intro i n h1 h2 h3
      have : i = 8 := by omega
      subst this
      rw [lp_1 _ _ (by omega), fX11_isAhead_b3, if_pos (show (8 : Int32) ≤ nI 8 by decide)]
      unfold fX11_isAhead_b31 fX11_letter
      rw [if_neg (show ¬ nI 8 ≤ (7 : Int32) by decide), qb_s, if_neg (show ¬ nI 8 ≤ (7 : Int32) by decide), qb_s, if_pos (by decide), h3, decide_eq_false (by omega)]
      rfl
    | succ k ih =>
      intro i n h1 h2 h3
      have ha := ocN_lt a i
      have hb := ocN_lt b i
      rw [lp_1 _ _ (by omega), fX11_isAhead_b3, if_neg (show ¬ (8 : Int32) ≤ nI i from nI_ge (a := i) (b := 8) (by omega) (by omega)), m_letter (by omega), qb_s, m_letter (by omega), qb_s]
      by_cases c : ocN a i = ocN b i
      · rw [if_pos (by rw [c]), qn_s, nI_1]
        refine ih (i + 1) (n - 1) (by omega) (by omega) ?_
        simp only [kN]
        rw [h3, c]
      · rw [if_neg (fun z => c (nI_inj (by omega) (by omega) z))]
        unfold fX11_isAhead_b31
        rw [m_letter (by omega), qb_s, m_letter (by omega), qb_s]
        have e8 : i + 1 + k = 8 := by omega
        by_cases c2 : ocN b i ≤ ocN a i
        · have h4 : kN b (i + 1) < kN a (i + 1) := by
            simp only [kN]
            omega
          have h5 := kN_mono h4 k
          rw [e8] at h5
          rw [if_pos (nI_le c2 (by omega)), decide_eq_false (by omega)]
          rfl
        · have h4 : kN a (i + 1) < kN b (i + 1) := by
            simp only [kN]
            omega
          have h5 := kN_mono h4 k
          rw [e8] at h5
          rw [if_neg (nI_ge (by omega) (by omega)), decide_eq_true h5]
          rfl
  unfold fX11_isAhead
  exact key 8 0 N (by omega) (by omega) rfl
/-- counting and finding among those chosen -/
theorem cq_cnt (P : Nat → Bool) : ∀ k q, cq P k q + cnt P q = cnt P (q + k)
  | 0, q => by
    show 0 + cnt P q = cnt P q
    omega
  | k + 1, q => by
    have h := cq_cnt P k (q + 1)
    have e1 : cq P (k + 1) q = (if P q = true then 1 else 0) + cq P k (q + 1) := rfl
    have e2 : cnt P (q + 1) = cnt P q + (if P q = true then 1 else 0) := rfl
    rw [show q + (k + 1) = q + 1 + k by omega, ← h, e1, e2]
    omega
theorem cq_0 (P : Nat → Bool) (k : Nat) : cq P k 0 = cnt P k := by
  have := cq_cnt P k 0
  rw [Nat.zero_add] at this
  rw [← this]
  rfl
theorem cnt_ext {P : Nat → Bool} {m : Nat} (h : ∀ i, m ≤ i → P i = false) : ∀ {n : Nat}, m ≤ n → cnt P n = cnt P m
  | 0, hn => by rw [show m = 0 by omega]
  | n + 1, hn => by
    by_cases c : m = n + 1
    · rw [c]
    · simp only [cnt]
      rw [cnt_ext h (n := n) (by omega), h n (by omega)]
      simp
theorem sel_cnt (U Q : Nat → Bool) : ∀ n, cnt (fun j => Q (sel U n j)) (cnt U n) = cnt (fun s => U s && Q s) n
  | 0 => rfl
  | n + 1 => by
    have ih := sel_cnt U Q n
    have e0 : cnt U (n + 1) = cnt U n + (if U n = true then 1 else 0) := rfl
    have e1 : cnt (fun s => U s && Q s) (n + 1) = cnt (fun s => U s && Q s) n + (if (U n && Q n) = true then 1 else 0) := rfl
    have e2 : cnt (fun j => Q (sel U (n + 1) j)) (cnt U n) = cnt (fun j => Q (sel U n j)) (cnt U n) := by
      refine cnt_congr (fun i hi => ?_)
      simp only [sel]
      rw [if_neg (fun z => by omega)]
    rw [e0, e1, ← ih, ← e2]
    by_cases c : U n = true
    · rw [if_pos c, c]
      have e3 : cnt (fun j => Q (sel U (n + 1) j)) (cnt U n + 1) = cnt (fun j => Q (sel U (n + 1) j)) (cnt U n) + (if Q (sel U (n + 1) (cnt U n)) = true then 1 else 0) := rfl
      have e4 : sel U (n + 1) (cnt U n) = n := by
        simp only [sel]
        rw [if_pos ⟨c, trivial⟩]
      rw [e3, e4]
      rfl
    · have cf : U n = false := by
        cases h : U n with
        | true => exact absurd h c
        | false => rfl
      rw [cf]
      rfl
theorem sel_fnd (U R : Nat → Bool) (n : Nat) : fnd (fun s => U s && R s) n 0 = if fnd (fun i => R (sel U n i)) (cnt U n) 0 < cnt U n then sel U n (fnd (fun i => R (sel U n i)) (cnt U n) 0) else n := by
  obtain ⟨o1, o2, o3⟩ := sel_ok U n
  have f_in := fnd_in (fun i => R (sel U n i)) (cnt U n) 0
  have f_no := fnd_no (fun i => R (sel U n i)) (cnt U n) 0
  have f_yes := fnd_yes (fun i => R (sel U n i)) (cnt U n) 0
  have g_in := fnd_in (fun s => U s && R s) n 0
  have g_no := fnd_no (fun s => U s && R s) n 0
  have g_yes := fnd_yes (fun s => U s && R s) n 0
  generalize fnd (fun i => R (sel U n i)) (cnt U n) 0 = f at f_in f_no f_yes ⊢
  generalize fnd (fun s => U s && R s) n 0 = w at g_in g_no g_yes ⊢
  by_cases c : f < cnt U n
  · rw [if_pos c]
    have y := f_yes (by omega)
    obtain ⟨p1, p2⟩ := o1 f c
    rcases Nat.lt_trichotomy w (sel U n f) with q | q | q
    · exfalso
      have z := g_yes (by omega)
      simp only [Bool.and_eq_true] at z
      obtain ⟨i, i1, i2⟩ := o3 w (by omega) z.1
      rcases Nat.lt_trichotomy i f with r | r | r
      · have := f_no i (by omega) r
        rw [i2, z.2] at this
        cases this
      · rw [r] at i2; omega
      · have := o2 f i r i1
        omega
    · exact q
    · exfalso
      have z := g_no (sel U n f) (by omega) q
      rw [p2] at z
      simp only [Bool.true_and] at z
      rw [y] at z
      cases z
  · rw [if_neg c]
    rcases Nat.lt_or_ge w n with q | q
    · exfalso
      have z := g_yes (by omega)
      simp only [Bool.and_eq_true] at z
      obtain ⟨i, i1, i2⟩ := o3 w q z.1
      have := f_no i (by omega) (by omega)
      rw [i2, z.2] at this
      cases this
    · omega
