/-! ===== the start: numbers brought into their bounds; the rows of the reference ===== -/
theorem clp {N lo hi : Nat} (h : lo ≤ hi) (h31 : hi < 2 ^ 30) (x : Int32) : ∃ m, lo ≤ m ∧ m ≤ hi ∧ q_max (nI lo) (q_min (nI hi) x) = nI m ∧ ∀ u, fX11_within N x (nI lo) (nI hi) u = some (nI m, u) := by
  have al := nI_toInt (show lo < 2 ^ 31 by omega)
  have ah := nI_toInt (show hi < 2 ^ 31 by omega)
  have hq : (q_min (nI hi) x).toInt = if x.toInt < hi then x.toInt else hi := by
    unfold q_min
    by_cases c : x < nI hi
    · rw [if_pos c]
      rw [Int32.lt_iff_toInt_lt, ah] at c
      rw [if_pos c]
    · rw [if_neg c]
      rw [Int32.lt_iff_toInt_lt, ah] at c
      rw [if_neg c, ah]
  have hm : (q_max (nI lo) (q_min (nI hi) x)).toInt = if (lo : Int) < (q_min (nI hi) x).toInt then (q_min (nI hi) x).toInt else lo := by
    unfold q_max
    by_cases c : nI lo < q_min (nI hi) x
    · rw [if_pos c]
      rw [Int32.lt_iff_toInt_lt, al] at c
      rw [if_pos c]
    · rw [if_neg c]
      rw [Int32.lt_iff_toInt_lt, al] at c
      rw [if_neg c, al]
  obtain ⟨y, hy⟩ : ∃ y : Int, y = (if x.toInt < hi then x.toInt else hi) := ⟨_, rfl⟩
  obtain ⟨z, hz⟩ : ∃ z : Int, z = (if (lo : Int) < y then y else lo) := ⟨_, rfl⟩
  rw [← hy] at hq
  rw [hq, ← hz] at hm
  have y1 : (x.toInt < hi ∧ y = x.toInt) ∨ (¬ x.toInt < hi ∧ y = hi) := by
    by_cases c : x.toInt < hi
    · exact Or.inl ⟨c, by rw [hy, if_pos c]⟩
    · exact Or.inr ⟨c, by rw [hy, if_neg c]⟩
  have z1 : ((lo : Int) < y ∧ z = y) ∨ (¬ (lo : Int) < y ∧ z = lo) := by
    by_cases c : (lo : Int) < y
    · exact Or.inl ⟨c, by rw [hz, if_pos c]⟩
    · exact Or.inr ⟨c, by rw [hz, if_neg c]⟩
  have b1 : (lo : Int) ≤ z := by omega
  have b2 : z ≤ (hi : Int) := by omega
  refine ⟨z.toNat, by omega, by omega, Int32.toInt_inj.mp (by rw [hm, nI_toInt (by omega)]; omega), fun u => ?_⟩
  have key : ∀ y : Int32, y.toInt = z → y = nI z.toNat := fun y hy => Int32.toInt_inj.mp (by rw [hy, nI_toInt (by omega)]; omega)
  unfold fX11_within
  by_cases c1 : nI lo ≤ x
  · rw [if_pos c1]
    rw [Int32.le_iff_toInt_le, al] at c1
    by_cases c2 : x ≤ nI hi
    · rw [if_pos c2]
      rw [Int32.le_iff_toInt_le, ah] at c2
      rw [← key x (by omega)]
    · rw [if_neg c2]
      rw [Int32.le_iff_toInt_le, ah] at c2
      rw [← key (nI hi) (by omega)]
  · rw [if_neg c1]
    rw [Int32.le_iff_toInt_le, al] at c1
    rw [← key (nI lo) (by omega)]
theorem fl_1 {f g : Nat → Int32} {i : Nat} {v : Int32} (h : ∀ j, f j = if j < i then v else g j) (j : Nat) : upd f i v j = if j < i + 1 then v else g j := by
  by_cases c : j = i
  · rw [c, up_s, if_pos (by omega)]
  · rw [up_n c, h j]
    by_cases c2 : j < i
    · rw [if_pos c2, if_pos (by omega)]
    · rw [if_neg c2, if_neg (by omega)]
theorem i_627 {N : Nat} (hN : 140000 ≤ N) {u : q_St} : ∀ (k i m : Nat) (w : q_St), i + k = 3072 → k < m → (∀ j, q_a w 14 j = if j < i then -1 else q_a u 14 j) → (∀ j, q_a w 28 j = if j < i then -1 else q_a u 28 j) → Fr [] [14, 28] [] u w → ∃ w2, q_lp (fX11_init_b627 N) (fun _ _ => none) m (nI i) w = some ((), w2) ∧ (∀ j, q_a w2 14 j = if j < 3072 then -1 else q_a u 14 j) ∧ (∀ j, q_a w2 28 j = if j < 3072 then -1 else q_a u 28 j) ∧ Fr [] [14, 28] [] u w2 := by
  intro k
  induction k with
  | zero =>
    intro i m w h1 h2 h h' f
    have : i = 3072 := by omega
    subst this
    exact ⟨w, by rw [lp_1 _ _ (by omega), fX11_init_b627, if_pos (by decide)], h, h', f⟩
  | succ k ih =>
    intro i m w h1 h2 h h' f
    obtain ⟨w2, z1, z2, z3, z4⟩ := ih (i + 1) (m - 1) (q_sa (q_sa w 14 (upd (q_a w 14) i (-1))) 28 (upd (q_a (q_sa w 14 (upd (q_a w 14) i (-1))) 28) i (-1))) (by omega) (by omega) (fun j => by
      rw [qa_ne (by decide), qa_eq]
      exact fl_1 h j) (fun j => by
      rw [qa_eq, qa_ne (by decide)]
      exact fl_1 h' j) ((f.trans (fr_sa1 w (by decide))).trans (fr_sa1 _ (by decide)))
    refine ⟨w2, ?_, z2, z3, z4⟩
    rw [lp_1 _ _ (by omega), fX11_init_b627, if_neg (show ¬ (3072 : Int32) ≤ nI i from nI_ge (b := 3072) (by omega) (by omega)), qw_n (by omega) (by omega), cl_n (by omega), qw_n (by omega) (by omega), qn_s, nI_1]
    exact z1
theorem i_595 {N : Nat} (hN : 140000 ≤ N) {u : q_St} : ∀ (k i m : Nat) (w : q_St), i + k = 68352 → k < m → (∀ j, q_a w 9 j = if j < i then -1 else q_a u 9 j) → (∀ j, q_a w 23 j = if j < i then -1 else q_a u 23 j) → Fr [] [9, 23] [] u w → ∃ w2, q_lp (fX11_init_b595 N) (fun _ _ => none) m (nI i) w = q_lp (fX11_init_b627 N) (fun _ _ => none) N 0 w2 ∧ (∀ j, q_a w2 9 j = if j < 68352 then -1 else q_a u 9 j) ∧ (∀ j, q_a w2 23 j = if j < 68352 then -1 else q_a u 23 j) ∧ Fr [] [9, 23] [] u w2 := by
  intro k
  induction k with
  | zero =>
    intro i m w h1 h2 h h' f
    have : i = 68352 := by omega
    subst this
    exact ⟨w, by rw [lp_1 _ _ (by omega), fX11_init_b595, if_pos (by decide)], h, h', f⟩
  | succ k ih =>
    intro i m w h1 h2 h h' f
    obtain ⟨w2, z1, z2, z3, z4⟩ := ih (i + 1) (m - 1) (q_sa (q_sa w 9 (upd (q_a w 9) i (-1))) 23 (upd (q_a (q_sa w 9 (upd (q_a w 9) i (-1))) 23) i (-1))) (by omega) (by omega) (fun j => by
      rw [qa_ne (by decide), qa_eq]
      exact fl_1 h j) (fun j => by
      rw [qa_eq, qa_ne (by decide)]
      exact fl_1 h' j) ((f.trans (fr_sa1 w (by decide))).trans (fr_sa1 _ (by decide)))
    refine ⟨w2, ?_, z2, z3, z4⟩
    rw [lp_1 _ _ (by omega), fX11_init_b595, if_neg (show ¬ (68352 : Int32) ≤ nI i from nI_ge (b := 68352) (by omega) (by omega)), qw_n (by omega) (by omega), cl_n (by omega), qw_n (by omega) (by omega), qn_s, nI_1]
    exact z1
theorem i_562 {N : Nat} (hN : 140000 ≤ N) {u : q_St} : ∀ (k i m : Nat) (w : q_St), i + k = 2176 → k < m → (∀ j, q_a w 10 j = if j < i then -1 else q_a u 10 j) → (∀ j, q_a w 24 j = if j < i then -1 else q_a u 24 j) → Fr [] [10, 24] [] u w → ∃ w2, q_lp (fX11_init_b562 N) (fun _ _ => none) m (nI i) w = q_lp (fX11_init_b595 N) (fun _ _ => none) N 0 w2 ∧ (∀ j, q_a w2 10 j = if j < 2176 then -1 else q_a u 10 j) ∧ (∀ j, q_a w2 24 j = if j < 2176 then -1 else q_a u 24 j) ∧ Fr [] [10, 24] [] u w2 := by
  intro k
  induction k with
  | zero =>
    intro i m w h1 h2 h h' f
    have : i = 2176 := by omega
    subst this
    exact ⟨w, by rw [lp_1 _ _ (by omega), fX11_init_b562, if_pos (by decide)], h, h', f⟩
  | succ k ih =>
    intro i m w h1 h2 h h' f
    obtain ⟨w2, z1, z2, z3, z4⟩ := ih (i + 1) (m - 1) (q_sa (q_sa w 10 (upd (q_a w 10) i (-1))) 24 (upd (q_a (q_sa w 10 (upd (q_a w 10) i (-1))) 24) i (-1))) (by omega) (by omega) (fun j => by
      rw [qa_ne (by decide), qa_eq]
      exact fl_1 h j) (fun j => by
      rw [qa_eq, qa_ne (by decide)]
      exact fl_1 h' j) ((f.trans (fr_sa1 w (by decide))).trans (fr_sa1 _ (by decide)))
    refine ⟨w2, ?_, z2, z3, z4⟩
    rw [lp_1 _ _ (by omega), fX11_init_b562, if_neg (show ¬ (2176 : Int32) ≤ nI i from nI_ge (b := 2176) (by omega) (by omega)), qw_n (by omega) (by omega), cl_n (by omega), qw_n (by omega) (by omega), qn_s, nI_1]
    exact z1
/-- the SECTORS of the map and of the NODES are used; the root -/
def rtU (w : q_St) : q_St := q_sa (q_sa (q_sa (q_sa w 5 (upd (q_a w 5) 0 2)) 19 (upd (q_a w 19) 0 2)) 12 (upd (q_a w 12) 0 63)) 26 (upd (q_a w 26) 0 63)
theorem i_498 {N fb : Nat} (hN : 140000 ≤ N) (hf : fb ≤ 2048) {u : q_St} (h6 : q_i u 6 = nI fb) : ∀ (k i m : Nat) (w : q_St), i + k = fb → k < m → (∀ j, q_a w 17 j = if j < i then 1 else q_a u 17 j) → (∀ j, q_a w 31 j = if j < i then 1 else q_a u 31 j) → Fr [] [17, 31] [] u w → ∃ w2, q_lp (fX11_init_b498 N) (fun _ _ => none) m (nI i) w = q_lp (fX11_init_b562 N) (fun _ _ => none) N 0 (rtU w2) ∧ (∀ j, q_a w2 17 j = if j < fb then 1 else q_a u 17 j) ∧ (∀ j, q_a w2 31 j = if j < fb then 1 else q_a u 31 j) ∧ Fr [] [17, 31] [] u w2 := by
  intro k
  induction k with
  | zero =>
    intro i m w h1 h2 h h' f
    have : i = fb := by omega
    subst this
    have hz : ∀ (σ : q_St) (K : q_St → Option (Unit × q_St)), q_wa 64 0 σ K = K σ := fun σ K => qw_n (i := 0) (by decide) (by decide)
    refine ⟨w, ?_, h, h', f⟩
    rw [lp_1 _ _ (by omega), fX11_init_b498, f.1 6 (by decide), h6, if_pos (nI_le (by omega) (by omega)), hz, hz, hz, hz]
    rfl
  | succ k ih =>
    intro i m w h1 h2 h h' f
    obtain ⟨w2, z1, z2, z3, z4⟩ := ih (i + 1) (m - 1) (q_sa (q_sa w 17 (upd (q_a w 17) i 1)) 31 (upd (q_a (q_sa w 17 (upd (q_a w 17) i 1)) 31) i 1)) (by omega) (by omega) (fun j => by
      rw [qa_ne (by decide), qa_eq]
      exact fl_1 h j) (fun j => by
      rw [qa_eq, qa_ne (by decide)]
      exact fl_1 h' j) ((f.trans (fr_sa1 w (by decide))).trans (fr_sa1 _ (by decide)))
    refine ⟨w2, ?_, z2, z3, z4⟩
    rw [lp_1 _ _ (by omega), fX11_init_b498, f.1 6 (by decide), h6, if_neg (nI_ge (by omega) (by omega)), show vp_nar .boolean 1 = (1 : Int32) from by decide, qw_n (by omega) (by omega), cl_n (by omega), qw_n (by omega) (by omega), qn_s, nI_1]
    exact z1
theorem i_473 {N : Nat} (hN : 140000 ≤ N) {u : q_St} : ∀ (k i m : Nat) (w : q_St), i + k = 2048 → k < m → (∀ j, q_a w 3 j = if j < i then -1 else q_a u 3 j) → Fr [] [3] [] u w → ∃ w2, q_lp (fX11_init_b473 N) (fun _ _ => none) m (nI i) w = q_lp (fX11_init_b498 N) (fun _ _ => none) N 0 w2 ∧ (∀ j, q_a w2 3 j = if j < 2048 then -1 else q_a u 3 j) ∧ Fr [] [3] [] u w2 := by
  intro k
  induction k with
  | zero =>
    intro i m w h1 h2 h f
    have : i = 2048 := by omega
    subst this
    exact ⟨w, by rw [lp_1 _ _ (by omega), fX11_init_b473, if_pos (by decide)], h, f⟩
  | succ k ih =>
    intro i m w h1 h2 h f
    obtain ⟨w2, z1, z2, z3⟩ := ih (i + 1) (m - 1) (q_sa w 3 (upd (q_a w 3) i (-1))) (by omega) (by omega) (fun j => by
      rw [qa_eq]
      exact fl_1 h j) (f.trans (fr_sa1 w (by decide)))
    refine ⟨w2, ?_, z2, z3⟩
    rw [lp_1 _ _ (by omega), fX11_init_b473, if_neg (show ¬ (2048 : Int32) ≤ nI i from nI_ge (b := 2048) (by omega) (by omega)), qw_n (by omega) (by omega), cl_n (by omega), qn_s, nI_1]
    exact z1
/-- the reference at the start -/
def iM (B T S C W Ls fb : Nat) (u : q_St) : Prop := (q_i u 0 = nI B ∧ q_i u 1 = nI T ∧ q_i u 2 = nI S ∧ q_i u 3 = nI C ∧ q_i u 4 = nI W ∧ q_i u 5 = nI Ls ∧ q_i u 6 = nI fb ∧ q_i u 7 = nI 80 ∧ q_i u 8 = nI (fb - 64)) ∧ (∀ k, 9 ≤ k → q_i u k = q_i um_0 k) ∧ (∀ j, q_a u 3 j = if j < 2048 then -1 else 0) ∧ (∀ j, q_a u 17 j = (if j < fb then 1 else 0) ∧ q_a u 31 j = (if j < fb then 1 else 0)) ∧ (∀ j, q_a u 5 j = (if j = 0 then 2 else 0) ∧ q_a u 19 j = (if j = 0 then 2 else 0)) ∧ (∀ j, q_a u 12 j = (if j = 0 then 63 else 0) ∧ q_a u 26 j = (if j = 0 then 63 else 0)) ∧ (∀ j, q_a u 10 j = (if j < 2176 then -1 else 0) ∧ q_a u 24 j = (if j < 2176 then -1 else 0)) ∧ (∀ j, q_a u 9 j = (if j < 68352 then -1 else 0) ∧ q_a u 23 j = (if j < 68352 then -1 else 0)) ∧ (∀ j, q_a u 14 j = (if j < 3072 then -1 else 0) ∧ q_a u 28 j = (if j < 3072 then -1 else 0)) ∧ (∀ k, k ∉ [3, 5, 9, 10, 12, 14, 17, 19, 23, 24, 26, 28, 31] → ∀ j, q_a u k j = 0) ∧ ∀ k j, q_j u k j = 0
theorem up_0 {f : Nat → Int32} {v : Int32} (h : ∀ j, f j = 0) (j : Nat) : upd f 0 v j = if j = 0 then v else 0 := by
  by_cases c : j = 0
  · rw [c, up_s, if_pos rfl]
  · rw [up_n c, if_neg c, h j]
theorem m_init {B T S C : Nat} {N : Nat} {x1 x2 x3 x4 : Int32} (hN : 140000 ≤ N) (hB : B ≤ 8) (hT : 8 ≤ T ∧ T ≤ 32) (w1 : ∀ u, fX11_within N x1 4 8 u = some (nI B, u)) (w2 : ∀ u, fX11_within N x2 8 32 u = some (nI T, u)) (w3 : ∀ u, fX11_within N x3 1 4 u = some (nI S, u)) (w4 : ∀ u, fX11_within N x4 64 256 u = some (nI C, u)) :
    ∃ um1, fX11_init N x1 x2 x3 x4 um_0 = some ((), um1) ∧ iM B T S C (8 * T) (B * (8 * T)) (80 + (B * (8 * T) + 511) / 512 + 64) um1 := by
  have hl : B * (8 * T) ≤ 8 * (8 * T) := Nat.mul_le_mul_right _ hB
  obtain ⟨u16, hu16⟩ : ∃ q, q = q_si (q_si (q_si (q_si um_0 0 (nI B)) 1 (nI T)) 2 (nI S)) 3 (nI C) := ⟨_, rfl⟩
  obtain ⟨u, hu⟩ : ∃ q, q = q_si (q_si (q_si (q_si (q_si u16 4 (nI (8 * T))) 5 (nI (B * (8 * T)))) 7 80) 8 (nI (80 + (B * (8 * T) + 511) / 512))) 6 (nI (80 + (B * (8 * T) + 511) / 512 + 64)) := ⟨_, rfl⟩
  have e4 : (8 : Int32) * nI T = nI (8 * T) := pk_mul 8 T
  have e5 : nI (8 * T) * nI B = nI (B * (8 * T)) := by rw [pk_mul, Nat.mul_comm]
  have e8 : (80 : Int32) + (nI (B * (8 * T)) + 511) / 512 = nI (80 + (B * (8 * T) + 511) / 512) := by
    rw [show (511 : Int32) = nI 511 from rfl, nI_add, show (512 : Int32) = nI 512 from rfl, pk_div (by omega) (by decide) (by decide), show (80 : Int32) = nI 80 from rfl, nI_add]
  have e6 : nI (80 + (B * (8 * T) + 511) / 512) + 64 = nI (80 + (B * (8 * T) + 511) / 512 + 64) := nI_add _ 64
  have st : fX11_init N x1 x2 x3 x4 um_0 = q_lp (fX11_init_b473 N) (fun _ _ => none) N 0 u := by
    unfold fX11_init
    rw [w1, qb_s, qn_s, w2, qb_s, qn_s, w3, qb_s, qn_s, w4, qb_s, qn_s, ← hu16, qn_s, show q_i u16 1 = nI T from by rw [hu16]; rfl, e4, qn_s, show q_i (q_si u16 4 (nI (8 * T))) 0 = nI B from by rw [hu16]; rfl, qi_eq, e5, qn_s, qn_s, show q_i (q_si (q_si (q_si u16 4 (nI (8 * T))) 5 (nI (B * (8 * T)))) 7 80) 5 = nI (B * (8 * T)) from rfl, e8, qn_s, qi_eq, e6, ← hu]
  have ua : ∀ k j, q_a u k j = 0 := fun k j => by rw [hu, hu16]; rfl
  have uj : ∀ k j, q_j u k j = 0 := fun k j => by rw [hu, hu16]; rfl
  obtain ⟨a1, p1, p2, p3⟩ := i_473 hN (u := u) 2048 0 N u (by omega) (by omega) (fun j => by rw [if_neg (Nat.not_lt_zero _)]) (Fr.rf _ _ _ _)
  have a16 : q_i a1 6 = nI (80 + (B * (8 * T) + 511) / 512 + 64) := by rw [p3.1 6 (by decide), hu, qi_eq]
  obtain ⟨a2, r1, r2, r3, r4⟩ := i_498 hN (fb := 80 + (B * (8 * T) + 511) / 512 + 64) (by omega) a16 _ 0 N a1 (Nat.zero_add _) (by omega) (fun j => by rw [if_neg (Nat.not_lt_zero _)]) (fun j => by rw [if_neg (Nat.not_lt_zero _)]) (Fr.rf _ _ _ _)
  obtain ⟨a3, s1, s2, s3, s4⟩ := i_562 hN (u := rtU a2) 2176 0 N (rtU a2) (by omega) (by omega) (fun j => by rw [if_neg (Nat.not_lt_zero _)]) (fun j => by rw [if_neg (Nat.not_lt_zero _)]) (Fr.rf _ _ _ _)
  obtain ⟨a4, t1, t2, t3, t4⟩ := i_595 hN (u := a3) 68352 0 N a3 (by omega) (by omega) (fun j => by rw [if_neg (Nat.not_lt_zero _)]) (fun j => by rw [if_neg (Nat.not_lt_zero _)]) (Fr.rf _ _ _ _)
  obtain ⟨a5, v1, v2, v3, v4⟩ := i_627 hN (u := a4) 3072 0 N a4 (by omega) (by omega) (fun j => by rw [if_neg (Nat.not_lt_zero _)]) (fun j => by rw [if_neg (Nat.not_lt_zero _)]) (Fr.rf _ _ _ _)
  refine ⟨a5, ?_, ?_⟩
  · rw [st]
    exact p1.trans (r1.trans (s1.trans (t1.trans v1)))
  · have fR : Fr [] [5, 12, 19, 26] [] a2 (rtU a2) := by
      unfold rtU
      exact (((fr_sa1 a2 (by decide)).trans (fr_sa1 _ (by decide))).trans (fr_sa1 _ (by decide))).trans (fr_sa1 _ (by decide))
    have f : Fr [] [3, 5, 9, 10, 12, 14, 17, 19, 23, 24, 26, 28, 31] [] u a5 := (((((p3.mono (by decide) (by decide) (by decide)).trans (r4.mono (by decide) (by decide) (by decide))).trans (fR.mono (by decide) (by decide) (by decide))).trans (s4.mono (by decide) (by decide) (by decide))).trans (t4.mono (by decide) (by decide) (by decide))).trans (v4.mono (by decide) (by decide) (by decide))
    have fi : ∀ k, q_i a5 k = q_i u k := fun k => f.1 k (by simp)
    have z5 : ∀ j, q_a a2 5 j = 0 := fun j => by rw [r4.2.1 5 (by decide), p3.2.1 5 (by decide)]; exact ua 5 j
    have z19 : ∀ j, q_a a2 19 j = 0 := fun j => by rw [r4.2.1 19 (by decide), p3.2.1 19 (by decide)]; exact ua 19 j
    have z12 : ∀ j, q_a a2 12 j = 0 := fun j => by rw [r4.2.1 12 (by decide), p3.2.1 12 (by decide)]; exact ua 12 j
    have z26 : ∀ j, q_a a2 26 j = 0 := fun j => by rw [r4.2.1 26 (by decide), p3.2.1 26 (by decide)]; exact ua 26 j
    have up : ∀ k, k ≠ 9 → k ≠ 23 → k ≠ 10 → k ≠ 24 → k ≠ 14 → k ≠ 28 → q_a a5 k = q_a (rtU a2) k := fun k h1 h2 h3 h4 h5 h6 => by
      rw [v4.2.1 k (by simp only [List.mem_cons, List.not_mem_nil, or_false]; omega), t4.2.1 k (by simp only [List.mem_cons, List.not_mem_nil, or_false]; omega), s4.2.1 k (by simp only [List.mem_cons, List.not_mem_nil, or_false]; omega)]
    have u2 : ∀ k, (k = 9 ∨ k = 23 ∨ k = 10 ∨ k = 24 ∨ k = 14 ∨ k = 28) → ∀ j, q_a (rtU a2) k j = 0 := fun k hk j => by
      rw [fR.2.1 k (by simp only [List.mem_cons, List.not_mem_nil, or_false]; omega), r4.2.1 k (by simp only [List.mem_cons, List.not_mem_nil, or_false]; omega), p3.2.1 k (by simp only [List.mem_cons, List.not_mem_nil, or_false]; omega)]
      exact ua k j
    refine ⟨⟨?_, ?_, ?_, ?_, ?_, ?_, ?_, ?_, ?_⟩, fun k hk => ?_, fun j => ?_, fun j => ⟨?_, ?_⟩, fun j => ⟨?_, ?_⟩, fun j => ⟨?_, ?_⟩, fun j => ⟨?_, ?_⟩, fun j => ⟨?_, ?_⟩, fun j => ⟨?_, ?_⟩, fun k hk j => ?_, fun k j => ?_⟩
    · rw [fi, hu, hu16]; rfl
    · rw [fi, hu, hu16]; rfl
    · rw [fi, hu, hu16]; rfl
    · rw [fi, hu, hu16]; rfl
    · rw [fi, hu, hu16]; rfl
    · rw [fi, hu, hu16]; rfl
    · rw [fi, hu, hu16]; rfl
    · rw [fi, hu, hu16]; rfl
    · rw [fi, hu, Nat.add_sub_cancel, hu16]; rfl
    · rw [fi, hu, qi_ne (by omega), qi_ne (by omega), qi_ne (by omega), qi_ne (by omega), qi_ne (by omega), hu16, qi_ne (by omega), qi_ne (by omega), qi_ne (by omega), qi_ne (by omega)]
    · rw [up 3 (by decide) (by decide) (by decide) (by decide) (by decide) (by decide), fR.2.1 3 (by decide), r4.2.1 3 (by decide), p2 j, ua]
    · rw [up 17 (by decide) (by decide) (by decide) (by decide) (by decide) (by decide), fR.2.1 17 (by decide), r2 j, p3.2.1 17 (by decide), ua]
    · rw [up 31 (by decide) (by decide) (by decide) (by decide) (by decide) (by decide), fR.2.1 31 (by decide), r3 j, p3.2.1 31 (by decide), ua]
    · rw [up 5 (by decide) (by decide) (by decide) (by decide) (by decide) (by decide)]
      exact up_0 z5 j
    · rw [up 19 (by decide) (by decide) (by decide) (by decide) (by decide) (by decide)]
      exact up_0 z19 j
    · rw [up 12 (by decide) (by decide) (by decide) (by decide) (by decide) (by decide)]
      exact up_0 z12 j
    · rw [up 26 (by decide) (by decide) (by decide) (by decide) (by decide) (by decide)]
      exact up_0 z26 j
    · rw [v4.2.1 10 (by decide), t4.2.1 10 (by decide), s2 j, u2 10 (by decide)]
    · rw [v4.2.1 24 (by decide), t4.2.1 24 (by decide), s3 j, u2 24 (by decide)]
    · rw [v4.2.1 9 (by decide), t2 j, s4.2.1 9 (by decide), u2 9 (by decide)]
    · rw [v4.2.1 23 (by decide), t3 j, s4.2.1 23 (by decide), u2 23 (by decide)]
    · rw [v2 j, t4.2.1 14 (by decide), s4.2.1 14 (by decide), u2 14 (by decide)]
    · rw [v3 j, t4.2.1 28 (by decide), s4.2.1 28 (by decide), u2 28 (by decide)]
    · rw [f.2.1 k hk]
      exact ua k j
    · rw [f.2.2 k (by simp)]
      exact uj k j
