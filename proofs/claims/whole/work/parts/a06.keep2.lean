/-! ===== KEEP and FORGET of the reference, all of it ===== -/
theorem m_keepB {N x : Nat} {ih : Int32 → q_St → Option (Unit × q_St)} (hx : x < 2048) : ∀ (k i n : Nat) (u : q_St), i + k = 64 → k < n → q_lp (fX11_keep_b271 N ih) (fun _ _ _ => none) n (nI x) (nI (64 * x + i)) u = ih (nI (x + 1)) (q_sa u 32 (fun j => if (64 * x + i ≤ j ∧ j < 64 * x + 64) ∧ ¬ q_a u 33 x = 0 then vp_nar .byte (q_a u 18 j) else q_a u 32 j)) := by
  intro k
  induction k with
  | zero =>
    intro i n u h1 h2
    rw [lp_1 _ _ (by omega), fX11_keep_b271, show (64 : Int32) * nI x = nI (64 * x) from pk_mul 64 x, show nI (64 * x) + (64 : Int32) = nI (64 * x + 64) from nI_add _ 64, if_pos (nI_le (by omega) (by omega))]
    unfold fX11_keep_b309
    rw [qn_s, nI_1]
    congr 1
    have : (fun j => if (64 * x + i ≤ j ∧ j < 64 * x + 64) ∧ ¬ q_a u 33 x = 0 then vp_nar .byte (q_a u 18 j) else q_a u 32 j) = q_a u 32 := by
      funext j
      rw [if_neg (by omega)]
    rw [this, sa_self]
  | succ k ihk =>
    intro i n u h1 h2
    rw [lp_1 _ _ (by omega), fX11_keep_b271, show (64 : Int32) * nI x = nI (64 * x) from pk_mul 64 x, show nI (64 * x) + (64 : Int32) = nI (64 * x + 64) from nI_add _ 64, if_neg (nI_ge (by omega) (by omega)), qr_n (by omega) (by omega)]
    by_cases c0 : q_a u 33 x = 0
    · rw [if_pos c0]
      unfold fX11_keep_b309
      rw [qn_s, nI_1]
      congr 1
      have : (fun j => if (64 * x + i ≤ j ∧ j < 64 * x + 64) ∧ ¬ q_a u 33 x = 0 then vp_nar .byte (q_a u 18 j) else q_a u 32 j) = q_a u 32 := by
        funext j
        rw [if_neg (fun z => z.2 c0)]
      rw [this, sa_self]
    · rw [if_neg c0, qr_n (by omega) (by omega), qw_n (by omega) (by omega), cl_n (by omega), qn_s, nI_1, show 64 * x + i + 1 = 64 * x + (i + 1) by omega, ihk (i + 1) (n - 1) _ (by omega) (by omega), sa_sa]
      congr 2
      funext j
      rw [qa_ne (by decide), qa_ne (by decide), qa_eq]
      by_cases c : j = 64 * x + i
      · rw [c, if_neg (by omega), if_pos ⟨by omega, c0⟩, up_s]
      · by_cases c2 : (64 * x + (i + 1) ≤ j ∧ j < 64 * x + 64)
        · rw [if_pos ⟨c2, c0⟩, if_pos ⟨by omega, c0⟩]
        · rw [if_neg (fun z => c2 z.1), if_neg (by omega), up_n c]
theorem m_keepL {N Ls : Nat} (hN : 3000 ≤ N) (hl : Ls ≤ 2048) : ∀ (k x n : Nat) (u : q_St), x + k = Ls → k < n → q_i u 5 = nI Ls → ∃ v, q_lp (fX11_keep_b246 N) (fun _ _ => none) n (nI x) u = some ((), v) ∧ (∀ k, q_i v k = q_i u k) ∧ (∀ k, q_j v k = q_j u k) ∧ (∀ k, k ≠ 31 → k ≠ 32 → q_a v k = q_a u k) ∧ (∀ j, q_a v 31 j = if x ≤ j ∧ j < Ls then vp_nar .boolean (q_a u 17 j) else q_a u 31 j) ∧ (∀ j, q_a v 32 j = if (64 * x ≤ j ∧ j < 64 * Ls) ∧ ¬ q_a u 33 (j / 64) = 0 then vp_nar .byte (q_a u 18 j) else q_a u 32 j) := by
  intro k
  induction k with
  | zero =>
    intro x n u h1 h2 h5
    refine ⟨u, ?_, fun _ => rfl, fun _ => rfl, fun _ _ _ => rfl, fun j => by rw [if_neg (by omega)], fun j => by rw [if_neg (by omega)]⟩
    rw [lp_1 _ _ (by omega), fX11_keep_b246, h5, if_pos (nI_le (by omega) (by omega))]
  | succ k ih =>
    intro x n u h1 h2 h5
    have hB := m_keepB (N := N) (x := x) (ih := q_lp (fX11_keep_b246 N) (fun _ _ => none) (n - 1)) (by omega) 64 0 N (q_sa u 31 (upd (q_a u 31) x (vp_nar .boolean (q_a u 17 x)))) (by omega) (by omega)
    obtain ⟨v, f1, f2, f3, f4, f5, f6⟩ := ih (x + 1) (n - 1) (q_sa (q_sa u 31 (upd (q_a u 31) x (vp_nar .boolean (q_a u 17 x)))) 32 (fun j => if (64 * x + 0 ≤ j ∧ j < 64 * x + 64) ∧ ¬ q_a u 33 x = 0 then vp_nar .byte (q_a u 18 j) else q_a u 32 j)) (by omega) (by omega) h5
    refine ⟨v, ?_, f2, f3, fun k q1 q2 => ?_, fun j => ?_, fun j => ?_⟩
    · rw [lp_1 _ _ (by omega), fX11_keep_b246, h5, if_neg (nI_ge (by omega) (by omega)), qr_n (by omega) (by omega), qw_n (by omega) (by omega), cl_n (by omega), show (64 : Int32) * nI x = nI (64 * x) from pk_mul 64 x, qn_s]
      exact hB.trans f1
    · rw [f4 k q1 q2, qa_ne q2, qa_ne q1]
    · rw [f5, qa_ne (by decide), qa_ne (by decide), qa_ne (by decide), qa_eq]
      by_cases c : j = x
      · rw [c, if_neg (by omega), up_s, if_pos (by omega)]
      · by_cases c2 : x + 1 ≤ j ∧ j < Ls
        · rw [if_pos c2, if_pos (by omega)]
        · rw [if_neg c2, if_neg (by omega), up_n c]
    · rw [f6, qa_ne (by decide), qa_ne (by decide), qa_ne (by decide), qa_ne (by decide), qa_eq]
      by_cases c : 64 * (x + 1) ≤ j ∧ j < 64 * Ls
      · by_cases c3 : ¬ q_a u 33 (j / 64) = 0
        · rw [if_pos ⟨c, c3⟩, if_pos ⟨by omega, c3⟩]
        · rw [if_neg (fun z => c3 z.2), if_neg (by omega), if_neg (fun z => c3 z.2)]
      · rw [if_neg (fun z => c z.1)]
        by_cases c4 : 64 * x ≤ j ∧ j < 64 * x + 64
        · have e : j / 64 = x := by omega
          rw [e]
          by_cases c3 : ¬ q_a u 33 x = 0
          · rw [if_pos ⟨by omega, c3⟩, if_pos ⟨by omega, c3⟩]
          · rw [if_neg (fun z => c3 z.2), if_neg (fun z => c3 z.2)]
        · rw [if_neg (by omega), if_neg (by omega)]
/-- the rows of a tree are those of another one -/
def rEq (Ls : Nat) (a b : Nat → Nat → Int32) (na nb : Nat → Int64) : Prop := (∀ k ∈ s7, ∀ j, j < 64 → a k j = b k j) ∧ (∀ j, j < 2176 → a 10 j = b 10 j) ∧ (∀ j, j < 68352 → a 9 j = b 9 j) ∧ (∀ j, j < 2560 → a 16 j = vp_nar .byte (b 16 j)) ∧ (∀ j, j < 768 → a 13 j = b 13 j) ∧ (∀ j, j < 3072 → a 14 j = b 14 j ∧ na j = nb j) ∧ (∀ j, j < Ls → a 17 j = vp_nar .boolean (b 17 j))
theorem m_keep {N Ls : Nat} {u : q_St} (hN : 140000 ≤ N) (hl : Ls ≤ 2048) (h5 : q_i u 5 = nI Ls) : ∃ v, fX11_keep N u = some ((), v) ∧ (∀ k, q_i v k = q_i u k) ∧ q_j v 0 = q_j u 0 ∧ (∀ k, (k < 19 ∨ 32 < k) → q_a v k = q_a u k) ∧ rEq Ls (fun k => q_a v (k + 14)) (q_a u) (q_j v 1) (q_j u 0) ∧ (∀ j, j < 64 * Ls → q_a v 32 j = if ¬ q_a u 33 (j / 64) = 0 then vp_nar .byte (q_a u 18 j) else q_a u 32 j) := by
  obtain ⟨u1, e1, i1, j1, k1, r1⟩ := m_keep7 (N := N) 64 0 N u (by omega) (by omega)
  have e2 := cp_loop (LIM := 2176) (s := 10) (t := 24) (nar := id) (body := fX11_keep_b100 N) (NEXT := fun u => q_lp (fX11_keep_b127 N) (fun _ _ => none) N 0 u) (by decide) (by decide) (fun _ _ _ => rfl) 2176 0 N u1 (by omega) (by omega)
  obtain ⟨u2, hu2⟩ : ∃ q, q = (q_sa u1 24 (fun j => if 0 ≤ j ∧ j < 2176 then id (q_a u1 10 j) else q_a u1 24 j)) := ⟨_, rfl⟩
  have e3 := cp_loop (LIM := 68352) (s := 9) (t := 23) (nar := id) (body := fX11_keep_b127 N) (NEXT := fun u => q_lp (fX11_keep_b153 N) (fun _ _ => none) N 0 u) (by decide) (by decide) (fun _ _ _ => rfl) 68352 0 N u2 (by omega) (by omega)
  obtain ⟨u3, hu3⟩ : ∃ q, q = (q_sa u2 23 (fun j => if 0 ≤ j ∧ j < 68352 then id (q_a u2 9 j) else q_a u2 23 j)) := ⟨_, rfl⟩
  have e4 := cp_loop (LIM := 2560) (s := 16) (t := 30) (nar := vp_nar .byte) (body := fX11_keep_b153 N) (NEXT := fun u => q_lp (fX11_keep_b180 N) (fun _ _ => none) N 0 u) (by decide) (by decide) (fun _ _ _ => rfl) 2560 0 N u3 (by omega) (by omega)
  obtain ⟨u4, hu4⟩ : ∃ q, q = (q_sa u3 30 (fun j => if 0 ≤ j ∧ j < 2560 then vp_nar .byte (q_a u3 16 j) else q_a u3 30 j)) := ⟨_, rfl⟩
  have e5 := cp_loop (LIM := 768) (s := 13) (t := 27) (nar := id) (body := fX11_keep_b180 N) (NEXT := fun u => q_lp (fX11_keep_b207 N) (fun _ _ => none) N 0 u) (by decide) (by decide) (fun _ _ _ => rfl) 768 0 N u4 (by omega) (by omega)
  obtain ⟨u5, hu5⟩ : ∃ q, q = (q_sa u4 27 (fun j => if 0 ≤ j ∧ j < 768 then id (q_a u4 13 j) else q_a u4 27 j)) := ⟨_, rfl⟩
  have e6 := m_slots (N := N) (s := 14) (t := 28) (js := 0) (jt := 1) (body := fX11_keep_b207 N) (NEXT := fun u => q_lp (fX11_keep_b246 N) (fun _ _ => none) N 0 u) (by decide) (by decide) (fun _ _ _ => rfl) 3072 0 N u5 (by omega) (by omega)
  obtain ⟨u6, hu6⟩ : ∃ q, q = (q_sj (q_sa u5 28 (fun j => if 0 ≤ j ∧ j < 3072 then q_a u5 14 j else q_a u5 28 j)) 1 (fun j => if 0 ≤ j ∧ j < 3072 then q_j u5 0 j else q_j u5 1 j)) := ⟨_, rfl⟩
  have i6 : ∀ k, q_i u6 k = q_i u k := fun k => by rw [hu6, hu5, hu4, hu3, hu2]; exact i1 k
  obtain ⟨v, e7, i7, j7, k7', r7, b7⟩ := m_keepL (N := N) (Ls := Ls) (by omega) hl Ls 0 N u6 (by omega) (by omega) ((i6 5).trans h5)
  rw [← hu2] at e2
  rw [← hu3] at e3
  rw [← hu4] at e4
  rw [← hu5] at e5
  rw [← hu6] at e6
  have A : ∀ k, (k < 19 ∨ 32 < k ∨ k = 31 ∨ k = 32) → q_a u6 k = q_a u k := by
    intro k hk
    rw [hu6, qa_sj, qa_ne (by omega), hu5, qa_ne (by omega), hu4, qa_ne (by omega), hu3, qa_ne (by omega), hu2, qa_ne (by omega)]
    exact k1 k (fun m hm => by
      simp only [List.mem_cons, List.not_mem_nil, or_false] at hm
      omega)
  have k1' : ∀ k, (k < 19 ∨ 32 < k ∨ k = 31 ∨ k = 32) → q_a u1 k = q_a u k := fun k hk => k1 k (fun m hm => by
      simp only [List.mem_cons, List.not_mem_nil, or_false] at hm
      omega)
  refine ⟨v, ?_, fun k => (i7 k).trans (i6 k), ?_, fun k hk => (k7' k (by omega) (by omega)).trans (A k (by omega)), ⟨?_, ?_, ?_, ?_, ?_, ?_, ?_⟩, ?_⟩
  · unfold fX11_keep
    exact e1.trans (e2.trans (e3.trans (e4.trans (e5.trans (e6.trans e7)))))
  · rw [j7, hu6, qj_ne (by decide), hu5, hu4, hu3, hu2]
    exact j1 0
  · intro k hk j hj
    have hk' := hk
    simp only [List.mem_cons, List.not_mem_nil, or_false] at hk'
    show q_a v (k + 14) j = q_a u k j
    rw [k7' _ (by omega) (by omega), hu6, qa_sj, qa_ne (by omega), hu5, qa_ne (by omega), hu4, qa_ne (by omega), hu3, qa_ne (by omega), hu2, qa_ne (by omega), r1 k hk j, if_pos (by omega)]
  · intro j hj
    show q_a v 24 j = q_a u 10 j
    rw [k7' _ (by decide) (by decide), hu6, qa_sj, qa_ne (by decide), hu5, qa_ne (by decide), hu4, qa_ne (by decide), hu3, qa_ne (by decide), hu2, qa_eq, if_pos (by omega), k1' 10 (by omega)]
    rfl
  · intro j hj
    show q_a v 23 j = q_a u 9 j
    rw [k7' _ (by decide) (by decide), hu6, qa_sj, qa_ne (by decide), hu5, qa_ne (by decide), hu4, qa_ne (by decide), hu3, qa_eq, if_pos (by omega), hu2, qa_ne (by decide), k1' 9 (by omega)]
    rfl
  · intro j hj
    show q_a v 30 j = vp_nar .byte (q_a u 16 j)
    rw [k7' _ (by decide) (by decide), hu6, qa_sj, qa_ne (by decide), hu5, qa_ne (by decide), hu4, qa_eq, if_pos (by omega), hu3, qa_ne (by decide), hu2, qa_ne (by decide), k1' 16 (by omega)]
  · intro j hj
    show q_a v 27 j = q_a u 13 j
    rw [k7' _ (by decide) (by decide), hu6, qa_sj, qa_ne (by decide), hu5, qa_eq, if_pos (by omega), hu4, qa_ne (by decide), hu3, qa_ne (by decide), hu2, qa_ne (by decide), k1' 13 (by omega)]
    rfl
  · intro j hj
    constructor
    · show q_a v 28 j = q_a u 14 j
      rw [k7' _ (by decide) (by decide), hu6, qa_sj, qa_eq, if_pos (by omega), hu5, qa_ne (by decide), hu4, qa_ne (by decide), hu3, qa_ne (by decide), hu2, qa_ne (by decide), k1' 14 (by omega)]
    · rw [j7, hu6, qj_eq, if_pos (by omega), hu5, hu4, hu3, hu2]
      show q_j u1 0 j = q_j u 0 j
      rw [j1]
  · intro j hj
    show q_a v 31 j = vp_nar .boolean (q_a u 17 j)
    rw [r7, if_pos (by omega), A 17 (by omega)]
  · intro j hj
    rw [b7, A 33 (by omega), A 18 (by omega), A 32 (by omega)]
    by_cases c : q_a u 33 (j / 64) = 0
    · rw [if_neg (fun z => z.2 c), if_neg (fun z => z c)]
    · rw [if_pos ⟨by omega, c⟩, if_pos c]
theorem m_forgetL {N Ls : Nat} (hl : Ls ≤ 2048) : ∀ (k x n : Nat) (u : q_St), x + k = Ls → k < n → q_i u 5 = nI Ls → ∃ v, q_lp (fX11_forget_b246 N) (fun _ _ => none) n (nI x) u = q_lp (fX11_forget_b281 N) (fun _ _ => none) N 0 v ∧ (∀ k, q_i v k = q_i u k) ∧ (∀ k, q_j v k = q_j u k) ∧ (∀ k, k ≠ 17 → k ≠ 33 → q_a v k = q_a u k) ∧ (∀ j, q_a v 17 j = if x ≤ j ∧ j < Ls then vp_nar .boolean (q_a u 31 j) else q_a u 17 j) ∧ (∀ j, q_a v 33 j = if x ≤ j ∧ j < Ls then 0 else q_a u 33 j) := by
  intro k
  induction k with
  | zero =>
    intro x n u h1 h2 h5
    refine ⟨u, ?_, fun _ => rfl, fun _ => rfl, fun _ _ _ => rfl, fun j => by rw [if_neg (by omega)], fun j => by rw [if_neg (by omega)]⟩
    rw [lp_1 _ _ (by omega), fX11_forget_b246, h5, if_pos (nI_le (by omega) (by omega))]
  | succ k ih =>
    intro x n u h1 h2 h5
    obtain ⟨v, f1, f2, f3, f4, f5, f6⟩ := ih (x + 1) (n - 1) (q_sa (q_sa u 17 (upd (q_a u 17) x (vp_nar .boolean (q_a u 31 x)))) 33 (upd (q_a u 33) x 0)) (by omega) (by omega) h5
    refine ⟨v, ?_, f2, f3, fun k q1 q2 => ?_, fun j => ?_, fun j => ?_⟩
    · rw [lp_1 _ _ (by omega), fX11_forget_b246, h5, if_neg (nI_ge (by omega) (by omega)), qr_n (by omega) (by omega), qw_n (by omega) (by omega), qw_n (by omega) (by omega), cl_n (by omega), nar_0, qn_s, nI_1]
      exact f1
    · rw [f4 k q1 q2, qa_ne q2, qa_ne q1]
    · rw [f5, qa_ne (by decide), qa_ne (by decide), qa_ne (by decide), qa_eq]
      by_cases c : j = x
      · rw [c, if_neg (by omega), up_s, if_pos (by omega)]
      · by_cases c2 : x + 1 ≤ j ∧ j < Ls
        · rw [if_pos c2, if_pos (by omega)]
        · rw [if_neg c2, if_neg (by omega), up_n c]
    · rw [f6, qa_eq]
      by_cases c : j = x
      · rw [c, if_neg (by omega), up_s, if_pos (by omega)]
      · by_cases c2 : x + 1 ≤ j ∧ j < Ls
        · rw [if_pos c2, if_pos (by omega)]
        · rw [if_neg c2, if_neg (by omega), up_n c]
theorem m_forgetB {N Ls : Nat} (hl : Ls ≤ 2048) : ∀ (k i n : Nat) (u : q_St), i + k = 64 * Ls → k < n → q_i u 5 = nI Ls → q_lp (fX11_forget_b281 N) (fun _ _ => none) n (nI i) u = some ((), q_si (q_sa u 18 (fun j => if i ≤ j ∧ j < 64 * Ls then vp_nar .byte (q_a u 32 j) else q_a u 18 j)) 25 0) := by
  intro k
  induction k with
  | zero =>
    intro i n u h1 h2 h5
    rw [lp_1 _ _ (by omega), fX11_forget_b281, h5, show (64 : Int32) * nI Ls = nI (64 * Ls) from pk_mul 64 Ls, if_pos (nI_le (by omega) (by omega)), qn_s]
    have : (fun j => if i ≤ j ∧ j < 64 * Ls then vp_nar .byte (q_a u 32 j) else q_a u 18 j) = q_a u 18 := by
      funext j
      rw [if_neg (by omega)]
    rw [this, sa_self]
  | succ k ih =>
    intro i n u h1 h2 h5
    rw [lp_1 _ _ (by omega), fX11_forget_b281, h5, show (64 : Int32) * nI Ls = nI (64 * Ls) from pk_mul 64 Ls, if_neg (nI_ge (by omega) (by omega)), qr_n (by omega) (by omega), qw_n (by omega) (by omega), cl_n (by omega), qn_s, nI_1, ih (i + 1) (n - 1) (q_sa u 18 (upd (q_a u 18) i (vp_nar .byte (q_a u 32 i)))) (by omega) (by omega) h5, sa_sa]
    congr 4
    funext j
    rw [qa_ne (by decide), qa_eq]
    by_cases c : j = i
    · rw [c, if_neg (by omega), if_pos (by omega), up_s]
    · by_cases c2 : i + 1 ≤ j ∧ j < 64 * Ls
      · rw [if_pos c2, if_pos (by omega)]
      · rw [if_neg c2, if_neg (by omega), up_n c]
theorem m_forget {N Ls : Nat} {u : q_St} (hN : 140000 ≤ N) (hl : Ls ≤ 2048) (h5 : q_i u 5 = nI Ls) : ∃ v, fX11_forget N u = some ((), v) ∧ (∀ k, k ≠ 25 → q_i v k = q_i u k) ∧ q_i v 25 = 0 ∧ q_j v 1 = q_j u 1 ∧ (∀ k, (k < 5 ∨ 18 < k) → k ≠ 33 → q_a v k = q_a u k) ∧ (∀ j, j < Ls → q_a v 33 j = 0) ∧ rEq Ls (q_a v) (fun k => q_a u (k + 14)) (q_j v 0) (q_j u 1) ∧ (∀ j, j < 64 * Ls → q_a v 18 j = vp_nar .byte (q_a u 32 j)) := by
  obtain ⟨u1, e1, i1, j1, k1, r1⟩ := m_forget7 (N := N) 64 0 N u (by omega) (by omega)
  have e2 := cp_loop (LIM := 2176) (s := 24) (t := 10) (nar := id) (body := fX11_forget_b100 N) (NEXT := fun u => q_lp (fX11_forget_b127 N) (fun _ _ => none) N 0 u) (by decide) (by decide) (fun _ _ _ => rfl) 2176 0 N u1 (by omega) (by omega)
  obtain ⟨u2, hu2⟩ : ∃ q, q = (q_sa u1 10 (fun j => if 0 ≤ j ∧ j < 2176 then id (q_a u1 24 j) else q_a u1 10 j)) := ⟨_, rfl⟩
  have e3 := cp_loop (LIM := 68352) (s := 23) (t := 9) (nar := id) (body := fX11_forget_b127 N) (NEXT := fun u => q_lp (fX11_forget_b153 N) (fun _ _ => none) N 0 u) (by decide) (by decide) (fun _ _ _ => rfl) 68352 0 N u2 (by omega) (by omega)
  obtain ⟨u3, hu3⟩ : ∃ q, q = (q_sa u2 9 (fun j => if 0 ≤ j ∧ j < 68352 then id (q_a u2 23 j) else q_a u2 9 j)) := ⟨_, rfl⟩
  have e4 := cp_loop (LIM := 2560) (s := 30) (t := 16) (nar := vp_nar .byte) (body := fX11_forget_b153 N) (NEXT := fun u => q_lp (fX11_forget_b180 N) (fun _ _ => none) N 0 u) (by decide) (by decide) (fun _ _ _ => rfl) 2560 0 N u3 (by omega) (by omega)
  obtain ⟨u4, hu4⟩ : ∃ q, q = (q_sa u3 16 (fun j => if 0 ≤ j ∧ j < 2560 then vp_nar .byte (q_a u3 30 j) else q_a u3 16 j)) := ⟨_, rfl⟩
  have e5 := cp_loop (LIM := 768) (s := 27) (t := 13) (nar := id) (body := fX11_forget_b180 N) (NEXT := fun u => q_lp (fX11_forget_b207 N) (fun _ _ => none) N 0 u) (by decide) (by decide) (fun _ _ _ => rfl) 768 0 N u4 (by omega) (by omega)
  obtain ⟨u5, hu5⟩ : ∃ q, q = (q_sa u4 13 (fun j => if 0 ≤ j ∧ j < 768 then id (q_a u4 27 j) else q_a u4 13 j)) := ⟨_, rfl⟩
  have e6 := m_slots (N := N) (s := 28) (t := 14) (js := 1) (jt := 0) (body := fX11_forget_b207 N) (NEXT := fun u => q_lp (fX11_forget_b246 N) (fun _ _ => none) N 0 u) (by decide) (by decide) (fun _ _ _ => rfl) 3072 0 N u5 (by omega) (by omega)
  obtain ⟨u6, hu6⟩ : ∃ q, q = (q_sj (q_sa u5 14 (fun j => if 0 ≤ j ∧ j < 3072 then q_a u5 28 j else q_a u5 14 j)) 0 (fun j => if 0 ≤ j ∧ j < 3072 then q_j u5 1 j else q_j u5 0 j)) := ⟨_, rfl⟩
  have i6 : ∀ k, q_i u6 k = q_i u k := fun k => by rw [hu6, hu5, hu4, hu3, hu2]; exact i1 k
  obtain ⟨u7, e7, i7, j7, k7', r7, d7⟩ := m_forgetL (N := N) (Ls := Ls) hl Ls 0 N u6 (by omega) (by omega) ((i6 5).trans h5)
  have e8 := m_forgetB (N := N) (Ls := Ls) hl (64 * Ls) 0 N u7 (by omega) (by omega) (((i7 5).trans (i6 5)).trans h5)
  rw [← hu2] at e2
  rw [← hu3] at e3
  rw [← hu4] at e4
  rw [← hu5] at e5
  rw [← hu6] at e6
  have A : ∀ k, (k < 5 ∨ 16 < k) → q_a u6 k = q_a u k := by
    intro k hk
    rw [hu6, qa_sj, qa_ne (by omega), hu5, qa_ne (by omega), hu4, qa_ne (by omega), hu3, qa_ne (by omega), hu2, qa_ne (by omega)]
    exact k1 k (fun m hm => by
      simp only [List.mem_cons, List.not_mem_nil, or_false] at hm
      omega)
  have k1' : ∀ k, (k < 5 ∨ 16 < k) → q_a u1 k = q_a u k := fun k hk => k1 k (fun m hm => by
      simp only [List.mem_cons, List.not_mem_nil, or_false] at hm
      omega)
  refine ⟨q_si (q_sa u7 18 (fun j => if 0 ≤ j ∧ j < 64 * Ls then vp_nar .byte (q_a u7 32 j) else q_a u7 18 j)) 25 0, ?_, fun k hk => ?_, rfl, ?_, fun k hk h33 => ?_, fun j hj => ?_, ⟨?_, ?_, ?_, ?_, ?_, ?_, ?_⟩, ?_⟩
  · unfold fX11_forget
    exact e1.trans (e2.trans (e3.trans (e4.trans (e5.trans (e6.trans (e7.trans e8))))))
  · rw [qi_ne hk, qi_sa]
    exact (i7 k).trans (i6 k)
  · show q_j u7 1 = q_j u 1
    rw [j7, hu6, qj_ne (by decide), hu5, hu4, hu3, hu2]
    exact j1 1
  · rw [qa_si, qa_ne (by omega), k7' k (by omega) h33, A k (by omega)]
  · rw [qa_si, qa_ne (by decide), d7, if_pos (by omega)]
  · intro k hk j hj
    have hk' := hk
    simp only [List.mem_cons, List.not_mem_nil, or_false] at hk'
    show q_a (q_si (q_sa u7 18 _) 25 0) k j = q_a u (k + 14) j
    rw [qa_si, qa_ne (by omega), k7' _ (by omega) (by omega), hu6, qa_sj, qa_ne (by omega), hu5, qa_ne (by omega), hu4, qa_ne (by omega), hu3, qa_ne (by omega), hu2, qa_ne (by omega), r1 k hk j, if_pos (by omega)]
  · intro j hj
    show q_a (q_si (q_sa u7 18 _) 25 0) 10 j = q_a u 24 j
    rw [qa_si, qa_ne (by decide), k7' _ (by decide) (by decide), hu6, qa_sj, qa_ne (by decide), hu5, qa_ne (by decide), hu4, qa_ne (by decide), hu3, qa_ne (by decide), hu2, qa_eq, if_pos (by omega), k1' 24 (by omega)]
    rfl
  · intro j hj
    show q_a (q_si (q_sa u7 18 _) 25 0) 9 j = q_a u 23 j
    rw [qa_si, qa_ne (by decide), k7' _ (by decide) (by decide), hu6, qa_sj, qa_ne (by decide), hu5, qa_ne (by decide), hu4, qa_ne (by decide), hu3, qa_eq, if_pos (by omega), hu2, qa_ne (by decide), k1' 23 (by omega)]
    rfl
  · intro j hj
    show q_a (q_si (q_sa u7 18 _) 25 0) 16 j = vp_nar .byte (q_a u 30 j)
    rw [qa_si, qa_ne (by decide), k7' _ (by decide) (by decide), hu6, qa_sj, qa_ne (by decide), hu5, qa_ne (by decide), hu4, qa_eq, if_pos (by omega), hu3, qa_ne (by decide), hu2, qa_ne (by decide), k1' 30 (by omega)]
  · intro j hj
    show q_a (q_si (q_sa u7 18 _) 25 0) 13 j = q_a u 27 j
    rw [qa_si, qa_ne (by decide), k7' _ (by decide) (by decide), hu6, qa_sj, qa_ne (by decide), hu5, qa_eq, if_pos (by omega), hu4, qa_ne (by decide), hu3, qa_ne (by decide), hu2, qa_ne (by decide), k1' 27 (by omega)]
    rfl
  · intro j hj
    constructor
    · show q_a (q_si (q_sa u7 18 _) 25 0) 14 j = q_a u 28 j
      rw [qa_si, qa_ne (by decide), k7' _ (by decide) (by decide), hu6, qa_sj, qa_eq, if_pos (by omega), hu5, qa_ne (by decide), hu4, qa_ne (by decide), hu3, qa_ne (by decide), hu2, qa_ne (by decide), k1' 28 (by omega)]
    · show q_j u7 0 j = q_j u 1 j
      rw [j7, hu6, qj_eq, if_pos (by omega), hu5, hu4, hu3, hu2]
      show q_j u1 1 j = q_j u 1 j
      rw [j1]
  · intro j hj
    show q_a (q_si (q_sa u7 18 _) 25 0) 17 j = vp_nar .boolean (q_a u 31 j)
    rw [qa_si, qa_ne (by decide), r7, if_pos (by omega), A 31 (by omega)]
  · intro j hj
    show (fun j => if 0 ≤ j ∧ j < 64 * Ls then vp_nar .byte (q_a u7 32 j) else q_a u7 18 j) j = vp_nar .byte (q_a u 32 j)
    dsimp only
    rw [if_pos (by omega), k7' 32 (by decide) (by decide), A 32 (by omega)]
