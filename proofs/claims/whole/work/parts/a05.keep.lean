/-! ===== the reference KEEPS its tree, and goes back to it ===== -/
theorem cp_loop {LIM s t : Nat} {nar : Int32 → Int32} {body : (Int32 → q_St → Option (Unit × q_St)) → Int32 → q_St → Option (Unit × q_St)} {NEXT : q_St → Option (Unit × q_St)} (hst : s ≠ t) (hL : LIM < 2 ^ 31) (hb : ∀ ih x u, body ih x u = (if nI LIM ≤ x then NEXT u else (q_rd LIM (q_a u s) x (fun v => (q_wa LIM x (q_sa u t (upd (q_a u t) (Int32.toNatClampNeg x) (nar v))) (fun u2 => (q_nm (x + 1) (fun v2 => (ih v2 u2))))))))) : ∀ (k i n : Nat) (u : q_St), i + k = LIM → k < n → q_lp body (fun _ _ => none) n (nI i) u = NEXT (q_sa u t (fun j => if i ≤ j ∧ j < LIM then nar (q_a u s j) else q_a u t j)) := by
  intro k
  induction k with
  | zero =>
    intro i n u h1 h2
    rw [lp_1 _ _ (by omega), hb, if_pos (nI_le (by omega) (by omega))]
    congr 1
    have : (fun j => if i ≤ j ∧ j < LIM then nar (q_a u s j) else q_a u t j) = q_a u t := by
      funext j
      rw [if_neg (by omega)]
    rw [this, sa_self]
  | succ k ih =>
    intro i n u h1 h2
    rw [lp_1 _ _ (by omega), hb, if_neg (nI_ge (by omega) (by omega)), qr_n (by omega) (by omega), qw_n (by omega) (by omega), cl_n (by omega), qn_s, nI_1, ih (i + 1) (n - 1) _ (by omega) (by omega), sa_sa]
    congr 2
    funext j
    rw [qa_ne hst, qa_eq]
    by_cases c : j = i
    · rw [c, if_neg (by omega), if_pos (by omega), up_s]
    · by_cases c2 : i + 1 ≤ j ∧ j < LIM
      · rw [if_pos c2, if_pos (by omega)]
      · rw [if_neg c2, if_neg (by omega), up_n c]
/-- seven rows of the NODES at once -/
def k7 (u : q_St) (d e i : Nat) : q_St :=
  let u1 := q_sa u (5 + d) (upd (q_a u (5 + d)) i (q_a u (5 + e) i))
  let u2 := q_sa u1 (6 + d) (upd (q_a u1 (6 + d)) i (q_a u1 (6 + e) i))
  let u3 := q_sa u2 (7 + d) (upd (q_a u2 (7 + d)) i (q_a u2 (7 + e) i))
  let u4 := q_sa u3 (8 + d) (upd (q_a u3 (8 + d)) i (q_a u3 (8 + e) i))
  let u5 := q_sa u4 (11 + d) (upd (q_a u4 (11 + d)) i (q_a u4 (11 + e) i))
  let u6 := q_sa u5 (12 + d) (upd (q_a u5 (12 + d)) i (q_a u5 (12 + e) i))
  q_sa u6 (15 + d) (upd (q_a u6 (15 + d)) i (q_a u6 (15 + e) i))
abbrev s7 : List Nat := [5, 6, 7, 8, 11, 12, 15]
theorem k7_keep (u : q_St) (i : Nat) : (∀ k ∈ s7, q_a (k7 u 14 0 i) (k + 14) = upd (q_a u (k + 14)) i (q_a u k i)) ∧ (∀ k, (∀ m ∈ s7, k ≠ m + 14) → q_a (k7 u 14 0 i) k = q_a u k) := by
  constructor
  · intro k hk
    simp only [List.mem_cons, List.not_mem_nil, or_false] at hk
    rcases hk with rfl | rfl | rfl | rfl | rfl | rfl | rfl <;> rfl
  · intro k hk
    have h1 := hk 5 (by decide)
    have h2 := hk 6 (by decide)
    have h3 := hk 7 (by decide)
    have h4 := hk 8 (by decide)
    have h5 := hk 11 (by decide)
    have h6 := hk 12 (by decide)
    have h7 := hk 15 (by decide)
    unfold k7
    rw [qa_ne h7, qa_ne h6, qa_ne h5, qa_ne h4, qa_ne h3, qa_ne h2, qa_ne h1]
theorem k7_back (u : q_St) (i : Nat) : (∀ k ∈ s7, q_a (k7 u 0 14 i) k = upd (q_a u k) i (q_a u (k + 14) i)) ∧ (∀ k, (∀ m ∈ s7, k ≠ m) → q_a (k7 u 0 14 i) k = q_a u k) := by
  constructor
  · intro k hk
    simp only [List.mem_cons, List.not_mem_nil, or_false] at hk
    rcases hk with rfl | rfl | rfl | rfl | rfl | rfl | rfl <;> rfl
  · intro k hk
    have h1 := hk 5 (by decide)
    have h2 := hk 6 (by decide)
    have h3 := hk 7 (by decide)
    have h4 := hk 8 (by decide)
    have h5 := hk 11 (by decide)
    have h6 := hk 12 (by decide)
    have h7 := hk 15 (by decide)
    unfold k7
    rw [qa_ne (show k ≠ 15 + 0 from h7), qa_ne (show k ≠ 12 + 0 from h6), qa_ne (show k ≠ 11 + 0 from h5), qa_ne (show k ≠ 8 + 0 from h4), qa_ne (show k ≠ 7 + 0 from h3), qa_ne (show k ≠ 6 + 0 from h2), qa_ne (show k ≠ 5 + 0 from h1)]
theorem k7_ij (u : q_St) (d e i : Nat) : (∀ k, q_i (k7 u d e i) k = q_i u k) ∧ (∀ k, q_j (k7 u d e i) k = q_j u k) := ⟨fun _ => rfl, fun _ => rfl⟩
theorem m_keep7 {N : Nat} : ∀ (k i n : Nat) (u : q_St), i + k = 64 → k < n → ∃ v, q_lp (fX11_keep_b2 N) (fun _ _ => none) n (nI i) u = q_lp (fX11_keep_b100 N) (fun _ _ => none) N 0 v ∧ (∀ k, q_i v k = q_i u k) ∧ (∀ k, q_j v k = q_j u k) ∧ (∀ k, (∀ m ∈ s7, k ≠ m + 14) → q_a v k = q_a u k) ∧ (∀ k ∈ s7, ∀ j, q_a v (k + 14) j = if i ≤ j ∧ j < 64 then q_a u k j else q_a u (k + 14) j) := by
  intro k
  induction k with
  | zero =>
    intro i n u h1 h2
    refine ⟨u, ?_, fun _ => rfl, fun _ => rfl, fun _ _ => rfl, fun k hk j => by rw [if_neg (by omega)]⟩
    rw [lp_1 _ _ (by omega), fX11_keep_b2, if_pos (show (64 : Int32) ≤ nI i from nI_le (a := 64) (by omega) (by omega))]
  | succ k ih =>
    intro i n u h1 h2
    obtain ⟨v, f1, f2, f3, f4, f5⟩ := ih (i + 1) (n - 1) (k7 u 14 0 i) (by omega) (by omega)
    obtain ⟨g1, g2⟩ := k7_keep u i
    refine ⟨v, ?_, f2, f3, fun k hk => (f4 k hk).trans (g2 k hk), fun k hk j => ?_⟩
    · rw [lp_1 _ _ (by omega), fX11_keep_b2, if_neg (show ¬ (64 : Int32) ≤ nI i from nI_ge (a := i) (b := 64) (by omega) (by omega))]
      rw [qr_n (by omega) (by omega), qw_n (by omega) (by omega), qr_n (by omega) (by omega), qw_n (by omega) (by omega), qr_n (by omega) (by omega), qw_n (by omega) (by omega), qr_n (by omega) (by omega), qw_n (by omega) (by omega), qr_n (by omega) (by omega), qw_n (by omega) (by omega), qr_n (by omega) (by omega), qw_n (by omega) (by omega), qr_n (by omega) (by omega), qw_n (by omega) (by omega), qn_s, nI_1, cl_n (by omega)]
      exact f1
    · rw [f5 k hk, g1 k hk]
      have hk2 : q_a (k7 u 14 0 i) k = q_a u k := g2 k (by
        simp only [List.mem_cons, List.not_mem_nil, or_false] at hk
        intro m hm
        simp only [List.mem_cons, List.not_mem_nil, or_false] at hm
        omega)
      rw [hk2]
      by_cases c : j = i
      · rw [c, if_neg (by omega), up_s, if_pos (by omega)]
      · by_cases c2 : i + 1 ≤ j ∧ j < 64
        · rw [if_pos c2, if_pos (by omega)]
        · rw [if_neg c2, if_neg (by omega), up_n c]
theorem m_forget7 {N : Nat} : ∀ (k i n : Nat) (u : q_St), i + k = 64 → k < n → ∃ v, q_lp (fX11_forget_b2 N) (fun _ _ => none) n (nI i) u = q_lp (fX11_forget_b100 N) (fun _ _ => none) N 0 v ∧ (∀ k, q_i v k = q_i u k) ∧ (∀ k, q_j v k = q_j u k) ∧ (∀ k, (∀ m ∈ s7, k ≠ m) → q_a v k = q_a u k) ∧ (∀ k ∈ s7, ∀ j, q_a v k j = if i ≤ j ∧ j < 64 then q_a u (k + 14) j else q_a u k j) := by
  intro k
  induction k with
  | zero =>
    intro i n u h1 h2
    refine ⟨u, ?_, fun _ => rfl, fun _ => rfl, fun _ _ => rfl, fun k hk j => by rw [if_neg (by omega)]⟩
    rw [lp_1 _ _ (by omega), fX11_forget_b2, if_pos (show (64 : Int32) ≤ nI i from nI_le (a := 64) (by omega) (by omega))]
  | succ k ih =>
    intro i n u h1 h2
    obtain ⟨v, f1, f2, f3, f4, f5⟩ := ih (i + 1) (n - 1) (k7 u 0 14 i) (by omega) (by omega)
    obtain ⟨g1, g2⟩ := k7_back u i
    refine ⟨v, ?_, f2, f3, fun k hk => (f4 k hk).trans (g2 k hk), fun k hk j => ?_⟩
    · rw [lp_1 _ _ (by omega), fX11_forget_b2, if_neg (show ¬ (64 : Int32) ≤ nI i from nI_ge (a := i) (b := 64) (by omega) (by omega))]
      rw [qr_n (by omega) (by omega), qw_n (by omega) (by omega), qr_n (by omega) (by omega), qw_n (by omega) (by omega), qr_n (by omega) (by omega), qw_n (by omega) (by omega), qr_n (by omega) (by omega), qw_n (by omega) (by omega), qr_n (by omega) (by omega), qw_n (by omega) (by omega), qr_n (by omega) (by omega), qw_n (by omega) (by omega), qr_n (by omega) (by omega), qw_n (by omega) (by omega), qn_s, nI_1, cl_n (by omega)]
      exact f1
    · rw [f5 k hk, g1 k hk]
      have hk2 : q_a (k7 u 0 14 i) (k + 14) = q_a u (k + 14) := g2 (k + 14) (by
        simp only [List.mem_cons, List.not_mem_nil, or_false] at hk
        intro m hm
        simp only [List.mem_cons, List.not_mem_nil, or_false] at hm
        omega)
      rw [hk2]
      by_cases c : j = i
      · rw [c, if_neg (by omega), up_s, if_pos (by omega)]
      · by_cases c2 : i + 1 ≤ j ∧ j < 64
        · rw [if_pos c2, if_pos (by omega)]
        · rw [if_neg c2, if_neg (by omega), up_n c]
/-- the SLOTS -/
theorem m_slots {N s t js jt : Nat} {body : (Int32 → q_St → Option (Unit × q_St)) → Int32 → q_St → Option (Unit × q_St)} {NEXT : q_St → Option (Unit × q_St)} (hst : s ≠ t) (hj : js ≠ jt) (hb : ∀ ih x u, body ih x u = (if 3072 ≤ x then NEXT u else (q_rd 3072 (q_a u s) x (fun v9 => (q_wa 3072 x (q_sa u t (upd (q_a u t) (Int32.toNatClampNeg x) v9)) (fun u10 => (q_rd 3072 (q_j u10 js) x (fun v11 => (q_wa 3072 x (q_sj u10 jt (vp_updL (q_j u10 jt) (Int32.toNatClampNeg x) v11)) (fun u12 => (q_nm (x + 1) (fun v13 => (ih v13 u12)))))))))))))  : ∀ (k i n : Nat) (u : q_St), i + k = 3072 → k < n → q_lp body (fun _ _ => none) n (nI i) u = NEXT (q_sj (q_sa u t (fun j => if i ≤ j ∧ j < 3072 then q_a u s j else q_a u t j)) jt (fun j => if i ≤ j ∧ j < 3072 then q_j u js j else q_j u jt j)) := by
  intro k
  induction k with
  | zero =>
    intro i n u h1 h2
    rw [lp_1 _ _ (by omega), hb, if_pos (show (3072 : Int32) ≤ nI i from nI_le (a := 3072) (by omega) (by omega))]
    congr 1
    have e1 : (fun j => if i ≤ j ∧ j < 3072 then q_a u s j else q_a u t j) = q_a u t := by
      funext j
      rw [if_neg (by omega)]
    have e2 : (fun j => if i ≤ j ∧ j < 3072 then q_j u js j else q_j u jt j) = q_j u jt := by
      funext j
      rw [if_neg (by omega)]
    rw [e1, e2, sa_self]
    unfold q_sj q_j
    refine Prod.ext rfl (Prod.ext rfl (funext fun j => ?_))
    show u.2.2 j = (if j = jt then u.2.2 jt else u.2.2 j)
    split
    · rename_i e; rw [e]
    · rfl
  | succ k ih =>
    intro i n u h1 h2
    rw [lp_1 _ _ (by omega), hb, if_neg (show ¬ (3072 : Int32) ≤ nI i from nI_ge (a := i) (b := 3072) (by omega) (by omega)), qr_n (by omega) (by omega), qw_n (by omega) (by omega), qr_n (by omega) (by omega), qw_n (by omega) (by omega), cl_n (by omega), qn_s, nI_1, ih (i + 1) (n - 1) _ (by omega) (by omega)]
    have e1 : ∀ (v : q_St) (f : Nat → Int32) (h f2 : Nat → Int64) (f3 : Nat → Int32), q_sj (q_sa (q_sj (q_sa v t f) jt h) t f3) jt f2 = q_sj (q_sa v t f3) jt f2 := by
      intro v f h f2 f3
      unfold q_sj q_sa
      refine Prod.ext rfl (Prod.ext (funext fun j => ?_) (funext fun j => ?_))
      · show (if j = t then f3 else if j = t then f else v.2.1 j) = if j = t then f3 else v.2.1 j
        split <;> rfl
      · show (if j = jt then f2 else if j = jt then h else v.2.2 j) = if j = jt then f2 else v.2.2 j
        split <;> rfl
    rw [e1]
    congr 2
    · congr 1
      funext j
      rw [qa_sj, qa_ne hst, qa_sj, qa_eq]
      by_cases c : j = i
      · rw [c, if_neg (by omega), if_pos (by omega), up_s]
      · by_cases c2 : i + 1 ≤ j ∧ j < 3072
        · rw [if_pos c2, if_pos (by omega)]
        · rw [if_neg c2, if_neg (by omega), up_n c]
    · funext j
      rw [qj_ne hj, qj_eq, qj_sa]
      by_cases c : j = i
      · rw [c, if_neg (by omega), if_pos (by omega), upL_s]
      · by_cases c2 : i + 1 ≤ j ∧ j < 3072
        · rw [if_pos c2, if_pos (by omega)]
        · rw [if_neg c2, if_neg (by omega), upL_n c]; rfl
