/-! ===== how many SECTORS put wants, in both ===== -/
def msR (A : Nat → Nat → Nat) (W n p1 p2 r : Nat) : Bool := decide (tl A W n r = 0) && ndB p1 p2 r
theorem ms_iff {A : Nat → Nat → Nat} {W n p1 p2 r : Nat} : msR A W n p1 p2 r = true ↔ tl A W n r = 0 ∧ ((p1 ≤ r ∧ r ≤ p2) ∨ (r = 1068 ∧ 12 ≤ p2 ∧ p1 < 44) ∨ (r = 1069 ∧ 44 ≤ p2) ∨ (1070 ≤ r ∧ r < 1102 ∧ 44 + 32 * (r - 1070) ≤ p2 ∧ p1 < 44 + 32 * (r - 1070) + 32)) := by
  unfold msR ndB
  simp only [Bool.and_eq_true, decide_eq_true_eq]
theorem cnt_eqv {P Q : Nat → Bool} {n : Nat} (h : ∀ r, P r = true ↔ Q r = true) : cnt P n = cnt Q n := cnt_congr (fun i _ => by rw [Bool.eq_iff_iff]; exact h i)
theorem x_wanted {B T S C W Ls na hb n at' len p1 p2 : Nat} {um : q_St} {D K : Nat → Nat → Int64} {dd : Nat → Bool} {A : Nat → Nat → Nat} {nm : Nat → Int64} {L : Nat → Nat} {N : Nat} {ux : q_St} (x : Xr B T S C W Ls na hb um D K dd A nm L ux) (hN : 3000 ≤ N) (hn : n < 64) (h1 : A 5 n = 1) (hp1 : p1 = at' / 64) (hp2 : p2 = (at' + len - 1) / 64) (hlen : 1 ≤ len) (hp : p2 < 1068) : fX0_blocksWanted L N (nI n) (nI at') (nI len) ux = some (nI (cnt (msR A W n p1 p2) 1102), ux) := by
  obtain ⟨⟨g, gl, hna⟩, s, rx, tw⟩ := id x
  have hl := g.l
  have mn := (rx.2.1 n hn).2.2.2.1 h1
  have e30 := x.na30.1
  have t68 : tl A W n 1068 = A 10 (34 * n) := by
    have := tl_i (W := W) h1 (show 0 < 34 by decide)
    exact this
  have t69 : tl A W n 1069 = A 10 (34 * n + 1) := tl_i (W := W) h1 (show 1 < 34 by decide)
  have hlt : ∀ r, tl A W n r < 2048 := by
    intro r
    by_cases z : tl A W n r = 0
    · omega
    · have := tw.2.2.1.2.1 n r hn z; omega
  -- the far INDEXES
  have b122 : ∀ (k i m acc : Nat) (P : Nat → Bool), i + k = 32 → k < m → cnt P 1102 = acc → (∀ r, P r = true ↔ msR A W n p1 p2 r = true ∧ (r < 1070 ∨ r < 1070 + i)) → q_lp (fX0_blocksWanted_b125 L N) (fun _ _ _ _ _ _ => none) m (nI n) (nI p1) (nI p2) (nI acc) (nI i) ux = some (nI (cnt (msR A W n p1 p2) 1102), ux) := by
    intro k
    induction k with
    | zero =>
      intro i m acc P q1 q2 q3 q5
      have : i = 32 := by omega
      subst this
      rw [lp_1 _ _ (by omega), fX0_blocksWanted_b125, if_pos (show (32 : Int32) ≤ nI 32 by decide), ← q3, cnt_eqv (fun r => (q5 r).trans ⟨fun z => z.1, fun z => ⟨z, ?_⟩⟩)]
      have := (ms_iff.mp z).2
      omega
    | succ k ih =>
      intro i m acc P q1 q2 q3 q5
      have Pi : P (1070 + i) = false := by
        cases hh : P (1070 + i) with
        | false => rfl
        | true => have := ((q5 _).mp hh).2; omega
      have skip : ¬ msR A W n p1 p2 (1070 + i) = true → fX0_blocksWanted_b172 L N (q_lp (fX0_blocksWanted_b125 L N) (fun _ _ _ _ _ _ => none) (m - 1)) (nI n) (nI p1) (nI p2) (nI acc) (nI i) ux = some (nI (cnt (msR A W n p1 p2) 1102), ux) := by
        intro hno
        unfold fX0_blocksWanted_b172
        rw [qn_s, nI_1]
        refine ih (i + 1) (m - 1) acc P (by omega) (by omega) q3 (fun r => ?_)
        rw [q5 r]
        constructor
        · rintro ⟨z1, z2⟩; exact ⟨z1, by omega⟩
        · rintro ⟨z1, z2⟩
          refine ⟨z1, ?_⟩
          by_cases c : r = 1070 + i
          · rw [c] at z1; exact absurd z1 hno
          · omega
      rw [lp_1 _ _ (by omega), fX0_blocksWanted_b125, if_neg (show ¬ (32 : Int32) ≤ nI i from nI_ge (b := 32) (by omega) (by omega)), show (32 : Int32) * nI i = nI (32 * i) from pk_mul 32 i, show (44 : Int32) + nI (32 * i) = nI (44 + 32 * i) from nI_add 44 _, qn_s]
      by_cases c1 : p2 < 44 + 32 * i
      · rw [if_pos (nI_lt c1 (by omega))]
        exact skip (fun z => by have := (ms_iff.mp z).2; omega)
      · rw [if_neg (nI_nlt (by omega) (by omega)), show nI (44 + 32 * i) + (32 : Int32) = nI (44 + 32 * i + 32) from nI_add _ 32]
        by_cases c2 : 44 + 32 * i + 32 ≤ p1
        · rw [if_pos (nI_le c2 (by omega))]
          exact skip (fun z => by have := (ms_iff.mp z).2; omega)
        · have et := tl_i (W := W) h1 (show 2 + i < 34 by omega)
          rw [show 1068 + (2 + i) = 1070 + i by omega] at et
          rw [if_neg (nI_ge (by omega) (by omega)), x_farIndex x hn h1 (by omega), qb_s, ← et]
          by_cases c3 : tl A W n (1070 + i) = 0
          · rw [c3, if_pos (show nI 0 = (0 : Int32) from rfl), qn_s, nI_1]
            unfold fX0_blocksWanted_b172
            rw [qn_s, nI_1]
            have hms : msR A W n p1 p2 (1070 + i) = true := ms_iff.mpr ⟨c3, by omega⟩
            refine ih (i + 1) (m - 1) (acc + 1) (setb P (1070 + i) true) (by omega) (by omega) (by rw [cnt_set (by omega) Pi, q3]) (fun r => ?_)
            rw [sbt, q5 r]
            constructor
            · rintro (z | ⟨z1, z2⟩)
              · rw [z]; exact ⟨hms, by omega⟩
              · exact ⟨z1, by omega⟩
            · rintro ⟨z1, z2⟩
              by_cases c : r = 1070 + i
              · exact Or.inl c
              · exact Or.inr ⟨z1, by omega⟩
          · rw [if_neg (nI_ne0 (by omega) (by have := hlt (1070 + i); omega))]
            exact skip (fun z => c3 (ms_iff.mp z).1)
  have b122' : ∀ (acc : Nat) (P : Nat → Bool), cnt P 1102 = acc → (∀ r, P r = true ↔ msR A W n p1 p2 r = true ∧ r < 1070) → fX0_blocksWanted_b122 L N (nI n) (nI p1) (nI p2) (nI acc) ux = some (nI (cnt (msR A W n p1 p2) 1102), ux) := by
    intro acc P q3 q5
    unfold fX0_blocksWanted_b122
    refine b122 32 0 N acc P (by omega) (by omega) q3 (fun r => ?_)
    rw [q5 r]
    constructor
    · rintro ⟨z1, z2⟩; exact ⟨z1, by omega⟩
    · rintro ⟨z1, z2⟩; exact ⟨z1, by omega⟩
  have b98 : ∀ (acc : Nat) (P : Nat → Bool), cnt P 1102 = acc → (∀ r, P r = true ↔ msR A W n p1 p2 r = true ∧ r < 1069) → fX0_blocksWanted_b98 L N (nI n) (nI (na + n)) (nI p1) (nI p2) (nI acc) ux = some (nI (cnt (msR A W n p1 p2) 1102), ux) := by
    intro acc P q3 q5
    have P69 : P 1069 = false := by
      cases hh : P 1069 with
      | false => rfl
      | true => have := ((q5 _).mp hh).2; omega
    have skip : ¬ msR A W n p1 p2 1069 = true → fX0_blocksWanted_b122 L N (nI n) (nI p1) (nI p2) (nI acc) ux = some (nI (cnt (msR A W n p1 p2) 1102), ux) := by
      intro hno
      refine b122' acc P q3 (fun r => ?_)
      rw [q5 r]
      constructor
      · rintro ⟨z1, z2⟩; exact ⟨z1, by omega⟩
      · rintro ⟨z1, z2⟩
        refine ⟨z1, ?_⟩
        by_cases c : r = 1069
        · rw [c] at z1; exact absurd z1 hno
        · omega
    unfold fX0_blocksWanted_b98
    by_cases c1 : p2 < 44
    · rw [if_pos (show nI p2 < 44 from nI_lt (b := 44) c1 (by decide))]
      exact skip (fun z => by have := (ms_iff.mp z).2; omega)
    · have hh := Xs_half (N := N) g gl s (y := na + n) (i := 17) (by omega) (by omega) (by decide)
      rw [mn.2.2, ← t69] at hh
      have hh : fX6_half L N (nI (na + n)) 17 ux = some (nI (tl A W n 1069), ux) := hh
      rw [if_neg (show ¬ nI p2 < 44 from nI_nlt (b := 44) (by omega) (by omega)), hh, qb_s]
      by_cases c3 : tl A W n 1069 = 0
      · rw [c3, if_pos (show nI 0 = (0 : Int32) from rfl), qn_s, nI_1]
        refine b122' (acc + 1) (setb P 1069 true) (by rw [cnt_set (by decide) P69, q3]) (fun r => ?_)
        rw [sbt, q5 r]
        constructor
        · rintro (z | ⟨z1, z2⟩)
          · rw [z]; exact ⟨ms_iff.mpr ⟨c3, by omega⟩, by decide⟩
          · exact ⟨z1, by omega⟩
        · rintro ⟨z1, z2⟩
          by_cases c : r = 1069
          · exact Or.inl c
          · exact Or.inr ⟨z1, by omega⟩
      · rw [if_neg (nI_ne0 (by omega) (by have := hlt 1069; omega))]
        exact skip (fun z => c3 (ms_iff.mp z).1)
  have b67 : ∀ (acc : Nat) (P : Nat → Bool), cnt P 1102 = acc → (∀ r, P r = true ↔ msR A W n p1 p2 r = true ∧ r < 1068) → fX0_blocksWanted_b67 L N (nI n) (nI (na + n)) (nI p1) (nI p2) (nI acc) ux = some (nI (cnt (msR A W n p1 p2) 1102), ux) := by
    intro acc P q3 q5
    have P68 : P 1068 = false := by
      cases hh : P 1068 with
      | false => rfl
      | true => have := ((q5 _).mp hh).2; omega
    have skip : ¬ msR A W n p1 p2 1068 = true → fX0_blocksWanted_b98 L N (nI n) (nI (na + n)) (nI p1) (nI p2) (nI acc) ux = some (nI (cnt (msR A W n p1 p2) 1102), ux) := by
      intro hno
      refine b98 acc P q3 (fun r => ?_)
      rw [q5 r]
      constructor
      · rintro ⟨z1, z2⟩; exact ⟨z1, by omega⟩
      · rintro ⟨z1, z2⟩
        refine ⟨z1, ?_⟩
        by_cases c : r = 1068
        · rw [c] at z1; exact absurd z1 hno
        · omega
    unfold fX0_blocksWanted_b67
    by_cases c1 : p2 < 12
    · rw [if_pos (show nI p2 < 12 from nI_lt (b := 12) c1 (by decide))]
      exact skip (fun z => by have := (ms_iff.mp z).2; omega)
    · rw [if_neg (show ¬ nI p2 < 12 from nI_nlt (b := 12) (by omega) (by omega))]
      by_cases c2 : 44 ≤ p1
      · rw [if_pos (show (44 : Int32) ≤ nI p1 from nI_le (a := 44) c2 (by omega))]
        exact skip (fun z => by have := (ms_iff.mp z).2; omega)
      · have hh := Xs_half (N := N) g gl s (y := na + n) (i := 16) (by omega) (by omega) (by decide)
        rw [mn.2.1, ← t68] at hh
        have hh : fX6_half L N (nI (na + n)) 16 ux = some (nI (tl A W n 1068), ux) := hh
        rw [if_neg (show ¬ (44 : Int32) ≤ nI p1 from nI_ge (b := 44) (by omega) (by decide)), hh, qb_s]
        by_cases c3 : tl A W n 1068 = 0
        · rw [c3, if_pos (show nI 0 = (0 : Int32) from rfl), qn_s, nI_1]
          refine b98 (acc + 1) (setb P 1068 true) (by rw [cnt_set (by decide) P68, q3]) (fun r => ?_)
          rw [sbt, q5 r]
          constructor
          · rintro (z | ⟨z1, z2⟩)
            · rw [z]; exact ⟨ms_iff.mpr ⟨c3, by omega⟩, by decide⟩
            · exact ⟨z1, by omega⟩
          · rintro ⟨z1, z2⟩
            by_cases c : r = 1068
            · exact Or.inl c
            · exact Or.inr ⟨z1, by omega⟩
        · rw [if_neg (nI_ne0 (by omega) (by have := hlt 1068; omega))]
          exact skip (fun z => c3 (ms_iff.mp z).1)
  have b33 : ∀ (k q m acc : Nat) (P : Nat → Bool), q + k = p2 + 1 → k < m → p1 ≤ q → cnt P 1102 = acc → (∀ r, P r = true ↔ msR A W n p1 p2 r = true ∧ r < q ∧ r < 1068) → q_lp (fX0_blocksWanted_b33 L N) (fun _ _ _ _ _ _ _ => none) m (nI n) (nI (na + n)) (nI p1) (nI p2) (nI acc) (nI q) ux = some (nI (cnt (msR A W n p1 p2) 1102), ux) := by
    intro k
    induction k with
    | zero =>
      intro q m acc P q1 q2 q2' q3 q5
      rw [lp_1 _ _ (by omega), fX0_blocksWanted_b33, if_pos (nI_lt (by omega) (by omega))]
      refine b67 acc P q3 (fun r => ?_)
      rw [q5 r]
      constructor
      · rintro ⟨z1, z2⟩; exact ⟨z1, by omega⟩
      · rintro ⟨z1, z2⟩
        have := (ms_iff.mp z1).2
        exact ⟨z1, by omega⟩
    | succ k ih =>
      intro q m acc P q1 q2 q2' q3 q5
      have Pq : P q = false := by
        cases hh : P q with
        | false => rfl
        | true => have := ((q5 _).mp hh).2; omega
      rw [lp_1 _ _ (by omega), fX0_blocksWanted_b33, if_neg (nI_nlt (by omega) (by omega)), if_neg (show ¬ (1068 : Int32) ≤ nI q from nI_ge (b := 1068) (by omega) (by decide)), x_pieceBlock x hn h1 (by omega), qb_s, ← tl_p (W := W) h1 (show q < 1068 by omega)]
      unfold fX0_blocksWanted_b61
      by_cases c3 : tl A W n q = 0
      · rw [c3, if_pos (show nI 0 = (0 : Int32) from rfl), qn_s, nI_1, qn_s, nI_1]
        refine ih (q + 1) (m - 1) (acc + 1) (setb P q true) (by omega) (by omega) (by omega) (by rw [cnt_set (by omega) Pq, q3]) (fun r => ?_)
        rw [sbt, q5 r]
        constructor
        · rintro (z | ⟨z1, z2⟩)
          · rw [z]; exact ⟨ms_iff.mpr ⟨c3, by omega⟩, by omega⟩
          · exact ⟨z1, by omega⟩
        · rintro ⟨z1, z2⟩
          by_cases c : r = q
          · exact Or.inl c
          · exact Or.inr ⟨z1, by omega⟩
      · rw [if_neg (nI_ne0 (by omega) (by have := hlt q; omega)), qn_s, nI_1]
        refine ih (q + 1) (m - 1) acc P (by omega) (by omega) (by omega) q3 (fun r => ?_)
        rw [q5 r]
        constructor
        · rintro ⟨z1, z2⟩; exact ⟨z1, by omega⟩
        · rintro ⟨z1, z2⟩
          refine ⟨z1, ?_⟩
          by_cases c : r = q
          · rw [c] at z1; exact absurd (ms_iff.mp z1).1 c3
          · omega
  have hat : at' + len < 2 ^ 31 := by omega
  unfold fX0_blocksWanted fX4_sectorOf
  rw [qb_s, e30, nI_add, nI_add, show nI (at' + len) - (1 : Int32) = nI (at' + len - 1) from pk_sub (b := 1) (by omega), show nI at' / (64 : Int32) = nI (at' / 64) from pk_div (d := 64) (by omega) (by decide) (by decide), show nI (at' + len - 1) / (64 : Int32) = nI ((at' + len - 1) / 64) from pk_div (d := 64) (by omega) (by decide) (by decide), qn_s, qn_s, ← hp1, ← hp2]
  refine b33 (p2 + 1 - p1) p1 N 0 (fun _ => false) (by omega) (by omega) (by omega) (cnt_no _) (fun r => ⟨fun z => (by cases z), fun ⟨z1, z2, z3⟩ => ?_⟩)
  have := (ms_iff.mp z1).2
  omega
/-- and the reference -/
theorem m_needs {B T S C W Ls na n p1 p2 : Nat} {A : Nat → Nat → Nat} {nm : Nat → Int64} {N : Nat} {um : q_St} (g : Geo B T S C W Ls) (hN : 3000 ≤ N) (rm : RM Ls A nm (q_a um) (q_j um 0)) (tw : TW B W Ls (na + 64) A nm) (hn : n < 64) (h1 : A 5 n = 1) (hp12 : p1 ≤ p2) (hp : p2 < 1068) : fX11_needs N (nI n) (nI p1) (nI p2) um = some (nI (cnt (msR A W n p1 p2) 1102), um) := by
  have hl := g.l
  obtain ⟨f1, f2, f3, f4⟩ := FT_of (W := W) tw.2.1 hn h1
  have hlt : ∀ r, tl A W n r < 2048 := by
    intro r
    by_cases z : tl A W n r = 0
    · omega
    · have := tw.2.2.1.2.1 n r hn z; omega
  have r9 : ∀ q, q < 1068 → q_a um 9 (1068 * n + q) = i0 (tl A W n q) := fun q hq => by rw [rm.2.2.1 _ (by omega), tl_p h1 hq]
  have r10 : ∀ i, i < 34 → q_a um 10 (34 * n + i) = i0 (tl A W n (1068 + i)) := fun i hi => by rw [rm.2.1 _ (by omega), tl_i h1 hi]
  have wi : (1068 : Int32) * nI n = nI (1068 * n) := pk_mul 1068 n
  have wj : (34 : Int32) * nI n = nI (34 * n) := pk_mul 34 n
  have tmono : ∀ q q', 12 ≤ q → q ≤ q' → q' < 1068 → trl q ≤ trl q' := by
    intro q q' a1 a2 a3
    unfold trl
    repeat' split
    all_goals omega
  have t69 : ∀ q, 12 ≤ q → q < 1068 → trl q ≠ 1069 ∧ 1068 ≤ trl q ∧ trl q < 1102 := by
    intro q a1 a2
    unfold trl
    repeat' split
    all_goals omega
  have key : ∀ (k p m acc : Nat) (bf : Int32) (db : Nat) (P : Nat → Bool), p + k = p2 + 1 → k < m → p1 ≤ p → cnt P 1102 = acc → (∀ r, P r = true ↔ (p1 ≤ r ∧ r < p ∧ tl A W n r = 0) ∨ (tl A W n r = 0 ∧ ∃ q, p1 ≤ q ∧ q < p ∧ 12 ≤ q ∧ trl q = r)) → ((bf = -1 ∧ ∀ r, 1068 ≤ r → P r = false) ∨ ∃ i, i < 34 ∧ bf = nI i ∧ P (1068 + i) = true ∧ ∀ r, 1068 ≤ r → P r = true → r ≤ 1068 + i) → db ≤ 1 → (db = 1 ↔ tl A W n 1069 = 0 ∧ ∃ r, 1070 ≤ r ∧ P r = true) → q_lp (fX11_needs_b12 N) (fun _ _ _ _ _ _ _ => none) m (nI n) (nI p2) (nI acc) bf (nI db) (nI p) um = some (nI (cnt (msR A W n p1 p2) 1102), um) := by
    intro k
    induction k with
    | zero =>
      intro p m acc bf db P q1 q2 q2' q3 q5 q6 q7 q8
      have ep : p = p2 + 1 := by omega
      subst ep
      have P69 : P 1069 = false := by
        cases hh : P 1069 with
        | false => rfl
        | true =>
          rcases (q5 _).mp hh with z | ⟨z1, q, y1, y2, y3, y4⟩
          · omega
          · exact absurd y4 (t69 q y3 (by omega)).1
      have main : ∀ r, r ≠ 1069 → (P r = true ↔ msR A W n p1 p2 r = true) := by
        intro r hr
        rw [q5 r, ms_iff]
        constructor
        · rintro (⟨z1, z2, z3⟩ | ⟨z1, q, y1, y2, y3, y4⟩)
          · exact ⟨z3, Or.inl ⟨z1, by omega⟩⟩
          · refine ⟨z1, ?_⟩
            have := t69 q y3 (by omega)
            rw [y4] at this
            unfold trl at y4
            repeat' split at y4
            all_goals omega
        · rintro ⟨z0, (z | z | z | z)⟩
          · exact Or.inl ⟨z.1, by omega, z0⟩
          · refine Or.inr ⟨z0, max p1 12, by omega, by omega, by omega, ?_⟩
            rw [z.1]
            unfold trl
            rw [if_pos (by omega)]
          · exact absurd z.1 hr
          · refine Or.inr ⟨z0, max p1 (44 + 32 * (r - 1070)), by omega, by omega, by omega, ?_⟩
            unfold trl
            rw [if_neg (by omega), if_pos (by omega)]
            omega
      have dbl : db = 1 ↔ msR A W n p1 p2 1069 = true := by
        rw [q8, ms_iff]
        constructor
        · rintro ⟨z0, r, z1, z2⟩
          refine ⟨z0, Or.inr (Or.inr (Or.inl ⟨rfl, ?_⟩))⟩
          rcases (q5 r).mp z2 with y | ⟨y0, q, y1, y2, y3, y4⟩
          · omega
          · unfold trl at y4
            repeat' split at y4
            all_goals omega
        · rintro ⟨z0, z⟩
          have h44 : 44 ≤ p2 := by omega
          refine ⟨z0, trl p2, ?_, ?_⟩
          · unfold trl
            rw [if_neg (by omega), if_pos hp]
            omega
          · have et : trl p2 = 1070 + (p2 - 44) / 32 := by unfold trl; rw [if_neg (by omega), if_pos hp]
            refine (q5 _).mpr (Or.inr ⟨?_, p2, hp12, by omega, by omega, rfl⟩)
            by_cases w : tl A W n (trl p2) = 0
            · exact w
            · rw [et] at w
              exact absurd z0 (f3 _ (by omega) w)
      rw [lp_1 _ _ (by omega), fX11_needs_b12, if_pos (nI_lt (by omega) (by omega))]
      unfold fX11_needs_b138
      by_cases cd : db = 0
      · rw [if_pos (by rw [cd]; rfl), i32_add0, ← q3, cnt_eqv (fun r => ?_)]
        by_cases c : r = 1069
        · rw [c, P69]
          exact ⟨fun z => (by cases z), fun z => by have := dbl.mpr z; omega⟩
        · exact main r c
      · have d1 : db = 1 := by omega
        rw [if_neg (by rw [d1]; decide), nI_1]
        have e : cnt (setb P 1069 true) 1102 = acc + 1 := by rw [cnt_set (by decide) P69, q3]
        rw [← e, cnt_eqv (fun r => ?_)]
        rw [sbt]
        by_cases c : r = 1069
        · rw [c]
          exact ⟨fun _ => dbl.mp d1, fun _ => Or.inl rfl⟩
        · rw [main r c]
          exact ⟨fun z => z.elim (fun y => absurd y c) id, fun z => Or.inr z⟩
    | succ k ih =>
      intro p m acc bf db P q1 q2 q2' q3 q5 q6 q7 q8
      rw [lp_1 _ _ (by omega), fX11_needs_b12, if_neg (nI_nlt (by omega) (by omega)), wi, nI_add, qr_n (by omega) (by omega), r9 p (by omega)]
      unfold fX11_needs_b113 fX11_needs_b117 fX11_needs_b118 fX11_needs_b120
      have Pp : P p = false := by
        cases hh : P p with
        | false => rfl
        | true =>
          rcases (q5 _).mp hh with z | ⟨z1, q, y1, y2, y3, y4⟩
          · omega
          · have := (t69 q y3 (by omega)).2; omega
      -- one step that adds nothing but perhaps the PIECE
      have nxP : ∀ r, ((p1 ≤ r ∧ r < p + 1 ∧ tl A W n r = 0) ∨ (tl A W n r = 0 ∧ ∃ q, p1 ≤ q ∧ q < p + 1 ∧ 12 ≤ q ∧ trl q = r)) ↔ (P r = true ∨ (r = p ∧ tl A W n p = 0) ∨ (tl A W n r = 0 ∧ 12 ≤ p ∧ trl p = r)) := by
        intro r
        rw [q5 r]
        constructor
        · rintro (⟨z1, z2, z3⟩ | ⟨z1, q, y1, y2, y3, y4⟩)
          · by_cases c : r = p
            · right; left; exact ⟨c, by rw [← c]; exact z3⟩
            · left; left; exact ⟨z1, by omega, z3⟩
          · by_cases c : q = p
            · right; right; rw [c] at y3 y4; exact ⟨z1, y3, y4⟩
            · left; right; exact ⟨z1, q, y1, by omega, y3, y4⟩
        · rintro ((⟨z1, z2, z3⟩ | ⟨z1, q, y1, y2, y3, y4⟩) | ⟨z1, z2⟩ | ⟨z1, z2, z3⟩)
          · exact Or.inl ⟨z1, by omega, z3⟩
          · exact Or.inr ⟨z1, q, y1, by omega, y3, y4⟩
          · rw [z1]; exact Or.inl ⟨q2', by omega, z2⟩
          · exact Or.inr ⟨z1, p, q2', by omega, z2, z3⟩
      by_cases c0 : tl A W n p = 0
      · rw [c0, if_pos (show i0 0 = (-1 : Int32) from rfl), qn_s, nI_1 acc, m_indexOf (by omega), qb_s]
        have cs : cnt (setb P p true) 1102 = acc + 1 := by rw [cnt_set (by omega) Pp, q3]
        have bf' : (bf = -1 ∧ ∀ r, 1068 ≤ r → setb P p true r = false) ∨ ∃ i, i < 34 ∧ bf = nI i ∧ setb P p true (1068 + i) = true ∧ ∀ r, 1068 ≤ r → setb P p true r = true → r ≤ 1068 + i := by
          rcases q6 with ⟨z1, z2⟩ | ⟨i, z0, z1, z2, z3⟩
          · exact Or.inl ⟨z1, fun r hr => by rw [setb_n (by omega)]; exact z2 r hr⟩
          · refine Or.inr ⟨i, z0, z1, by rw [setb_n (by omega)]; exact z2, fun r hr hq => ?_⟩
            rw [setb_n (by omega)] at hq
            exact z3 r hr hq
        have db' : db = 1 ↔ tl A W n 1069 = 0 ∧ ∃ r, 1070 ≤ r ∧ setb P p true r = true := by
          rw [q8]
          constructor
          · rintro ⟨z0, r, z1, z2⟩; exact ⟨z0, r, z1, by rw [setb_n (by omega)]; exact z2⟩
          · rintro ⟨z0, r, z1, z2⟩
            rw [setb_n (by omega)] at z2
            exact ⟨z0, r, z1, z2⟩
        have plain : (12 ≤ p → tl A W n (trl p) = 0 → P (trl p) = true) → q_nm (nI p + 1) (fun v6 => q_lp (fX11_needs_b12 N) (fun _ _ _ _ _ _ _ => none) (m - 1) (nI n) (nI p2) (nI (acc + 1)) bf (nI db) v6 um) = some (nI (cnt (msR A W n p1 p2) 1102), um) := by
          intro hno
          rw [qn_s, nI_1]
          refine ih (p + 1) (m - 1) (acc + 1) bf db (setb P p true) (by omega) (by omega) (by omega) cs (fun r => ?_) bf' q7 db'
          rw [nxP r, sbt]
          constructor
          · rintro (z | z)
            · exact Or.inr (Or.inl ⟨z, c0⟩)
            · exact Or.inl z
          · rintro (z | ⟨z, -⟩ | ⟨z1, z2, z3⟩)
            · exact Or.inr z
            · exact Or.inl z
            · rw [← z3] at z1 ⊢
              exact Or.inr (hno z2 z1)
        by_cases c12 : p < 12
        · rw [if_pos c12, if_pos rfl]
          exact plain (fun z => by omega)
        · have hx : ixo p < 34 := by unfold ixo; split <;> omega
          have htr := ixo_trl (q := p) (by omega) (by omega)
          rw [if_neg c12, if_neg (m1_ne _ (by omega))]
          have eqbf : nI (ixo p) = bf ↔ P (trl p) = true := by
            rw [← htr]
            rcases q6 with ⟨z1, z2⟩ | ⟨i, z0, z1, z2, z3⟩
            · rw [z1, z2 _ (by omega)]
              exact ⟨fun y => absurd y (m1_ne _ (by omega)), fun y => (by cases y)⟩
            · rw [z1]
              constructor
              · intro y
                have := nI_inj (by omega) (by omega) y
                rw [this]; exact z2
              · intro y
                have h2 := z3 _ (by omega) y
                have h3 : 1068 + i ≤ 1068 + ixo p := by
                  rcases (q5 _).mp z2 with w | ⟨w0, q, w1, w2, w3, w4⟩
                  · omega
                  · have := tmono q p w3 (by omega) (by omega)
                    omega
                rw [show ixo p = i by omega]
          by_cases cb : P (trl p) = true
          · rw [if_pos (eqbf.mpr cb)]
            exact plain (fun _ _ => cb)
          · rw [if_neg (fun z => cb (eqbf.mp z)), wj, nI_add, qr_n (by omega) (by omega), r10 _ hx, htr]
            by_cases ci : tl A W n (trl p) = 0
            · have PtF : setb P p true (trl p) = false := by
                have := t69 p (by omega) (by omega)
                rw [setb_n (by omega)]
                cases hh : P (trl p) with
                | false => rfl
                | true => exact absurd hh cb
              rw [ci, if_pos (show i0 0 = (-1 : Int32) from rfl), qn_s, nI_1 (acc + 1)]
              have h69 := t69 p (by omega) (by omega)
              have step : ∀ db2 : Nat, db2 ≤ 1 → (db2 = 1 ↔ tl A W n 1069 = 0 ∧ ∃ r, 1070 ≤ r ∧ setb (setb P p true) (trl p) true r = true) → q_nm (nI p + 1) (fun v6 => q_lp (fX11_needs_b12 N) (fun _ _ _ _ _ _ _ => none) (m - 1) (nI n) (nI p2) (nI (acc + 1 + 1)) (nI (ixo p)) (nI db2) v6 um) = some (nI (cnt (msR A W n p1 p2) 1102), um) := by
                intro db2 hdb2 hq
                rw [qn_s, nI_1]
                refine ih (p + 1) (m - 1) (acc + 1 + 1) (nI (ixo p)) db2 (setb (setb P p true) (trl p) true) (by omega) (by omega) (by omega) (by rw [cnt_set (by omega) PtF, cs]) (fun r => ?_) (Or.inr ⟨ixo p, hx, rfl, by rw [htr, setb_s], fun r hr hq2 => ?_⟩) hdb2 hq
                · rw [nxP r, sbt, sbt]
                  constructor
                  · rintro (z | z | z)
                    · exact Or.inr (Or.inr ⟨by rw [z]; exact ci, by omega, z.symm⟩)
                    · exact Or.inr (Or.inl ⟨z, c0⟩)
                    · exact Or.inl z
                  · rintro (z | ⟨z, -⟩ | ⟨z1, z2, z3⟩)
                    · exact Or.inr (Or.inr z)
                    · exact Or.inr (Or.inl z)
                    · exact Or.inl z3.symm
                · rcases sbt.mp hq2 with z | z
                  · omega
                  · rcases sbt.mp z with z | z
                    · omega
                    · rcases (q5 r).mp z with w | ⟨w0, q, w1, w2, w3, w4⟩
                      · omega
                      · have := tmono q p w3 (by omega) (by omega)
                        omega
              by_cases cd : db = 0
              · rw [if_pos (by rw [cd]; rfl)]
                have noP : tl A W n 1069 = 0 → ∀ r, 1070 ≤ r → setb P p true r = false := by
                  intro z0 r hr
                  cases hh : setb P p true r with
                  | false => rfl
                  | true => have := db'.mpr ⟨z0, r, hr, hh⟩; omega
                by_cases c44 : p < 44
                · have ex : ixo p = 0 := by unfold ixo; rw [if_pos c44]
                  have et : trl p = 1068 := by unfold trl; rw [if_pos c44]
                  rw [if_pos (by rw [ex]; decide)]
                  refine step 0 (by decide) ⟨fun z => (by omega), fun ⟨z0, r, z1, z2⟩ => ?_⟩
                  rcases sbt.mp z2 with y | y
                  · omega
                  · rw [noP z0 r z1] at y; cases y
                · have ex : 2 ≤ ixo p := by unfold ixo; rw [if_neg c44]; omega
                  have q2 := r10 1 (by decide)
                  have q2 : q_a um 10 (34 * n + 1) = i0 (tl A W n 1069) := q2
                  rw [if_neg (show ¬ nI (ixo p) ≤ (1 : Int32) from nI_ge (a := 1) (by omega) (by omega)), show nI (34 * n) + (1 : Int32) = nI (34 * n + 1) from nI_add _ 1, qr_n (by omega) (by omega), q2]
                  by_cases c69 : tl A W n 1069 = 0
                  · rw [c69, if_pos (show i0 0 = (-1 : Int32) from rfl)]
                    exact step 1 (by decide) ⟨fun _ => ⟨c69, trl p, by omega, setb_s⟩, fun _ => rfl⟩
                  · rw [if_neg (fun z => c69 ((i0_m1 (by have := hlt 1069; omega)).mp z))]
                    exact step 0 (by decide) ⟨fun z => (by omega), fun ⟨z0, _⟩ => absurd z0 c69⟩
              · have d1 : db = 1 := by omega
                rw [if_neg (by rw [d1]; decide)]
                refine step 1 (by decide) ⟨fun _ => ?_, fun _ => rfl⟩
                obtain ⟨z0, r, z1, z2⟩ := db'.mp d1
                exact ⟨z0, r, z1, setb_k z2⟩
            · rw [if_neg (fun z => ci ((i0_m1 (by have := hlt (trl p); omega)).mp z))]
              exact plain (fun _ z => absurd z ci)
      · rw [if_neg (fun z => c0 ((i0_m1 (by have := hlt p; omega)).mp z)), qn_s, nI_1]
        refine ih (p + 1) (m - 1) acc bf db P (by omega) (by omega) (by omega) q3 (fun r => ?_) q6 q7 q8
        rw [nxP r]
        constructor
        · intro z; exact Or.inl z
        · rintro (z | ⟨-, z⟩ | ⟨z1, z2, z3⟩)
          · exact z
          · exact absurd z c0
          · exfalso
            have := f1 p z2 (by omega) c0
            rw [z3] at this
            exact this z1
  unfold fX11_needs
  exact key (p2 + 1 - p1) p1 N 0 (-1) 0 (fun _ => false) (by omega) (by omega) (by omega) (cnt_no _) (fun r => ⟨fun z => (by cases z), fun z => by rcases z with z | ⟨z1, q, z2, z3, _⟩ <;> omega⟩) (Or.inl ⟨rfl, fun _ _ => rfl⟩) (by decide) ⟨fun z => (by omega), fun ⟨_, r, _, z⟩ => (by cases z)⟩
