/-! ===== one PART, in both ===== -/
def WR (A : Nat → Nat → Nat) (len : Nat) (s : Nat → Option Nat) (nx : Nat → Nat) (dp pt here : Nat) (u w : q_St) : Prop := q_i u 34 = nI dp ∧ q_i w 29 = nI dp ∧ q_i u 35 = nI pt ∧ q_i w 31 = nI pt ∧ q_i u 36 = nI here ∧ here < 64 ∧ dp ≤ pt + 1 ∧ pt ≤ 8 ∧ ∀ i, i < dp → Wok A (s i) ∧ nx i ≤ Wsz A len (s i) ∧ q_a u 10 i = sI (s i) ∧ q_a u 11 i = nI (nx i) ∧ q_a w 36 i = sI (s i) ∧ q_a w 37 i = nI (nx i)
def sM (A : Nat → Nat → Nat) (len : Nat) (s : Nat → Option Nat) (nx : Nat → Nat) : Nat → Nat
  | 0 => 0
  | d + 1 => sM A len s nx d + (Wsz A len (s d) + 1 - nx d)
theorem sM_cg {A : Nat → Nat → Nat} {len : Nat} {s s2 : Nat → Option Nat} {nx nx2 : Nat → Nat} : ∀ d, (∀ i, i < d → s2 i = s i ∧ nx2 i = nx i) → sM A len s2 nx2 d = sM A len s nx d
  | 0, _ => rfl
  | d + 1, h => by
    simp only [sM]
    rw [sM_cg d (fun i hi => h i (by omega)), (h d (by omega)).1, (h d (by omega)).2]
theorem l_begin {B T S C W Ls na hb : Nat} {um : q_St} {D K : Nat → Nat → Int64} {dd : Nat → Bool} {A : Nat → Nat → Nat} {nm : Nat → Int64} {L : Nat → Nat} {N : Nat} {len dp pt here : Nat} {b : Nat → Nat} {u w : q_St} {s : Nat → Option Nat} {nx : Nat → Nat} {sn : Option Nat} (xx : WX B T S C W Ls na hb um D K dd A nm L len b u) (xm : WM Ls A nm len b w) (h40 : ∀ n, n < 64 → A 5 n = 4 → A 6 n ≤ 40) (r : WR A len s nx dp pt here u w) (hdp : dp ≤ pt) (ok : Wok A sn) :
    ∃ v z here' s' nx', fX9_begin L N (sI sn) u = some ((), v) ∧ fX11_begin N (sI sn) (nI here) w = some (nI here', z) ∧ WR A len s' nx' (dp + 1) pt here' v z ∧ sM A len s' nx' (dp + 1) = sM A len s nx dp + Wsz A len sn + 1 ∧ Fr [34, 35, 36, 37, 38, 39, 40] [7, 10, 11, 12, 13, 14] [4] u v ∧ Fr [29, 31] [36, 37] [] w z := by
  obtain ⟨r1, r2, r3, r4, r5, r6, r7, r8, r9⟩ := r
  have gl := xx.1.1.2.1
  have l15 : L 15 = 9 := gl.2.2.2.2.2.2.2.2.2.2.2.2.2.2.2.1
  have l16 : L 16 = 9 := gl.2.2.2.2.2.2.2.2.2.2.2.2.2.2.2.2.1
  obtain ⟨u1, hu1⟩ : ∃ q, q = q_sa u 10 (upd (q_a u 10) dp (sI sn)) := ⟨_, rfl⟩
  obtain ⟨u2, hu2⟩ : ∃ q, q = q_sa u1 11 (upd (q_a u1 11) dp 0) := ⟨_, rfl⟩
  obtain ⟨u3, hu3⟩ : ∃ q, q = q_si u2 34 (nI (dp + 1)) := ⟨_, rfl⟩
  have fu1 : Fr [34, 36] [10, 11] [] u u1 := by rw [hu1]; exact fr_sa1 _ (by decide)
  have fu2 : Fr [34, 36] [10, 11] [] u u2 := fu1.trans (by rw [hu2]; exact fr_sa1 _ (by decide))
  have fu3 : Fr [34, 36] [10, 11] [] u u3 := fu2.trans (by rw [hu3]; exact fr_si1 _ (by decide))
  obtain ⟨w1, hw1⟩ : ∃ q, q = q_sa w 36 (upd (q_a w 36) dp (sI sn)) := ⟨_, rfl⟩
  obtain ⟨w2, hw2⟩ : ∃ q, q = q_sa w1 37 (upd (q_a w1 37) dp 0) := ⟨_, rfl⟩
  obtain ⟨w3, hw3⟩ : ∃ q, q = q_si w2 29 (nI (dp + 1)) := ⟨_, rfl⟩
  have fw1 : Fr [29, 31] [36, 37] [] w w1 := by rw [hw1]; exact fr_sa1 _ (by decide)
  have fw2 : Fr [29, 31] [36, 37] [] w w2 := fw1.trans (by rw [hw2]; exact fr_sa1 _ (by decide))
  have fw3 : Fr [29, 31] [36, 37] [] w w3 := fw2.trans (by rw [hw3]; exact fr_si1 _ (by decide))
  have xx3 := WX_fr xx (fu3.mono (by decide) (by decide) (by decide))
  have xm3 := WM_fr xm fw3
  have i34 : q_i u1 34 = nI dp := by rw [hu1]; exact r1
  have i34b : q_i u2 34 = nI dp := by rw [hu2]; exact i34
  have i29 : q_i w1 29 = nI dp := by rw [hw1]; exact r2
  have i29b : q_i w2 29 = nI dp := by rw [hw2]; exact i29
  have a10 : ∀ i, q_a u3 10 i = upd (q_a u 10) dp (sI sn) i := fun i => by rw [hu3, hu2, qa_si, qa_ne (by decide), hu1, qa_eq]
  have a11 : ∀ i, q_a u3 11 i = upd (q_a u 11) dp 0 i := fun i => by rw [hu3, hu2, qa_si, qa_eq, hu1, qa_ne (by decide)]
  have a36 : ∀ i, q_a w3 36 i = upd (q_a w 36) dp (sI sn) i := fun i => by rw [hw3, hw2, qa_si, qa_ne (by decide), hw1, qa_eq]
  have a37 : ∀ i, q_a w3 37 i = upd (q_a w 37) dp 0 i := fun i => by rw [hw3, hw2, qa_si, qa_eq, hw1, qa_ne (by decide)]
  have wr : ∀ here' v, here' < 64 → Fr [36] [] [] u3 v → q_i v 36 = nI here' → WR A len (fun i => if i = dp then sn else s i) (fun i => if i = dp then 0 else nx i) (dp + 1) pt here' v w3 := by
    intro here' v hh fv h36
    refine ⟨(fv.1 34 (by decide)).trans (by rw [hu3]; exact qi_eq), by rw [hw3]; exact qi_eq, (fv.1 35 (by decide)).trans ((fu3.1 35 (by decide)).trans r3), ?_, h36, hh, by omega, r8, fun i hi => ?_⟩
    · have e : q_i w3 31 = q_i w 31 := by rw [hw3, qi_ne (by decide), hw2, hw1]; rfl
      exact e.trans r4
    · rw [fv.2.1 10 (by decide), fv.2.1 11 (by decide), a10, a11, a36, a37]
      by_cases c : i = dp
      · subst c
        rw [up_s, up_s, up_s, up_s]
        simp only [if_true]
        exact ⟨ok, Nat.zero_le _, trivial, rfl, trivial, rfl⟩
      · rw [up_n c, up_n c, up_n c, up_n c]
        simp only [if_neg c]
        exact r9 i (by omega)
  have ms : sM A len (fun i => if i = dp then sn else s i) (fun i => if i = dp then 0 else nx i) (dp + 1) = sM A len s nx dp + Wsz A len sn + 1 := by
    simp only [sM, if_true]
    rw [sM_cg (s := s) (nx := nx) dp (fun i hi => by
      have : i ≠ dp := by omega
      simp only [if_neg this]
      exact ⟨trivial, trivial⟩)]
    omega
  have bx : fX9_begin L N (sI sn) u = fX9_begin_b54 L N (sI sn) u3 := by
    unfold fX9_begin
    rw [r1, l15, l16, if_neg (nI_ge (by omega) (by decide)), if_neg (nI_ge (by omega) (by decide)), qw_n (by omega) (by decide), cl_n (by omega), ← hu1, i34, qw_n (by omega) (by decide), cl_n (by omega), ← hu2, i34b, nI_1, ← hu3, qn_s]
  have bm : fX11_begin N (sI sn) (nI here) w = q_bnd (fX11_sizeOf N (sI sn) w3) (fun r4 u5 => if r4 ≤ 0 then some (nI here, u5) else q_bnd (fX11_byteOf N (sI sn) 0 u5) (fun r7 u8 => if r7 = 47 then some (0, u8) else some (nI here, u8))) := by
    unfold fX11_begin
    rw [r2, qw_n (by omega) (by decide), cl_n (by omega), ← hw1, i29, qw_n (by omega) (by decide), cl_n (by omega), ← hw2, i29b, nI_1, ← hw3, qn_s]
  have fuS : Fr [34, 35, 36, 37, 38, 39, 40] [7, 10, 11, 12, 13, 14] [4] u u3 := fu3.mono (by decide) (by decide) (by decide)
  have h36 : q_i u3 36 = nI here := by rw [hu3, qi_ne (by decide), hu2, hu1]; exact r5
  by_cases c0 : Wsz A len sn = 0
  · refine ⟨u3, w3, here, _, _, ?_, ?_, wr here u3 r6 (Fr.rf _ _ _ _) h36, ms, fuS, fw3⟩
    · rw [bx]
      have e : sn = none := by
        cases sn with
        | none => rfl
        | some n =>
          have := (xx.1.2.2.2.1.2.2.2.1 n ok.1 ok.2).1
          have c0 : A 6 n = 0 := c0
          omega
      subst e
      have e32 : q_i u3 32 = 0 := by
        rw [xx3.2.1]
        have : len = 0 := c0
        rw [this]; rfl
      unfold fX9_begin_b54 fX9_byteOf sI fX7_byteOf_8
      rw [if_pos rfl, if_neg (by decide), e32, if_pos (by decide), qb_s, qb_s, if_neg (by decide)]
    · rw [bm, m_wsz xm3 ok, qb_s, c0, if_pos (show nI 0 ≤ (0 : Int32) by decide)]
  · have hb := W_bd xx ok
    have hx0 : fX9_byteOf L N (sI sn) 0 u3 = some (nI (Wby A b sn 0), u3) := x_wb (i := 0) xx3 ok (by omega)
    have hm0 : fX11_byteOf N (sI sn) 0 w3 = some (sB (Wby A b sn 0), w3) := m_wb (i := 0) xm3 xx.2.2.1 h40 ok (by omega)
    rw [m_wsz xm3 ok, qb_s, if_neg (show ¬ nI (Wsz A len sn) ≤ (0 : Int32) from nI_ge (a := 0) (by omega) (by omega)), hm0, qb_s] at bm
    have h256 := hb.2 0 (by omega)
    by_cases c : Wby A b sn 0 = 47
    · have fz : Fr [36] [] [] u3 (q_si u3 36 0) := fr_si1 _ (by decide)
      refine ⟨q_si u3 36 0, w3, 0, _, _, ?_, ?_, wr 0 _ (by decide) fz qi_eq, ms, fuS.trans (fz.mono (by decide) (by decide) (by decide)), fw3⟩
      · rw [bx]
        unfold fX9_begin_b54
        rw [hx0, qb_s, if_pos (by rw [c]; rfl), qn_s]
      · rw [bm, if_pos (show sB (Wby A b sn 0) = (47 : Int32) from (sB_eq (c := 47) h256 (by decide)).mpr c)]
        rfl
    · refine ⟨u3, w3, here, _, _, ?_, ?_, wr here u3 r6 (Fr.rf _ _ _ _) h36, ms, fuS, fw3⟩
      · rw [bx]
        unfold fX9_begin_b54
        rw [hx0, qb_s, if_neg (show ¬ nI (Wby A b sn 0) = (47 : Int32) from fun z => c (nI_inj (b := 47) (by omega) (by decide) z))]
      · rw [bm, if_neg (show ¬ sB (Wby A b sn 0) = (47 : Int32) from fun z => c ((sB_eq (c := 47) h256 (by decide)).mp z))]
