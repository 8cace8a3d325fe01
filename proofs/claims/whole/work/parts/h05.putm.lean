/-! ===== the bytes of put, in the reference ===== -/
theorem RM_18 {Ls j b : Nat} {A : Nat → Nat → Nat} {nm : Nat → Int64} {um : q_St} (r : RM Ls A nm (q_a um) (q_j um 0)) : RM Ls (setA A 18 j b) nm (q_a (q_sa um 18 (upd (q_a um 18) j (sB b)))) (q_j (q_sa um 18 (upd (q_a um 18) j (sB b))) 0) := by
  obtain ⟨r1, r2, r3, r4, r6, r7, r8, r9⟩ := r
  have s7r : ∀ k ∈ s7, k ≠ 18 := by decide
  refine ⟨fun k hk i hi => ?_, ?_, ?_, ?_, ?_, ?_, ?_, fun i hi => ?_⟩
  · rw [qa_ne (s7r k hk), setA_k (s7r k hk)]; exact r1 k hk i hi
  · rw [qa_ne (by decide), setA_k (by decide)]; exact r2
  · rw [qa_ne (by decide), setA_k (by decide)]; exact r3
  · rw [qa_ne (by decide), setA_k (by decide)]; exact r4
  · rw [qa_ne (by decide), setA_k (by decide)]; exact r6
  · rw [qa_ne (by decide), setA_k (by decide)]; exact r7
  · rw [qa_ne (by decide), setA_k (by decide)]; exact r8
  · rw [qa_eq]
    by_cases c : i = j
    · rw [c, up_s, setA_s]
    · rw [up_n c, setA_n c]; exact r9 i hi
theorem m_bytes {Ls n a len : Nat} {Ax Am : Nat → Nat → Nat} {nm : Nat → Int64} {X : Nat → Nat} {b : Nat → Nat} {dm : Nat → Bool} {N : Nat} {w0 : q_St} (hL : Ls ≤ 2048) (hlen : len ≤ 1280) (ha : a + len ≤ 131072) (hX : ∀ i, i < len → X ((a + i) / 64) < Ls) (hv : ∀ i, i < len → Ax 18 (64 * X ((a + i) / 64) + (a + i) % 64) = b i) (he : ∀ j, (∀ i, i < len → j ≠ 64 * X ((a + i) / 64) + (a + i) % 64) → Ax 18 j = Am 18 j) (hAm : ∀ k, k ≠ 18 → Am k = Ax k) (h35 : ∀ i, i < len → q_a w0 35 i = sB (b i)) (hsec : ∀ w, q_a w 5 = q_a w0 5 → q_a w 9 = q_a w0 9 → q_a w 13 = q_a w0 13 → ∀ i, i < len → fX11_sectorOf N (nI n) (nI ((a + i) / 64)) w = some (nI (X ((a + i) / 64)), w)) :
    ∀ (k i m : Nat) (A1 : Nat → Nat → Nat) (d1 : Nat → Bool) (w : q_St), i + k = len → k < m → RM Ls A1 nm (q_a w) (q_j w 0) → (∀ r, r ≠ 18 → A1 r = Am r) → (∀ j, A1 18 j = Ax 18 j ∨ (A1 18 j = Am 18 j ∧ ∀ i', i' < i → j ≠ 64 * X ((a + i') / 64) + (a + i') % 64)) → MS Ls d1 w → (∀ z, d1 z = true ↔ dm z = true ∨ ∃ i', i' < i ∧ X ((a + i') / 64) = z) → Fr [25] [18, 33] [] w0 w →
    ∃ w2 d2, q_lp (fX11_put_b201 N) (fun _ _ _ _ _ => none) m (nI n) (nI a) (nI len) (nI i) w = some (nI len, w2) ∧ RM Ls Ax nm (q_a w2) (q_j w2 0) ∧ MS Ls d2 w2 ∧ (∀ z, d2 z = true ↔ dm z = true ∨ ∃ i', i' < len ∧ X ((a + i') / 64) = z) ∧ Fr [25] [18, 33] [] w0 w2 := by
  intro k
  induction k with
  | zero =>
    intro i m A1 d1 w h1 h2 rm e1 e2 ms e3 fr
    have : i = len := by omega
    subst this
    have eA : A1 = Ax := by
      funext r j
      by_cases c : r = 18
      · subst c
        rcases e2 j with q | ⟨q1, q2⟩
        · exact q
        · rw [q1, he j q2]
      · rw [e1 r c, hAm r c]
    rw [eA] at rm
    exact ⟨w, d1, by rw [lp_1 _ _ (by omega), fX11_put_b201, if_pos (nI_le (by omega) (by omega))], rm, ms, e3, fr⟩
  | succ k ih =>
    intro i m A1 d1 w h1 h2 rm e1 e2 ms e3 fr
    have hi : i < len := by omega
    have hXi := hX i hi
    obtain ⟨Y, hY⟩ : ∃ Y, Y = X ((a + i) / 64) := ⟨_, rfl⟩
    obtain ⟨o, ho⟩ : ∃ o, o = (a + i) % 64 := ⟨_, rfl⟩
    rw [← hY] at hXi
    have ho64 : o < 64 := by omega
    obtain ⟨w1, hw1⟩ : ∃ q, q = q_sa w 18 (upd (q_a w 18) (64 * Y + o) (sB (b i))) := ⟨_, rfl⟩
    have r2 := RM_18 (j := 64 * Y + o) (b := b i) rm
    rw [← hw1] at r2
    have ms1 : MS Ls d1 w1 := ⟨by rw [hw1, qa_ne (by decide)]; exact ms.1, by rw [hw1]; exact ms.2⟩
    obtain ⟨w3, s1, s2⟩ := m_soil (N := N) hL ms1 hXi
    have f1 : Fr [25] [18, 33] [] w w1 := by rw [hw1]; exact fr_sa1 _ (by decide)
    have f3 := fr_X11_soil s1
    have f4 : Fr [25] [18, 33] [] w0 w3 := (fr.trans f1).trans (f3.mono (by decide) (by decide) (by decide))
    have r3 := RM_fr r2 (fun k q1 q2 => f3.2.1 k (by simp only [List.mem_cons, List.not_mem_nil, or_false]; omega)) (f3.2.2 0 (by decide))
    obtain ⟨w2, d2, g1, g2, g3, g4, g5⟩ := ih (i + 1) (m - 1) _ _ w3 (by omega) (by omega) r3 (fun r hr => by rw [setA_k hr]; exact e1 r hr) (fun j => by
      by_cases c : j = 64 * Y + o
      · left
        rw [c, setA_s, hY, ho, hv i hi]
      · rw [setA_n c]
        rcases e2 j with q | ⟨q1, q2⟩
        · exact Or.inl q
        · refine Or.inr ⟨q1, fun i' hi' => ?_⟩
          by_cases c2 : i' = i
          · rw [c2, ← hY, ← ho]; exact c
          · exact q2 i' (by omega)) s2 (fun z => by
      rw [sbt, e3 z]
      constructor
      · rintro (q | q | ⟨i', q1, q2⟩)
        · exact Or.inr ⟨i, by omega, by rw [← hY]; exact q.symm⟩
        · exact Or.inl q
        · exact Or.inr ⟨i', by omega, q2⟩
      · rintro (q | ⟨i', q1, q2⟩)
        · exact Or.inr (Or.inl q)
        · by_cases c : i' = i
          · left; rw [← q2, c, hY]
          · exact Or.inr (Or.inr ⟨i', by omega, q2⟩)) f4
    refine ⟨w2, d2, ?_, g2, g3, g4, g5⟩
    have hs := hsec w (fr.2.1 5 (by decide)) (fr.2.1 9 (by decide)) (fr.2.1 13 (by decide)) i hi
    rw [← hY] at hs
    have h35i : q_a w 35 i = sB (b i) := by rw [fr.2.1 35 (by decide)]; exact h35 i hi
    rw [lp_1 _ _ (by omega), fX11_put_b201, if_neg (nI_ge (by omega) (by omega)), nI_add, show nI (a + i) / (64 : Int32) = nI ((a + i) / 64) from pk_div (d := 64) (by omega) (by decide) (by decide), show nI (a + i) - nI ((a + i) / 64) * (64 : Int32) = nI ((a + i) % 64) from by
      have := rem_n (a := a + i) (d := 64) (by omega) (by decide) (by decide)
      rw [show nI (a + i) / (nI 64) = nI ((a + i) / 64) from pk_div (by omega) (by decide) (by decide)] at this
      exact this, hs, qb_s, qr_n (by omega) (by omega), h35i, nar_sB, show (64 : Int32) * nI Y = nI (64 * Y) from pk_mul 64 Y, ← ho, nI_add, qw_n (by omega) (by omega), cl_n (by omega), ← hw1, s1, qb_s, qn_s, nI_1]
    exact g1
