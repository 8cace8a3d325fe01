/-! ===== lay: both trees at the end are one ===== -/
theorem RM_13 {Ls j v : Nat} {A : Nat → Nat → Nat} {nm : Nat → Int64} {um : q_St} (r : RM Ls A nm (q_a um) (q_j um 0)) : RM Ls (setA A 13 j v) nm (q_a (q_sa um 13 (upd (q_a um 13) j (nI v)))) (q_j (q_sa um 13 (upd (q_a um 13) j (nI v))) 0) := by
  obtain ⟨r1, r2, r3, r4, r6, r7, r8, r9⟩ := r
  have s7r : ∀ k ∈ s7, k ≠ 13 := by decide
  refine ⟨fun k hk i hi => ?_, ?_, ?_, ?_, fun i hi => ?_, ?_, ?_, ?_⟩
  · rw [qa_ne (s7r k hk), setA_k (s7r k hk)]; exact r1 k hk i hi
  · rw [qa_ne (by decide), setA_k (by decide)]; exact r2
  · rw [qa_ne (by decide), setA_k (by decide)]; exact r3
  · rw [qa_ne (by decide), setA_k (by decide)]; exact r4
  · rw [qa_eq]
    by_cases c : i = j
    · rw [c, up_s, setA_s]
    · rw [up_n c, setA_n c]; exact r6 i hi
  · rw [qa_ne (by decide), setA_k (by decide)]; exact r7
  · rw [qa_ne (by decide), setA_k (by decide)]; exact r8
  · rw [qa_ne (by decide), setA_k (by decide)]; exact r9
theorem ly_set {A : Nat → Nat → Nat} {W n b w j nd : Nat} : setA (setA (bnA (setA A 14 j nd) n 3 0 0 w 52) 6 n (64 * W)) 13 (12 * n) (b * W) = setA (lyA A W n b w) 14 j nd := by
  rw [bnA_sz]
  funext k i
  unfold lyA
  by_cases c13 : k = 13
  · subst c13
    rw [setA_k (show (13 : Nat) ≠ 14 by decide)]
    by_cases ci : i = 12 * n
    · rw [ci, setA_s, setA_s]
    · rw [setA_n ci, setA_n ci, bnA_r (by decide), bnA_r (by decide), setA_k (by decide)]
  · rw [setA_k c13]
    by_cases c14 : k = 14
    · subst c14
      rw [bnA_r (by decide)]
      by_cases ci : i = j
      · rw [ci, setA_s, setA_s]
      · rw [setA_n ci, setA_n ci, setA_k (by decide), bnA_r (by decide)]
    · rw [setA_k c14, setA_k c13]
      unfold bnA
      rw [setA_k c14]
theorem ly_gA {A : Nat → Nat → Nat} {W n b w d y : Nat} (hd : d ≠ n) (h8 : A 8 d < 12) : gA (lyA A W n b w) d y = lyA (gA A d y) W n b w := by
  have e8 : lyA A W n b w 8 d = A 8 d := ly_o hd (by decide)
  funext k i
  by_cases c8 : k = 8
  · subst c8
    rw [gA_8]
    by_cases cn : i = n
    · subst cn
      rw [if_neg (fun z => hd z.symm), ly_n (by decide), ly_n (by decide), bnA_8, bnA_8]
    · rw [ly_o cn (by decide), ly_o cn (by decide), gA_8, e8]
  · by_cases c13 : k = 13
    · subst c13
      rw [gA_13, e8, ly_13, ly_13, gA_13]
      by_cases ci : i = 12 * d + A 8 d
      · rw [if_pos ci, if_neg (by omega), if_pos ci]
      · rw [if_neg ci, if_neg ci]
    · by_cases c17 : k = 17
      · subst c17
        rw [gA_17, ly_k (by decide) (by decide), ly_k (by decide) (by decide), gA_17]
      · by_cases c18 : k = 18
        · subst c18
          rw [gA_18, ly_k (by decide) (by decide), ly_k (by decide) (by decide), gA_18]
        · rw [gA_k c8 c13 c17 c18]
          by_cases cn : i = n
          · subst cn
            rw [ly_n c13, ly_n c13]
            unfold bnA
            rw [gA_k c8 c13 c17 c18]
          · rw [ly_o cn c13, ly_o cn c13, gA_k c8 c13 c17 c18]
