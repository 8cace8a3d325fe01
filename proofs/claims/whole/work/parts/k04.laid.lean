/-! ===== lay: the tree with the LAID FILE ===== -/
def lyA (A : Nat → Nat → Nat) (W n b w : Nat) : Nat → Nat → Nat := setA (bnA A n 3 (64 * W) 0 w 52) 13 (12 * n) (b * W)
theorem ly_k {A : Nat → Nat → Nat} {W n b w k : Nat} (h : k ≠ 5 ∧ k ≠ 6 ∧ k ≠ 7 ∧ k ≠ 8 ∧ k ≠ 15 ∧ k ≠ 11 ∧ k ≠ 12) (h2 : k ≠ 13) : lyA A W n b w k = A k := by
  unfold lyA
  rw [setA_k h2, bnA_r h]
theorem ly_o {A : Nat → Nat → Nat} {W n b w k j : Nat} (h : j ≠ n) (h2 : k ≠ 13) : lyA A W n b w k j = A k j := by
  unfold lyA
  rw [setA_k h2, bnA_o h]
theorem ly_n {A : Nat → Nat → Nat} {W n b w k : Nat} (h2 : k ≠ 13) : lyA A W n b w k n = bnA A n 3 (64 * W) 0 w 52 k n := by
  unfold lyA
  rw [setA_k h2]
theorem ly_13 {A : Nat → Nat → Nat} {W n b w j : Nat} : lyA A W n b w 13 j = if j = 12 * n then b * W else A 13 j := by
  unfold lyA
  by_cases c : j = 12 * n
  · rw [c, setA_s, if_pos rfl]
  · rw [setA_n c, if_neg c, bnA_r (by decide)]
theorem ly_tl {A : Nat → Nat → Nat} {W n b w : Nat} (h8 : ∀ m, m < 64 → A 8 m ≤ 12) {m r : Nat} (hm : m < 64) : tl (lyA (bdA A W b) W n b w) W m r = if m = n then (if 1114 ≤ r ∧ r - 1114 < W then b * W + (r - 1114) else 0) else tl A W m r := by
  by_cases c : m = n
  · subst c
    rw [if_pos rfl]
    unfold tl
    rw [ly_n (by decide), bnA_5, if_neg (by decide), if_neg (by decide), if_pos rfl, ly_13, if_pos rfl]
  · rw [if_neg c]
    have a5 : lyA (bdA A W b) W n b w 5 m = A 5 m := by rw [ly_o c (by decide), bdA_k (by decide)]
    have a8 : lyA (bdA A W b) W n b w 8 m = A 8 m := by rw [ly_o c (by decide), bdA_k (by decide)]
    have a9 : lyA (bdA A W b) W n b w 9 = A 9 := by rw [ly_k (by decide) (by decide), bdA_k (by decide)]
    have a10 : lyA (bdA A W b) W n b w 10 = A 10 := by rw [ly_k (by decide) (by decide), bdA_k (by decide)]
    have a13 : ∀ k, k < 12 → lyA (bdA A W b) W n b w 13 (12 * m + k) = A 13 (12 * m + k) := fun k hk => by rw [ly_13, if_neg (by omega), bdA_k (by decide)]
    have a130 : lyA (bdA A W b) W n b w 13 (12 * m) = A 13 (12 * m) := a13 0 (by decide)
    unfold tl
    rw [a5, a8, a9, a10, a130]
    by_cases k2 : 1102 ≤ r ∧ r - 1102 < A 8 m
    · have := h8 m hm
      rw [if_pos k2, if_pos k2, a13 _ (by omega)]
    · rw [if_neg k2, if_neg k2]
theorem ly_TV {B W Ls fb n b w : Nat} {A : Nat → Nat → Nat} {nm : Nat → Int64} (hW : 64 ≤ W ∧ W ≤ 256) (t : TW B W Ls fb A nm) (hfb : 0 < fb) (hn : n < 64) (h0 : A 5 n = 0) (hb : b < B) (hbW : b * W + W ≤ Ls) (hbe : ∀ x, x / W = b → A 17 x = 0) (hw : w < 16) : TV B W Ls fb (lyA (bdA A W b) W n b w) nm := by
  obtain ⟨t1, t2, t3, t4⟩ := t
  have hn0 : n ≠ 0 := fun z => by rw [z] at h0; have := t1.2.1.1; omega
  have h8 : ∀ m, m < 64 → A 8 m ≤ 12 := fun m hm => (t1.1 m hm).2.2.2.2.2.1
  have htl : ∀ m r, m < 64 → tl (lyA (bdA A W b) W n b w) W m r = if m = n then (if 1114 ≤ r ∧ r - 1114 < W then b * W + (r - 1114) else 0) else tl A W m r := fun m r hm => ly_tl h8 hm
  have hdv : ∀ j, j < W → (b * W + j) / W = b := fun j hj => by rw [Nat.mul_comm, Nat.mul_add_div (by omega), Nat.div_eq_of_lt hj, Nat.add_zero]
  have hlo : ∀ j, j < W → fb ≤ b * W + j := fun j hj => by
    rcases Nat.lt_or_ge (b * W + j) fb with q | q
    · have := t3.2.2.2 _ q
      rw [hbe _ (hdv j hj)] at this
      omega
    · exact q
  have tl0 : ∀ r, tl A W n r = 0 := fun r => by unfold tl; rw [if_neg (by omega), if_neg (by omega), if_neg (by omega)]
  have out : ∀ m r j, m < 64 → j < W → tl A W m r ≠ b * W + j := by
    intro m r j hm hj z
    have l := hlo j hj
    have := (t3.2.1 m r hm (by omega)).2.2
    rw [z, hbe _ (hdv j hj)] at this
    omega
  have e5o : ∀ m, m ≠ n → lyA (bdA A W b) W n b w 5 m = A 5 m := fun m hm => by rw [ly_o hm (by decide), bdA_k (by decide)]
  have e5n : lyA (bdA A W b) W n b w 5 n = 3 := by rw [ly_n (by decide), bnA_5]
  have eo : ∀ k m, k ≠ 13 → k ≠ 17 → m ≠ n → lyA (bdA A W b) W n b w k m = A k m := fun k m q1 q2 hm => by rw [ly_o hm q1, bdA_k q2]
  have ek : ∀ k, (k ≠ 5 ∧ k ≠ 6 ∧ k ≠ 7 ∧ k ≠ 8 ∧ k ≠ 15 ∧ k ≠ 11 ∧ k ≠ 12) → k ≠ 13 → k ≠ 17 → lyA (bdA A W b) W n b w k = A k := fun k q1 q2 q3 => by rw [ly_k q1 q2, bdA_k q3]
  have e17 : ∀ x, lyA (bdA A W b) W n b w 17 x = if x / W = b then 1 else A 17 x := fun x => by rw [ly_k (by decide) (by decide), bdA_17]
  have e13 : ∀ j, lyA (bdA A W b) W n b w 13 j = if j = 12 * n then b * W else A 13 j := fun j => by rw [ly_13, bdA_k (by decide)]
  refine ⟨⟨fun m hm => ?_, ?_, fun m hm z => ?_, fun m hm z => ?_, fun m hm z => ?_, ?_, ?_, fun x => ?_⟩, ⟨fun m hm z => ?_, fun m hm z => ?_⟩, ⟨fun m r m2 r2 hm hm2 hz he => ?_, fun m r hm hz => ?_, fun x hx hx2 hu => ?_, fun x hx => ?_⟩, fun j hj z => ?_⟩
  · by_cases c : m = n
    · subst c
      rw [e5n, ly_n (by decide), ly_n (by decide), ly_n (by decide), ly_n (by decide), ly_n (by decide), bnA_6, bnA_8, bnA_11, bnA_12, bnA_15]
      exact ⟨by decide, hw, by decide, by decide, by omega, by decide, fun _ => rfl⟩
    · rw [eo 5 m (by decide) (by decide) c, eo 11 m (by decide) (by decide) c, eo 12 m (by decide) (by decide) c, eo 15 m (by decide) (by decide) c, eo 6 m (by decide) (by decide) c, eo 8 m (by decide) (by decide) c]
      exact t1.1 m hm
  · rw [eo 5 0 (by decide) (by decide) (fun z => hn0 z.symm), eo 7 0 (by decide) (by decide) (fun z => hn0 z.symm)]
    exact t1.2.1
  · have c : m ≠ n := fun c => by rw [c, e5n] at z; omega
    rw [e5o m c] at z
    obtain ⟨q1, q2, q3⟩ := t1.2.2.1 m hm z
    rw [eo 7 m (by decide) (by decide) c, eo 8 m (by decide) (by decide) c, e5o _ (fun y => by rw [y] at q2; omega)]
    refine ⟨q1, q2, fun k hk => ?_⟩
    have := h8 m hm
    rw [e13, if_neg (by omega)]
    exact q3 k hk
  · have c : m ≠ n := fun c => by rw [c, e5n] at z; omega
    rw [e5o m c] at z
    rw [eo 6 m (by decide) (by decide) c]
    exact t1.2.2.2.1 m hm z
  · by_cases c : m = n
    · subst c
      rw [ly_n (by decide), bnA_6, e13, if_pos rfl]
      have := hlo 0 (by omega)
      exact ⟨rfl, by omega, b, hb, rfl⟩
    · rw [e5o m c] at z
      rw [eo 6 m (by decide) (by decide) c, e13, if_neg (by omega)]
      exact t1.2.2.2.2.1 m hm z
  · rw [ek 16 (by decide) (by decide) (by decide)]; exact t1.2.2.2.2.2.1
  · rw [ek 18 (by decide) (by decide) (by decide)]; exact t1.2.2.2.2.2.2.1
  · rw [e17]
    split
    · decide
    · exact t1.2.2.2.2.2.2.2 x
  · rw [ek 9 (by decide) (by decide) (by decide), ek 10 (by decide) (by decide) (by decide)]
    by_cases c : m = n
    · rw [c]; exact t2.1 n hn (by omega)
    · rw [e5o m c] at z
      exact t2.1 m hm z
  · have c : m ≠ n := fun c => by rw [c, e5n] at z; omega
    rw [e5o m c] at z
    have es : szp (lyA (bdA A W b) W n b w) m = szp A m := by unfold szp; rw [eo 6 m (by decide) (by decide) c]
    rw [ek 9 (by decide) (by decide) (by decide), ek 10 (by decide) (by decide) (by decide), es]
    exact t2.2 m hm z
  · rw [htl m r hm] at hz he
    rw [htl m2 r2 hm2] at he
    by_cases c : m = n
    · rw [if_pos c] at hz he
      by_cases cr : 1114 ≤ r ∧ r - 1114 < W
      · rw [if_pos cr] at hz he
        by_cases c2 : m2 = n
        · rw [if_pos c2] at he
          by_cases cr2 : 1114 ≤ r2 ∧ r2 - 1114 < W
          · rw [if_pos cr2] at he
            exact ⟨by rw [c, c2], by omega⟩
          · rw [if_neg cr2] at he; omega
        · rw [if_neg c2] at he
          exact absurd he.symm (out m2 r2 _ hm2 cr.2)
      · rw [if_neg cr] at hz; exact absurd rfl hz
    · rw [if_neg c] at hz he
      by_cases c2 : m2 = n
      · rw [if_pos c2] at he
        by_cases cr2 : 1114 ≤ r2 ∧ r2 - 1114 < W
        · rw [if_pos cr2] at he
          exact absurd he (out m r _ hm cr2.2)
        · rw [if_neg cr2] at he; exact absurd he hz
      · rw [if_neg c2] at he
        exact t3.1 m r m2 r2 hm hm2 hz he
  · rw [htl m r hm] at hz ⊢
    by_cases c : m = n
    · rw [if_pos c] at hz ⊢
      by_cases cr : 1114 ≤ r ∧ r - 1114 < W
      · rw [if_pos cr, e17, if_pos (hdv _ cr.2)]
        exact ⟨hlo _ cr.2, by omega, rfl⟩
      · rw [if_neg cr] at hz; exact absurd rfl hz
    · rw [if_neg c] at hz ⊢
      obtain ⟨q1, q2, q3⟩ := t3.2.1 m r hm hz
      refine ⟨q1, q2, ?_⟩
      rw [e17]
      split
      · rfl
      · exact q3
  · rw [e17] at hu
    by_cases c : x / W = b
    · have d1 := Nat.div_add_mod x W
      have d2 := Nat.mod_lt x (show 0 < W by omega)
      rw [c, Nat.mul_comm] at d1
      exact ⟨n, 1114 + x % W, hn, by rw [htl n _ hn, if_pos rfl, if_pos (by omega)]; omega⟩
    · rw [if_neg c] at hu
      obtain ⟨m, r, q1, q2⟩ := t3.2.2.1 x hx hx2 hu
      refine ⟨m, r, q1, ?_⟩
      rw [htl m r q1, if_neg (fun z => by rw [z, tl0] at q2; omega)]
      exact q2
  · rw [e17]
    split
    · rfl
    · exact t3.2.2.2 x hx
  · rw [ek 14 (by decide) (by decide) (by decide)] at z ⊢
    obtain ⟨q1, q2, q3, q4, q5, q6⟩ := t4.1 j hj z
    have c1 : j / 48 ≠ n := fun y => by rw [y] at q1; omega
    have c2 : A 14 j ≠ n := fun y => by rw [y] at q4; exact q4 h0
    rw [e5o _ c1, eo 8 _ (by decide) (by decide) c1, e5o _ c2, eo 7 _ (by decide) (by decide) c2]
    exact ⟨q1, q2, q3, q4, q5, q6⟩
