/-! ===== find, size ===== -/
theorem slX_no {m f : Nat} (hm : m < 2 ^ 31) : slX m f = -1 ↔ ¬ f < m := by
  unfold slX
  by_cases c : f < m
  · rw [if_pos c]; exact ⟨fun z => absurd z (m1_ne f (by omega)), fun z => absurd c z⟩
  · rw [if_neg c]; exact ⟨fun _ => c, fun _ => rfl⟩
theorem slM_no {d m f : Nat} (hm : 48 * d + m < 2 ^ 31) : slM d m f = -1 ↔ ¬ f < m := by
  unfold slM
  by_cases c : f < m
  · rw [if_pos c]; exact ⟨fun z => absurd z (m1_ne _ (by omega)), fun z => absurd c z⟩
  · rw [if_neg c]; exact ⟨fun _ => c, fun _ => rfl⟩
theorem sP_14 {A : Nat → Nat → Nat} {nm : Nat → Int64} {d : Nat} {v : Int64} {m : Nat} (h : fnd (sP A nm d v) m 0 < m) : A 14 (48 * d + fnd (sP A nm d v) m 0) ≠ 0 ∧ nm (48 * d + fnd (sP A nm d v) m 0) = v := by
  have key : ∀ f, sP A nm d v f = true → A 14 (48 * d + f) ≠ 0 ∧ nm (48 * d + f) = v := by
    intro f hf
    unfold sP at hf
    simp at hf
    exact hf
  exact key _ (fnd_yes (sP A nm d v) m 0 (by omega))
theorem Xr.t14 {B T S C W Ls na hb : Nat} {um : q_St} {D K : Nat → Nat → Int64} {dd : Nat → Bool} {A : Nat → Nat → Nat} {nm : Nat → Int64} {L : Nat → Nat} {ux : q_St} (x : Xr B T S C W Ls na hb um D K dd A nm L ux) : ∀ j, j < 3072 → A 14 j ≠ 0 → A 14 j < 64 := fun j hj h => (x.2.2.2.2.2.2.1 j hj h).2.2.1
theorem Xr.t8 {B T S C W Ls na hb : Nat} {um : q_St} {D K : Nat → Nat → Int64} {dd : Nat → Bool} {A : Nat → Nat → Nat} {nm : Nat → Int64} {L : Nat → Nat} {ux : q_St} (x : Xr B T S C W Ls na hb um D K dd A nm L ux) {d : Nat} (hd : d < 64) : A 8 d ≤ 12 := (x.2.2.2.1.1 d hd).2.2.2.2.2.1
theorem Xr.k4 {B T S C W Ls na hb : Nat} {um : q_St} {D K : Nat → Nat → Int64} {dd : Nat → Bool} {A : Nat → Nat → Nat} {nm : Nat → Int64} {L : Nat → Nat} {ux : q_St} (x : Xr B T S C W Ls na hb um D K dd A nm L ux) {d : Nat} (hd : d < 64) : A 5 d ≤ 4 := (x.2.2.2.1.1 d hd).1
theorem nI_k {a b : Nat} (ha : a ≤ 4) (hb : b ≤ 4) (h : a ≠ b) : ¬ nI a = nI b := fun z => h (nI_inj (by omega) (by omega) z)
theorem b2i_0 {b : Bool} : b2i b = 0 ↔ b = false := by cases b <;> decide
theorem p_find {B T S C W Ls na : Nat} {L : Nat → Nat} {N : Nat} (g : Geo B T S C W Ls) (gl : gL B C W Ls L) (hna : na = 80 + (Ls + 511) / 512) (hN : 300 ≤ N) : st_find (Iv B T S C W Ls na) L N := by
  intro k ux um x0 v hk h
  refine rd_only (off := -99) g gl hna h (fun q1 q2 => ?_) (fun hb D K dd A nm q1 q2 x rm wh ms => ?_)
  · unfold fX10_find fX11_find
    rw [if_pos q1, if_pos q2]
    exact ⟨rfl, rfl⟩
  · unfold fX10_find fX11_find
    rw [q1, q2, if_neg (by decide), if_neg (by decide)]
    rcases nod x0 with ⟨n, hn, e⟩ | e
    · subst e
      rw [x_kindOf x hn, qb_s, m_isDir rm hn (x.k4 hn), qb_s]
      by_cases c : A 5 n = 2
      · rw [if_pos c, c, if_pos (show nI 2 = (2 : Int32) from rfl), if_neg (show ¬ (1 : Int32) = 0 by decide), x_isName hN, m_isName hN, qb_s, qb_s]
        cases hv : isNm v with
        | false =>
          rw [b2i_f, if_pos rfl, if_pos rfl]
          exact ⟨_, rfl, rfl⟩
        | true =>
          rw [b2i_t, if_neg (by decide), if_neg (by decide), x_may x hn (by omega) (by omega), m_may rm hn, qb_s, qb_s, wh.1]
          rcases mayR_01 (q_i um 28) (nI (A 11 n)) (nI (A 12 n)) 1 with hm | hm
          · rw [hm, if_pos rfl, if_pos rfl]
            exact ⟨_, rfl, rfl⟩
          · have h8 := x.t8 hn
            rw [hm, if_neg (by decide), if_neg (by decide), x_seek x hN hn c (isNm_ok hv).1, m_slotOf rm hN hn h8 x.t14, qb_s, qb_s]
            by_cases cf : fnd (sP A nm n v) (4 * A 8 n) 0 < 4 * A 8 n
            · have h14 := (sP_14 cf).1
              rw [if_neg (fun z => (slX_no (by omega)).mp z cf), if_neg (fun z => (slM_no (by omega)).mp z cf)]
              unfold slX slM
              rw [if_pos cf, if_pos cf, x_nodeAt x hn c cf h14, qb_s, qr_n (by omega) (by omega), (rm.2.2.2.2.2.1 _ (by omega)).1]
              unfold i0
              rw [if_neg h14]
              exact ⟨_, rfl, rfl⟩
            · rw [if_pos ((slX_no (by omega)).mpr cf), if_pos ((slM_no (by omega)).mpr cf)]
              exact ⟨_, rfl, rfl⟩
      · rw [if_neg c, if_pos rfl, if_neg (show ¬ nI (A 5 n) = (2 : Int32) from nI_k (b := 2) (x.k4 hn) (by decide) c)]
        exact ⟨_, rfl, rfl⟩
    · rw [x_kindOut e, qb_s, m_isDirOut e, qb_s, if_neg (by decide), if_pos rfl]
      exact ⟨_, rfl, rfl⟩
theorem x_byteCount {B T S C W Ls na hb : Nat} {um : q_St} {D K : Nat → Nat → Int64} {dd : Nat → Bool} {A : Nat → Nat → Nat} {nm : Nat → Int64} {L : Nat → Nat} {N : Nat} {ux : q_St} (x : Xr B T S C W Ls na hb um D K dd A nm L ux) {n : Nat} (hn : n < 64) (h0 : A 5 n ≠ 0) (h2 : A 5 n ≠ 2) : fX0_byteCount L N (nI n) ux = some (nI (A 6 n), ux) := by
  unfold fX0_byteCount
  rw [x_kindOf x hn, qb_s]
  have hk := x.k4 hn
  by_cases c : A 5 n = 3
  · have := (x.2.2.2.1.2.2.2.2.1 n hn c).1
    rw [c, if_pos (show nI 3 = (3 : Int32) from rfl), x.2.1.1.gx.2.2.2.2.2.2.2.2.2.2.2.2.1, show (64 : Int32) * nI W = nI (64 * W) from pk_mul 64 W, this]
  · rw [if_neg (show ¬ nI (A 5 n) = (3 : Int32) from nI_k (b := 3) hk (by decide) c), x_lengthOf x hn h0, qb_s, if_pos (by omega)]
theorem p_size {B T S C W Ls na : Nat} {L : Nat → Nat} {N : Nat} (g : Geo B T S C W Ls) (gl : gL B C W Ls L) (hna : na = 80 + (Ls + 511) / 512) (hN : 300 ≤ N) : st_size (Iv B T S C W Ls na) L N := by
  intro k ux um x0 hk h
  refine rd_only (off := -99) g gl hna h (fun q1 q2 => ?_) (fun hb D K dd A nm q1 q2 x rm wh ms => ?_)
  · unfold fX10_size fX11_size fX10_refusalOfFree
    rw [if_pos q1, if_pos q2, qb_s, if_neg (by decide)]
    exact ⟨rfl, rfl⟩
  · unfold fX10_size fX11_size fX10_refusalOfFree
    rw [q1, q2, if_neg (by decide), if_neg (by decide)]
    rcases nod x0 with ⟨n, hn, e⟩ | e
    · subst e
      have hk4 := x.k4 hn
      rw [x_kindOf x hn, qb_s, if_neg (n64 hn).1, if_neg (n64 hn).2, qr_n hn (by decide), rm.r7 (by decide) hn]
      by_cases c : A 5 n = 0
      · rw [c, if_pos (show nI 0 = (0 : Int32) from rfl), if_pos (show nI 0 = (0 : Int32) from rfl), qb_s, if_neg (by decide)]
        exact ⟨_, rfl, rfl⟩
      · have n0 : ¬ nI (A 5 n) = (0 : Int32) := nI_k (b := 0) hk4 (by decide) c
        rw [if_neg n0, if_neg n0, qb_s, if_pos rfl, x_kindOf x hn, qb_s, qr_n hn (by decide), rm.r7 (by decide) hn]
        by_cases c2 : A 5 n = 2
        · rw [c2, if_pos (show nI 2 = (2 : Int32) from rfl), if_pos (show nI 2 = (2 : Int32) from rfl), x_nameCount x hN hn c2, m_names rm hN hn (x.t8 hn) x.t14, qb_s, qb_s]
          exact ⟨_, rfl, rfl⟩
        · have n2 : ¬ nI (A 5 n) = (2 : Int32) := nI_k (b := 2) hk4 (by decide) c2
          rw [if_neg n2, if_neg n2, x_byteCount x hn c c2, qb_s, qr_n hn (by decide), rm.r7 (by decide) hn]
          exact ⟨_, rfl, rfl⟩
    · rw [x_kindOut e, qb_s, if_pos rfl, qb_s, if_neg (by decide)]
      rcases e with e | ⟨e1, e2⟩
      · rw [if_pos e]
        exact ⟨_, rfl, rfl⟩
      · rw [if_neg e1, if_pos e2]
        exact ⟨_, rfl, rfl⟩
