/-! ===== lay: the bytes of the band, and the tree at the end ===== -/
theorem nxt_mod {n : Nat} (h : 0 < n) : ∀ m, nxt n m = m % n
  | 0 => by rw [Nat.zero_mod]; rfl
  | m + 1 => by
    have e := nxt_mod h m
    have hl := Nat.mod_lt m h
    have e1 : nxt n (m + 1) = if n ≤ nxt n m + 1 then 0 else nxt n m + 1 := rfl
    rw [e1, e]
    by_cases c : n ≤ m % n + 1
    · rw [if_pos c, Nat.add_mod]
      by_cases c1 : n = 1
      · subst c1; omega
      · rw [Nat.mod_eq_of_lt (show 1 < n by omega), show m % n + 1 = n by omega, Nat.mod_self]
    · rw [if_neg c, Nat.add_mod m 1 n, Nat.mod_eq_of_lt (show 1 < n by omega), Nat.mod_eq_of_lt (show m % n + 1 < n by omega)]
theorem pgw_oc {f : Nat → Int32} {b : Nat → Nat} (hb : ∀ k, k < 8 → b k < 256 ∧ f k = nI (b k)) : ∀ j, j ≤ 8 → ∀ i, i < 8 → ocN (pgw f j) i = if i < j then b i else 0
  | 0, _, i, _ => by
    rw [if_neg (Nat.not_lt_zero _)]
    exact oc_0 i
  | j + 1, hj, i, hi => by
    have e1 : pgw f (j + 1) = pgw f j ||| q_lshl (Int32.toInt64 (f j)) (nI (8 * j)) := rfl
    have ih := pgw_oc hb j (by omega)
    obtain ⟨q1, q2⟩ := hb j (by omega)
    rw [e1, q2, oc_orl q1 (by omega) hi (by rw [ih j (by omega), if_neg (by omega)])]
    by_cases c : i = j
    · rw [if_pos c, if_pos (by omega), c]
    · rw [if_neg c, ih i hi]
      by_cases c2 : i < j
      · rw [if_pos c2, if_pos (by omega)]
      · rw [if_neg c2, if_neg (by omega)]
/-- the bytes of a streamed SECTOR -/
theorem ctw_oc {n i j : Nat} {tp : Nat → Int32} {b : Nat → Nat} (h : 0 < n) (hb : ∀ k, k < n → b k < 256 ∧ tp k = nI (b k)) (hj : j < 64) : sO (ctw n tp i) j = b ((64 * i + j) % n) := by
  unfold sO ctw
  rw [pgw_oc (b := fun k => b ((64 * i + 8 * (j / 8) + k) % n)) (fun k hk => by
    rw [nxt_mod h]
    exact hb _ (Nat.mod_lt _ h)) 8 (Nat.le_refl _) (j % 8) (by omega), if_pos (by omega), show 64 * i + 8 * (j / 8) + j % 8 = 64 * i + j by omega]
/-- the SLOT tells of the NODE: all is well-formed again -/
theorem ly_TW {B W Ls fb n d f : Nat} {A0 A : Nat → Nat → Nat} {nm : Nat → Int64} {v : Int64} (t0 : TW B W Ls fb A0 nm) (hn : n < 64) (h0 : A0 5 n = 0) (tv : TV B W Ls fb A nm) (hd : d < 64) (hk : A 5 d = 2) (hv : okN v) (hf : f < 4 * A 8 d) (hz : A 14 (48 * d + f) = 0) (k5 : ∀ m, m ≠ n → A 5 m = A0 5 m) (k5n : A 5 n = 3) (k7 : ∀ m, m ≠ n → A 7 m = A0 7 m) (k14 : A 14 = A0 14) (k15 : ∀ m, m ≠ n → A 15 m = A0 15 m) (k15n : A 15 n = 1) : TW B W Ls fb (setA A 14 (48 * d + f) n) (setN nm (48 * d + f) v) := by
  obtain ⟨t1, t2, t3, t4⟩ := tv
  obtain ⟨s1, s2, s3, s4, s5⟩ := t0.2.2.2
  have hn0 : n ≠ 0 := fun z => by rw [z] at h0; have := t0.1.2.1.1; omega
  have e : ∀ k, k ≠ 14 → setA A 14 (48 * d + f) n k = A k := fun k hk => setA_k hk
  have et : tl (setA A 14 (48 * d + f) n) W = tl A W := tl_sc (e 5 (by decide)) (e 8 (by decide)) (e 9 (by decide)) (e 10 (by decide)) (e 13 (by decide))
  have h8 := (t1.1 d hd).2.2.2.2.2.1
  refine ⟨?_, ?_, ?_, ?_⟩
  · unfold TW1 at t1 ⊢
    rw [e 5 (by decide), e 6 (by decide), e 7 (by decide), e 8 (by decide), e 11 (by decide), e 12 (by decide), e 13 (by decide), e 15 (by decide), e 16 (by decide), e 17 (by decide), e 18 (by decide)]
    exact t1
  · have es : szp (setA A 14 (48 * d + f) n) = szp A := by funext m; unfold szp; rw [e 6 (by decide)]
    unfold TW2 at t2 ⊢
    rw [es, e 5 (by decide), e 9 (by decide), e 10 (by decide)]
    exact t2
  · unfold TW3 at t3 ⊢
    rw [et, e 17 (by decide)]
    exact t3
  · have noN : ∀ j, j < 3072 → A 14 j ≠ n := by
      intro j hj z
      rw [k14] at z
      have := (s1 j hj (by rw [z]; exact hn0)).2.2.2.1
      rw [z] at this
      exact this h0
    refine ⟨fun j hj z => ?_, fun m hm hm0 => ?_, fun m hm hm0 z => ?_, fun m hm hm0 z => ?_, fun m hm z => ?_⟩
    · rw [e 5 (by decide), e 8 (by decide), e 7 (by decide)]
      by_cases c : j = 48 * d + f
      · subst c
        rw [setA_s]
        rw [show (48 * d + f) / 48 = d by omega, show (48 * d + f) % 48 = f by omega]
        refine ⟨hk, hf, hn, by omega, ?_, fun y => by omega⟩
        unfold setN
        rw [if_pos rfl]
        exact hv
      · rw [setA_n c] at z ⊢
        obtain ⟨q1, q2, q3, q4, q5, q6⟩ := t4 j hj z
        refine ⟨q1, q2, q3, q4, ?_, q6⟩
        unfold setN
        rw [if_neg c]
        exact q5
    · rw [e 5 (by decide), e 15 (by decide)]
      have old := s2 m hm hm0
      by_cases c : m = n
      · subst c
        rw [if_neg (by omega), k15n]
        have eP : (fun j => decide (setA A 14 (48 * d + f) m 14 j = m)) = setb (fun j => decide (A 14 j = m)) (48 * d + f) true := by
          funext j
          by_cases cj : j = 48 * d + f
          · rw [cj, setb_s, setA_s]
            exact decide_eq_true rfl
          · rw [setb_n cj, setA_n cj]
        have z0 : cnt (fun j => decide (A 14 j = m)) 3072 = 0 := by
          rw [show (0 : Nat) = cnt (fun _ => false) 3072 from (cnt_no _).symm]
          exact cnt_congr (fun j hj => decide_eq_false (noN j hj))
        rw [eP, cnt_set (by omega) (decide_eq_false (noN _ (by omega))), z0]
      · rw [k5 m c, k15 m c, ← old]
        refine cnt_congr (fun j hj => ?_)
        by_cases cj : j = 48 * d + f
        · rw [cj, setA_s, ← k14, hz, decide_eq_false (fun z => c z.symm), decide_eq_false (fun z => hm0 z.symm)]
        · rw [setA_n cj, k14]
    · rw [e 15 (by decide)]
      rw [e 5 (by decide)] at z
      by_cases c : m = n
      · rw [c, k5n] at z; omega
      · rw [k5 m c] at z
        rw [k15 m c]
        exact s3 m hm hm0 z
    · rw [e 15 (by decide)]
      rw [e 5 (by decide)] at z
      by_cases c : m = n
      · rw [c, k15n]; decide
      · rw [k5 m c] at z
        rw [k15 m c]
        exact s4 m hm hm0 z
    · rw [e 5 (by decide)] at z
      have c : m ≠ n := fun y => by rw [y, k5n] at z; omega
      rw [k5 m c] at z
      obtain ⟨k, hk⟩ := s5 m hm z
      have h7 : ∀ m, m < 64 → A0 5 m = 2 → A0 7 m < 64 ∧ A0 5 (A0 7 m) = 2 := fun m hm hk => ⟨(t0.1.2.2.1 m hm hk).1, (t0.1.2.2.1 m hm hk).2.1⟩
      have key : ∀ k m, m < 64 → A0 5 m = 2 → upn A k m = upn A0 k m := by
        intro k
        induction k with
        | zero => intro m _ _; rfl
        | succ k ih =>
          intro m hm hk
          have c : m ≠ n := fun y => by rw [y] at hk; omega
          have q := h7 m hm hk
          have e1 : upn A (k + 1) m = upn A k (A 7 m) := rfl
          have e2 : upn A0 (k + 1) m = upn A0 k (A0 7 m) := rfl
          rw [e1, e2, k7 m c]
          exact ih _ q.1 q.2
      exact ⟨k, by rw [upn_cg (e 7 (by decide)), key k m hm z]; exact hk⟩
