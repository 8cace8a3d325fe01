/-! ===== put: what the tree is afterwards ===== -/
theorem cnt_img {P : Nat → Bool} {n : Nat} {f : Nat → Nat} : ∀ (k : Nat) (Q : Nat → Bool), (∀ z, z < n → P z = true → Q z = true ∨ ∃ i, i < k ∧ f i = z) → cnt P n ≤ cnt Q n + k := by
  intro k
  induction k with
  | zero =>
    intro Q h
    refine cnt_mono (fun z hz hp => ?_)
    rcases h z hz hp with q | ⟨i, q, -⟩
    · exact q
    · omega
  | succ k ih =>
    intro Q h
    have a := ih (setb Q (f k) true) (fun z hz hp => by
      rcases h z hz hp with q | ⟨i, q1, q2⟩
      · exact Or.inl (sbt.mpr (Or.inr q))
      · by_cases c : i = k
        · exact Or.inl (sbt.mpr (Or.inl (by rw [← q2, c])))
        · exact Or.inr ⟨i, by omega, q2⟩)
    have b := cnt_up1 (P := Q) (x := f k) (n := n)
    omega
theorem setA_same {A : Nat → Nat → Nat} {k j : Nat} : setA A k j (A k j) = A := by
  funext r i
  by_cases c : r = k
  · subst c
    by_cases c2 : i = j
    · rw [c2, setA_s]
    · rw [setA_n c2]
  · rw [setA_k c]
theorem pt_TW {B W Ls fb n sz a len p1 p2 : Nat} {A Af : Nat → Nat → Nat} {nm : Nat → Int64} (t : TW B W Ls fb A nm) (hn : n < 64) (h1 : A 5 n = 1) (hs1 : A 6 n ≤ sz) (hs2 : a + len ≤ sz) (hs3 : sz ≤ 68352) (hlen : 1 ≤ len) (hp1 : p1 = a / 64) (hp2 : p2 = (a + len - 1) / 64) (t1 : TW1 W B Af) (t3 : TW3 W Ls fb Af) (ff : (∀ q, 12 ≤ q → q < 1068 → tl Af W n q ≠ 0 → tl Af W n (trl q) ≠ 0) ∧ ∀ i, i < 32 → tl Af W n (1070 + i) ≠ 0 → tl Af W n 1069 ≠ 0) (keep : ∀ r, tl A W n r ≠ 0 → tl Af W n r = tl A W n r) (kk : ∀ k, k ≠ 9 → k ≠ 10 → k ≠ 17 → k ≠ 18 → Af k = A k) (k9 : ∀ j, j / 1068 ≠ n → Af 9 j = A 9 j) (k10 : ∀ j, j / 34 ≠ n → Af 10 j = A 10 j) (new : ∀ r, tl Af W n r ≠ 0 → tl A W n r ≠ 0 ∨ ndB p1 p2 r = true) (hpc : ∀ p, p1 ≤ p → p ≤ p2 → tl Af W n p ≠ 0) : TW B W Ls fb (setA Af 6 n sz) nm := by
  have ft := FT_of (W := W) t.2.1 hn h1
  have k5 := kk 5 (by decide) (by decide) (by decide) (by decide)
  have k6 := kk 6 (by decide) (by decide) (by decide) (by decide)
  have k7 := kk 7 (by decide) (by decide) (by decide) (by decide)
  have k8 := kk 8 (by decide) (by decide) (by decide) (by decide)
  have k14 := kk 14 (by decide) (by decide) (by decide) (by decide)
  have k15 := kk 15 (by decide) (by decide) (by decide) (by decide)
  have h1f : Af 5 n = 1 := by rw [k5]; exact h1
  have e : ∀ k, k ≠ 6 → setA Af 6 n sz k = Af k := fun k hk => setA_k hk
  have et : tl (setA Af 6 n sz) W = tl Af W := tl_sc (e 5 (by decide)) (e 8 (by decide)) (e 9 (by decide)) (e 10 (by decide)) (e 13 (by decide))
  have a9 : ∀ q, q < 1068 → Af 9 (1068 * n + q) = tl Af W n q := fun q hq => (tl_p h1f hq).symm
  have a10 : ∀ i, i < 34 → Af 10 (34 * n + i) = tl Af W n (1068 + i) := fun i hi => (tl_i h1f hi).symm
  have o9 : ∀ q, q < 1068 → A 9 (1068 * n + q) = tl A W n q := fun q hq => (tl_p h1 hq).symm
  obtain ⟨-, t2, -, t4⟩ := t
  refine ⟨?_, ⟨fun m hm z => ?_, fun m hm z => ?_⟩, ?_, ?_⟩
  · unfold TW1 at t1 ⊢
    rw [e 5 (by decide), e 7 (by decide), e 8 (by decide), e 11 (by decide), e 12 (by decide), e 13 (by decide), e 15 (by decide), e 16 (by decide), e 17 (by decide), e 18 (by decide)]
    obtain ⟨q1, q2, q3, q4, q5, q6, q7, q8⟩ := t1
    refine ⟨fun m hm => ?_, q2, q3, fun m hm z => ?_, fun m hm z => ?_, q6, q7, q8⟩
    · obtain ⟨p1, p2, p3, p4, p5, p6⟩ := q1 m hm
      refine ⟨p1, p2, p3, p4, ?_, p6⟩
      by_cases c : m = n
      · rw [c, setA_s]; exact hs3
      · rw [setA_n c]; exact p5
    · rw [setA_n (fun c => by rw [c] at z; omega)]; exact q4 m hm z
    · rw [setA_n (fun c => by rw [c] at z; omega)]; exact q5 m hm z
  · rw [e 5 (by decide), k5] at z
    rw [e 9 (by decide), e 10 (by decide)]
    have hmn : m ≠ n := fun c => by rw [c] at z; exact z h1
    obtain ⟨q1, q2⟩ := t2.1 m hm z
    refine ⟨fun p hp => ?_, fun i hi => ?_⟩
    · rw [k9 _ (by omega)]; exact q1 p hp
    · rw [k10 _ (by omega)]; exact q2 i hi
  · rw [e 5 (by decide), k5] at z
    rw [e 9 (by decide), e 10 (by decide)]
    have hx : ∀ q, 12 ≤ q → q < 1068 → ixo q < 34 := fun q _ _ => by unfold ixo; split <;> omega
    by_cases c : m = n
    · subst c
      have hs : szp (setA Af 6 m sz) m = (sz + 63) / 64 := by unfold szp; rw [setA_s]
      rw [hs]
      have old := (t2.2 m hm h1).1
      refine ⟨fun q hq hq2 => ?_, fun q q1 q2 q3 => ?_, fun i i1 i2 i3 => ?_, fun i i1 i2 i3 => ?_, fun i3 => ?_⟩
      · rw [a9 q hq]
        by_cases w0 : tl Af W m q = 0
        · exact w0
        · exfalso
          rcases new q w0 with y | y
          · rw [← o9 q hq] at y
            refine y (old q hq ?_)
            unfold szp
            omega
          · have := of_decide_eq_true y
            omega
      · rw [a9 q q2] at q3
        rw [a10 _ (hx q q1 q2), ixo_trl q1 q2]
        exact ff.1 q q1 q2 q3
      · rw [a10 i i2] at i3
        rw [a10 1 (by decide)]
        exact ff.2 (i - 2) (by omega) (by rw [show 1070 + (i - 2) = 1068 + i by omega]; exact i3)
      · rw [a10 i i1] at i3
        have w : ∃ q, 12 ≤ q ∧ q < 1068 ∧ trl q = 1068 + i ∧ tl Af W m q ≠ 0 := by
          rcases new _ i3 with y | y
          · obtain ⟨q, w1, w2, w3, w4⟩ := ft.2.1 (1068 + i) (by omega) y
            exact ⟨q, w1, w2, w3, by rw [keep q w4]; exact w4⟩
          · have := of_decide_eq_true y
            by_cases c0 : i = 0
            · refine ⟨max 12 p1, by omega, by omega, ?_, hpc _ (by omega) (by omega)⟩
              unfold trl
              rw [if_pos (by omega), c0]
            · refine ⟨max p1 (44 + 32 * (i - 2)), by omega, by omega, ?_, hpc _ (by omega) (by omega)⟩
              unfold trl
              rw [if_neg (by omega), if_pos (by omega)]
              omega
        obtain ⟨q, w1, w2, w3, w4⟩ := w
        exact ⟨q, w1, w2, by have := ixo_trl w1 w2; omega, by rw [a9 q w2]; exact w4⟩
      · rw [a10 1 (by decide)] at i3
        have w : ∃ i, i < 32 ∧ tl Af W m (1070 + i) ≠ 0 := by
          rcases new _ i3 with y | y
          · obtain ⟨i, w1, w2⟩ := ft.2.2.2 y
            exact ⟨i, w1, by rw [keep _ w2]; exact w2⟩
          · have hy := of_decide_eq_true y
            have hq := hpc (max p1 44) (by omega) (by omega)
            have := ff.1 (max p1 44) (by omega) (by omega) hq
            unfold trl at this
            rw [if_neg (by omega), if_pos (by omega)] at this
            exact ⟨_, by omega, this⟩
        obtain ⟨i, w1, w2⟩ := w
        exact ⟨2 + i, by omega, by omega, by rw [a10 _ (by omega), show 1068 + (2 + i) = 1070 + i by omega]; exact w2⟩
    · have r9 : ∀ q, q < 1068 → Af 9 (1068 * m + q) = A 9 (1068 * m + q) := fun q hq => k9 _ (by omega)
      have r10 : ∀ i, i < 34 → Af 10 (34 * m + i) = A 10 (34 * m + i) := fun i hi => k10 _ (by omega)
      obtain ⟨q1, q2, q3, q4, q5⟩ := t2.2 m hm z
      have hs : szp (setA Af 6 n sz) m = szp A m := by unfold szp; rw [setA_n c, k6]
      rw [hs]
      refine ⟨fun p hp hp2 => ?_, fun p p1 p2 p3 => ?_, fun i i1 i2 i3 => ?_, fun i i1 i2 i3 => ?_, fun i3 => ?_⟩
      · rw [r9 p hp]; exact q1 p hp hp2
      · rw [r9 p p2] at p3
        rw [r10 _ (hx p p1 p2)]
        exact q2 p p1 p2 p3
      · rw [r10 i i2] at i3
        rw [r10 1 (by decide)]
        exact q3 i i1 i2 i3
      · rw [r10 i i1] at i3
        obtain ⟨p, p1, p2, p3, p4⟩ := q4 i i1 i2 i3
        exact ⟨p, p1, p2, p3, by rw [r9 p p2]; exact p4⟩
      · rw [r10 1 (by decide)] at i3
        obtain ⟨i, i1, i2, i4⟩ := q5 i3
        exact ⟨i, i1, i2, by rw [r10 i i2]; exact i4⟩
  · unfold TW3 at t3 ⊢
    rw [et, e 17 (by decide)]
    exact t3
  · unfold TW4 at t4 ⊢
    have eu : ∀ k m, upn (setA Af 6 n sz) k m = upn A k m := upn_cg (by rw [e 7 (by decide), k7])
    rw [e 5 (by decide), e 7 (by decide), e 8 (by decide), e 14 (by decide), e 15 (by decide), k5, k7, k8, k14, k15]
    obtain ⟨q1, q2, q3, q4, q5⟩ := t4
    refine ⟨q1, q2, q3, q4, fun m hm z => ?_⟩
    obtain ⟨k, hk⟩ := q5 m hm z
    exact ⟨k, by rw [eu]; exact hk⟩
theorem RXf_len {W Ls na n sz : Nat} {A : Nat → Nat → Nat} {nm : Nat → Int64} {K : Nat → Nat → Int64} (hL : Ls ≤ 2048) (hna : na = 80 + (Ls + 511) / 512) (t3 : TW3 W Ls (na + 64) A) (hn : n < 64) (hsz : sz < 2 ^ 31) (r : RXf W Ls na A nm K n) : RXf W Ls na (setA A 6 n sz) nm (setW K (na + n) 0 (slW (K (na + n) 0) sz)) n := by
  have e : ∀ k, k ≠ 6 → setA A 6 n sz k = A k := fun k hk => setA_k hk
  have et : tl (setA A 6 n sz) W = tl A W := tl_sc (e 5 (by decide)) (e 8 (by decide)) (e 9 (by decide)) (e 10 (by decide)) (e 13 (by decide))
  have ko : ∀ y, y ≠ na + n → setW K (na + n) 0 (slW (K (na + n) 0) sz) y = K y := fun y hy => by funext j; exact setW_n (fun z => hy z.1)
  have hne : ∀ m r, m < 64 → tl A W m r ≠ 0 → tl A W m r ≠ na + n := fun m r hm h0 => by
    have := t3.2.1 m r hm h0
    omega
  obtain ⟨⟨r1, r2, r3⟩, ⟨s1, s2, s3, s4, s5⟩, te, da⟩ := r
  refine ⟨⟨fun y hy => ?_, fun m hm hmn => ?_, fun m r hm hmn ht => ?_⟩, ⟨?_, ?_, ?_, ?_, ?_⟩, fun q hq ha => ?_, fun q hq ht j hj => ?_⟩
  · rw [ko _ (by omega), e 17 (by decide)]
    exact r1 y hy
  · have q := r2 m hm hmn
    rw [ko _ (by omega)]
    unfold mNode at q ⊢
    rw [e 5 (by decide), e 7 (by decide), e 8 (by decide), e 9 (by decide), e 10 (by decide), e 11 (by decide), e 12 (by decide), e 13 (by decide), e 15 (by decide), e 16 (by decide), setA_n hmn]
    exact q
  · rw [et] at ht ⊢
    have q := r3 m r hm hmn ht
    rw [ko _ (hne m r hm ht)]
    unfold mRole at q ⊢
    rw [e 5 (by decide), e 9 (by decide), e 10 (by decide), e 14 (by decide), e 18 (by decide)]
    exact q
  · rw [setW_s, slW_oc hsz (by decide)]; exact s1
  · rw [setW_s, slW_oc hsz (by decide), e 11 (by decide)]; exact s2
  · rw [setW_s, slW_oc hsz (by decide), e 12 (by decide)]; exact s3
  · rw [setW_s, slW_oc hsz (by decide), e 15 (by decide)]; exact s4
  · rw [setW_s, slW_hi hsz, setA_s]
  · have et2 : tel (setA A 6 n sz) W na n = tel A W na n := by funext r; unfold tel; rw [et]
    rw [et] at ha ⊢
    rw [et2, ← te q hq ha]
    by_cases c : own q = true
    · rw [tel_own c]
      have := hpl_own c (show q < 1114 by omega)
      unfold sH
      rw [setW_n (fun z => by omega)]
    · have : tel A W na n q = tl A W n (trl q) := by unfold tel; rw [if_neg c]
      rw [this]
      rcases ha with z | z
      · exact absurd z c
      · rw [ko _ (hne n _ hn z)]
  · rw [et] at ht ⊢
    rw [ko _ (hne n q hn ht), e 18 (by decide)]
    exact da q hq ht j hj
