/-! ===== a NODE is dropped: the tree ===== -/
/-- the rows of the tree behind it -/
def DF (A Af : Nat → Nat → Nat) (W n j0 : Nat) (P : Nat → Bool) : Prop := (∀ m, Af 5 m = if m = n then 0 else A 5 m) ∧ (∀ m, Af 8 m = if m = n then 0 else A 8 m) ∧ (∀ j, Af 9 j = if j / 1068 = n ∧ P (j % 1068) = true then 0 else A 9 j) ∧ (∀ j, Af 10 j = if j / 34 = n ∧ P (1068 + j % 34) = true then 0 else A 10 j) ∧ (∀ x, Af 17 x ≤ 1 ∧ (Af 17 x = 1 ↔ A 17 x = 1 ∧ ¬ gvn A W n P x)) ∧ (∀ j, Af 14 j = if j = j0 then 0 else A 14 j) ∧ (∀ m, Af 15 m = if m = n then 0 else A 15 m) ∧ Af 6 = A 6 ∧ Af 7 = A 7 ∧ Af 11 = A 11 ∧ Af 12 = A 12 ∧ Af 13 = A 13 ∧ Af 16 = A 16 ∧ Af 18 = A 18
theorem DF_of {A A1 : Nat → Nat → Nat} {W na n Ls j0 : Nat} {P dm dm1 : Nat → Bool} (gm : GM (setA (setA A 14 j0 0) 15 n 0) W na n Ls P A1 dm dm1) : DF A (setA (setA A1 8 n 0) 5 n 0) W n j0 P := by
  obtain ⟨g1, g2, g3, g4, g5, g6⟩ := gm
  have e : ∀ k, k ≠ 14 → k ≠ 15 → setA (setA A 14 j0 0) 15 n 0 k = A k := fun k k1 k2 => by rw [setA_k k2, setA_k k1]
  have ev : gvn (setA (setA A 14 j0 0) 15 n 0) W n P = gvn A W n P := by
    funext z
    unfold gvn
    rw [tl_sc (e 5 (by decide) (by decide)) (e 8 (by decide) (by decide)) (e 9 (by decide) (by decide)) (e 10 (by decide) (by decide)) (e 13 (by decide) (by decide))]
  have k1 : ∀ k, k ≠ 5 → k ≠ 8 → setA (setA A1 8 n 0) 5 n 0 k = A1 k := fun k k1 k2 => by rw [setA_k k1, setA_k k2]
  have k2 : ∀ k, k ≠ 5 → k ≠ 8 → k ≠ 9 → k ≠ 10 → k ≠ 17 → k ≠ 14 → k ≠ 15 → setA (setA A1 8 n 0) 5 n 0 k = A k := fun k h1 h2 h3 h4 h5 h6 h7 => by rw [k1 k h1 h2, g2 k h3 h4 h5, e k h6 h7]
  refine ⟨fun m => ?_, fun m => ?_, fun j => ?_, fun j => ?_, fun x => ?_, fun j => ?_, fun m => ?_, k2 6 (by decide) (by decide) (by decide) (by decide) (by decide) (by decide) (by decide), k2 7 (by decide) (by decide) (by decide) (by decide) (by decide) (by decide) (by decide), k2 11 (by decide) (by decide) (by decide) (by decide) (by decide) (by decide) (by decide), k2 12 (by decide) (by decide) (by decide) (by decide) (by decide) (by decide) (by decide), k2 13 (by decide) (by decide) (by decide) (by decide) (by decide) (by decide) (by decide), k2 16 (by decide) (by decide) (by decide) (by decide) (by decide) (by decide) (by decide), k2 18 (by decide) (by decide) (by decide) (by decide) (by decide) (by decide) (by decide)⟩
  · by_cases c : m = n
    · rw [c, setA_s, if_pos rfl]
    · rw [setA_n c, if_neg c, setA_k (by decide), g2 5 (by decide) (by decide) (by decide), e 5 (by decide) (by decide)]
  · rw [setA_k (by decide)]
    by_cases c : m = n
    · rw [c, setA_s, if_pos rfl]
    · rw [setA_n c, if_neg c, g2 8 (by decide) (by decide) (by decide), e 8 (by decide) (by decide)]
  · rw [k1 9 (by decide) (by decide), g3, e 9 (by decide) (by decide)]
  · rw [k1 10 (by decide) (by decide), g4, e 10 (by decide) (by decide)]
  · have := g5 x
    rw [ev, e 17 (by decide) (by decide)] at this
    rw [k1 17 (by decide) (by decide)]
    exact this
  · rw [k1 14 (by decide) (by decide), g2 14 (by decide) (by decide) (by decide), setA_k (by decide)]
    by_cases c : j = j0
    · rw [c, setA_s, if_pos rfl]
    · rw [setA_n c, if_neg c]
  · rw [k1 15 (by decide) (by decide), g2 15 (by decide) (by decide) (by decide)]
    by_cases c : m = n
    · rw [c, setA_s, if_pos rfl]
    · rw [setA_n c, if_neg c, setA_k (by decide)]
theorem DF_tl {A Af : Nat → Nat → Nat} {W n j0 : Nat} {P : Nat → Bool} (df : DF A Af W n j0 P) {m r : Nat} : tl Af W m r = if m = n then 0 else tl A W m r := by
  obtain ⟨d5, d8, d9, d10, d17, d14, d15, e6, e7, e11, e12, e13, e16, e18⟩ := df
  unfold tl
  by_cases c : m = n
  · rw [if_pos c, d5, if_pos c, if_neg (by decide), if_neg (by decide), if_neg (by decide)]
  · rw [if_neg c, d5, if_neg c, d8, if_neg c, e13]
    by_cases k1 : A 5 m = 1
    · rw [if_pos k1, if_pos k1]
      by_cases c1 : r < 1068
      · rw [if_pos c1, if_pos c1, d9, if_neg (fun z => c (by omega))]
      · rw [if_neg c1, if_neg c1]
        by_cases c2 : r < 1102
        · rw [if_pos c2, if_pos c2, d10, if_neg (fun z => c (by omega))]
        · rw [if_neg c2, if_neg c2]
    · rw [if_neg k1, if_neg k1]
theorem dr_TW {B W Ls fb n j0 : Nat} {A Af : Nat → Nat → Nat} {nm : Nat → Int64} {P : Nat → Bool} (t : TW B W Ls fb A nm) (hfb : 0 < fb) (hn : n < 64) (hn0 : n ≠ 0) (hj : j0 < 3072) (h14 : A 14 j0 = n) (h15 : A 15 n = 1) (he : A 5 n = 2 → ∀ s, s < 48 → A 14 (48 * n + s) = 0) (hP : ∀ r, P r = true ↔ tl A W n r ≠ 0) (h9 : ∀ q, q < 1068 → A 9 (1068 * n + q) = tl A W n q) (h10 : ∀ i, i < 34 → A 10 (34 * n + i) = tl A W n (1068 + i)) (df : DF A Af W n j0 P) : TW B W Ls fb Af nm := by
  have htl : ∀ m r, tl Af W m r = if m = n then 0 else tl A W m r := fun m r => DF_tl df
  obtain ⟨d5, d8, d9, d10, d17, d14, d15, e6, e7, e11, e12, e13, e16, e18⟩ := df
  obtain ⟨t1, t2, t3, t4⟩ := t
  have h5 : A 5 n ≠ 0 := (t4.1 j0 hj (by rw [h14]; exact hn0)).2.2.2.1 |> fun q => by rw [h14] at q; exact q
  have cn : cnt (fun j => decide (A 14 j = n)) 3072 = 1 := by
    have := t4.2.1 n hn hn0
    rw [if_neg h5, h15] at this
    exact this
  have only : ∀ j, j < 3072 → j ≠ j0 → A 14 j ≠ n := by
    intro j hj2 hne z
    have q := cnt_clr (P := fun j => decide (A 14 j = n)) (x := j0) hj (decide_eq_true h14)
    have q2 := cnt_clr (P := setb (fun j => decide (A 14 j = n)) j0 false) (x := j) (n := 3072) hj2 (by rw [setb_n hne]; exact decide_eq_true z)
    omega
  have noslot : ∀ j, j < 3072 → A 14 j ≠ 0 → j / 48 ≠ n := by
    intro j hj2 hz e
    have k2 : A 5 n = 2 := by rw [← e]; exact (t4.1 j hj2 hz).1
    have := he k2 (j % 48) (by omega)
    rw [show 48 * n + j % 48 = j by omega] at this
    exact hz this
  have nopar : ∀ m, m < 64 → A 5 m = 2 → m ≠ n → A 7 m ≠ n := by
    intro m hm hk hmn e
    by_cases m0 : m = 0
    · rw [m0] at e
      have := t1.2.1.2
      omega
    · have c1 := t4.2.1 m hm m0
      rw [if_neg (by omega), t4.2.2.1 m hm m0 (Or.inl hk)] at c1
      have : ∃ j, j < 3072 ∧ A 14 j = m := by
        by_cases q : ∃ j, j < 3072 ∧ A 14 j = m
        · exact q
        · exfalso
          have : cnt (fun j => decide (A 14 j = m)) 3072 = cnt (fun _ => false) 3072 := cnt_congr (fun i hi => decide_eq_false (fun z => q ⟨i, hi, z⟩))
          rw [cnt_no] at this
          omega
      obtain ⟨j, j1, j2⟩ := this
      have q := t4.1 j j1 (by rw [j2]; exact m0)
      have q6 := q.2.2.2.2.2 (by rw [j2]; exact hk)
      rw [j2, e] at q6
      exact noslot j j1 (by rw [j2]; exact m0) q6.symm
  refine ⟨⟨fun m hm => ?_, ⟨?_, ?_⟩, fun m hm z => ?_, fun m hm z => ?_, fun m hm z => ?_, ?_, ?_, fun x => (d17 x).1⟩, ⟨fun m hm z => ?_, fun m hm z => ?_⟩, ⟨fun m r m2 r2 hm hm2 hz he2 => ?_, fun m r hm hz => ?_, fun x hx hx2 hu => ?_, fun x hx => ?_⟩, ⟨fun j hj2 hz => ?_, fun m hm hm0 => ?_, fun m hm hm0 z => ?_, fun m hm hm0 z => ?_, fun m hm z => ?_⟩⟩
  · obtain ⟨p1, p2, p3, p4, p5, p6, p7⟩ := t1.1 m hm
    rw [d5, d8, d15, e6, e11, e12]
    refine ⟨?_, p2, p3, ?_, p5, ?_, fun q => ?_⟩
    · split <;> omega
    · split <;> omega
    · split <;> omega
    · split
      · rfl
      · rename_i c
        rw [if_neg c] at q
        exact p7 q
  · rw [d5, if_neg (fun z => hn0 z.symm)]; exact t1.2.1.1
  · rw [e7]; exact t1.2.1.2
  · rw [d5] at z
    by_cases c : m = n
    · rw [if_pos c] at z; cases z
    · rw [if_neg c] at z
      obtain ⟨q1, q2, q3⟩ := t1.2.2.1 m hm z
      rw [e7, e13, d8, if_neg c, d5, if_neg (nopar m hm z c)]
      exact ⟨q1, q2, q3⟩
  · rw [d5] at z
    by_cases c : m = n
    · rw [if_pos c] at z; cases z
    · rw [if_neg c] at z
      rw [e6]; exact t1.2.2.2.1 m hm z
  · rw [d5] at z
    by_cases c : m = n
    · rw [if_pos c] at z; cases z
    · rw [if_neg c] at z
      rw [e6, e13]; exact t1.2.2.2.2.1 m hm z
  · rw [e16]; exact t1.2.2.2.2.2.1
  · rw [e18]; exact t1.2.2.2.2.2.2.1
  · by_cases c : m = n
    · subst c
      refine ⟨fun p hp => ?_, fun i hi => ?_⟩
      · rw [d9, show (1068 * m + p) % 1068 = p by omega]
        by_cases q : P p = true
        · rw [if_pos ⟨by omega, q⟩]
        · rw [if_neg (fun w => q w.2), h9 p hp]
          by_cases w : tl A W m p = 0
          · exact w
          · exact absurd ((hP p).mpr w) q
      · rw [d10, show (34 * m + i) % 34 = i by omega]
        by_cases q : P (1068 + i) = true
        · rw [if_pos ⟨by omega, q⟩]
        · rw [if_neg (fun w => q w.2), h10 i hi]
          by_cases w : tl A W m (1068 + i) = 0
          · exact w
          · exact absurd ((hP _).mpr w) q
    · rw [d5, if_neg c] at z
      obtain ⟨q1, q2⟩ := t2.1 m hm z
      refine ⟨fun p hp => ?_, fun i hi => ?_⟩
      · rw [d9, if_neg (fun w => c (by omega))]; exact q1 p hp
      · rw [d10, if_neg (fun w => c (by omega))]; exact q2 i hi
  · rw [d5] at z
    by_cases c : m = n
    · rw [if_pos c] at z; cases z
    · rw [if_neg c] at z
      have r9 : ∀ p, p < 1068 → Af 9 (1068 * m + p) = A 9 (1068 * m + p) := fun p hp => by rw [d9, if_neg (fun w => c (by omega))]
      have r10 : ∀ i, i < 34 → Af 10 (34 * m + i) = A 10 (34 * m + i) := fun i hi => by rw [d10, if_neg (fun w => c (by omega))]
      obtain ⟨q1, q2, q3, q4, q5⟩ := t2.2 m hm z
      unfold szp at q1 ⊢
      refine ⟨fun p hp hp2 => ?_, fun p p1 p2 p3 => ?_, fun i i1 i2 i3 => ?_, fun i i1 i2 i3 => ?_, fun i3 => ?_⟩
      · rw [r9 p hp]; rw [e6] at hp2; exact q1 p hp hp2
      · rw [r9 p p2] at p3
        have hx : ixo p < 34 := by unfold ixo; split <;> omega
        rw [r10 _ hx]
        exact q2 p p1 p2 p3
      · rw [r10 i i2] at i3
        rw [r10 1 (by decide)]
        exact q3 i i1 i2 i3
      · rw [r10 i i1] at i3
        obtain ⟨p, p1, p2, p3, p4⟩ := q4 i i1 i2 i3
        exact ⟨p, p1, p2, p3, by rw [r9 p p2]; exact p4⟩
      · rw [r10 1 (by decide)] at i3
        obtain ⟨i, i1, i2, i4⟩ := q5 i3
        exact ⟨i, i1, i2, by rw [r10 i i2]; exact i4⟩
  · rw [htl] at hz he2
    rw [htl] at he2
    by_cases c : m = n
    · rw [if_pos c] at hz; exact absurd rfl hz
    · rw [if_neg c] at hz he2
      by_cases c2 : m2 = n
      · rw [if_pos c2] at he2; exact absurd he2 hz
      · rw [if_neg c2] at he2
        exact t3.1 m r m2 r2 hm hm2 hz he2
  · rw [htl] at hz ⊢
    by_cases c : m = n
    · rw [if_pos c] at hz; exact absurd rfl hz
    · rw [if_neg c] at hz ⊢
      obtain ⟨q1, q2, q3⟩ := t3.2.1 m r hm hz
      refine ⟨q1, q2, (d17 _).2.mpr ⟨q3, fun ⟨r', w1, w2⟩ => ?_⟩⟩
      exact c (t3.1 m r n r' hm hn hz w2.symm).1
  · obtain ⟨q1, q2⟩ := (d17 x).2.mp hu
    obtain ⟨m, r, hm, hr⟩ := t3.2.2.1 x hx hx2 q1
    refine ⟨m, r, hm, ?_⟩
    rw [htl, if_neg (fun c => ?_)]
    · exact hr
    · rw [c] at hr
      by_cases w : tl A W n r = 0
      · rw [w] at hr
        omega
      · exact q2 ⟨r, (hP r).mpr w, hr⟩
  · refine (d17 x).2.mpr ⟨t3.2.2.2 x hx, fun ⟨r', w1, w2⟩ => ?_⟩
    have := t3.2.1 n r' hn ((hP r').mp w1)
    omega
  · rw [d14] at hz ⊢
    by_cases c : j = j0
    · rw [if_pos c] at hz; exact absurd rfl hz
    · rw [if_neg c] at hz ⊢
      obtain ⟨q1, q2, q3, q4, q5, q6⟩ := t4.1 j hj2 hz
      have a1 := noslot j hj2 hz
      have a2 := only j hj2 c
      rw [d5, if_neg a1, d8, if_neg a1, d5, if_neg a2, e7]
      exact ⟨q1, q2, q3, q4, q5, q6⟩
  · rw [d5, d15]
    by_cases c : m = n
    · rw [if_pos c, if_pos rfl]
      have : cnt (fun j => decide (Af 14 j = m)) 3072 = cnt (fun _ => false) 3072 := by
        refine cnt_congr (fun j hj2 => decide_eq_false ?_)
        rw [d14]
        by_cases c2 : j = j0
        · rw [if_pos c2]; exact fun z => hm0 z.symm
        · rw [if_neg c2, c]; exact only j hj2 c2
      rw [this, cnt_no]
    · rw [if_neg c, if_neg c, ← t4.2.1 m hm hm0]
      refine cnt_congr (fun j hj2 => ?_)
      rw [d14]
      by_cases c2 : j = j0
      · rw [if_pos c2, c2, h14]
        have a1 : ¬ 0 = m := fun z => hm0 z.symm
        have a2 : ¬ n = m := fun z => c z.symm
        simp [a1, a2]
      · rw [if_neg c2]
  · rw [d5] at z
    by_cases c : m = n
    · rw [if_pos c] at z; omega
    · rw [if_neg c] at z
      rw [d15, if_neg c]
      exact t4.2.2.1 m hm hm0 z
  · rw [d5] at z
    by_cases c : m = n
    · rw [if_pos c] at z; exact absurd rfl z
    · rw [if_neg c] at z
      rw [d15, if_neg c]
      exact t4.2.2.2.1 m hm hm0 z
  · rw [d5] at z
    by_cases c : m = n
    · rw [if_pos c] at z; cases z
    · rw [if_neg c] at z
      obtain ⟨i, hi⟩ := t4.2.2.2.2 m hm z
      exact ⟨i, by rw [upn_cg e7]; exact hi⟩
theorem dr_RX {B W Ls na n j0 : Nat} {A Af : Nat → Nat → Nat} {nm : Nat → Int64} {P dd dd1 : Nat → Bool} {K K1 : Nat → Nat → Int64} (hna : na = 80 + (Ls + 511) / 512) (hL : na + 64 ≤ Ls) (t3 : TW3 W Ls (na + 64) A) (hn : n < 64) (rx : RX W Ls na (setA A 14 j0 0) nm K) (gb : GB A W na n Ls P K K1 dd dd1) (df : DF A Af W n j0 P) : RX W Ls na Af nm (updD K1 (na + n) (fun _ => 0)) := by
  have htl : ∀ m r, tl Af W m r = if m = n then 0 else tl A W m r := fun m r => DF_tl df
  obtain ⟨d5, d8, d9, d10, d17, d14, d15, e6, e7, e11, e12, e13, e16, e18⟩ := df
  obtain ⟨b1, b2, b3, b4, b5, b6⟩ := gb
  obtain ⟨r1, r2, r3⟩ := rx
  have sk : ∀ k, k ≠ 14 → setA A 14 j0 0 k = A k := fun k h => setA_k h
  have kk : ∀ y w, na ≤ y → y < Ls → y ≠ na + n → (∀ r, tl A W n r ≠ y) → updD K1 (na + n) (fun _ => 0) y w = K y w := by
    intro y w y1 y2 y3 y4
    unfold updD
    rw [if_neg y3]
    exact b4 y w y1 y2 y3 (fun r hr => absurd hr (y4 r))
  refine ⟨fun x hx => ?_, fun m hm => ?_, fun m r hm ht => ?_⟩
  · unfold updD
    rw [if_neg (by omega)]
    have q := b2 x hx
    rw [Bool.eq_iff_iff, q]
    simp only [Bool.and_eq_true, decide_eq_true_eq]
    rw [(d17 x).2]
  · by_cases c : m = n
    · subst c
      have e0 : updD K1 (na + m) (fun _ => 0) (na + m) = fun _ => 0 := by
        funext w
        unfold updD
        rw [if_pos rfl]
      have a5 : Af 5 m = 0 := by rw [d5, if_pos rfl]
      rw [e0]
      unfold mNode
      rw [a5]
      refine ⟨?_, fun z => absurd rfl z, fun z => (by cases z), fun z => (by cases z), fun z => (by cases z), fun z => (by cases z)⟩
      unfold ocN
      rw [uN_0, Nat.zero_shiftRight]
    · have q := r2 m hm
      have eK : updD K1 (na + n) (fun _ => 0) (na + m) = K (na + m) := by
        funext w
        refine kk _ _ (by omega) (by omega) (by omega) (fun r z => ?_)
        by_cases w0 : tl A W n r = 0
        · omega
        · have := t3.2.1 n r hn w0
          omega
      rw [eK]
      obtain ⟨p1, p2, p3, p4, p5, p6⟩ := q
      unfold mNode
      rw [d5, if_neg c, d8, if_neg c, d15, if_neg c, e6, e7, e11, e12, e13, e16]
      rw [sk 5 (by decide)] at p1 p2 p3 p4 p5 p6
      rw [sk 11 (by decide), sk 12 (by decide), sk 15 (by decide), sk 6 (by decide)] at p2
      rw [sk 8 (by decide), sk 13 (by decide), sk 7 (by decide)] at p3
      rw [sk 9 (by decide), sk 10 (by decide)] at p4
      rw [sk 13 (by decide)] at p5
      rw [sk 6 (by decide), sk 16 (by decide)] at p6
      refine ⟨p1, p2, p3, fun z => ⟨fun k hk => ?_, ?_, ?_⟩, p5, p6⟩
      · rw [d9, if_neg (fun w => c (by omega))]; exact (p4 z).1 k hk
      · rw [d10, if_neg (fun w => c (by omega))]; exact (p4 z).2.1
      · rw [d10, if_neg (fun w => c (by omega))]; exact (p4 z).2.2
  · rw [htl] at ht ⊢
    by_cases c : m = n
    · rw [if_pos c] at ht; exact absurd rfl ht
    · rw [if_neg c] at ht ⊢
      have hq := t3.2.1 m r hm ht
      have eK : updD K1 (na + n) (fun _ => 0) (tl A W m r) = K (tl A W m r) := by
        funext w
        refine kk _ _ (by omega) hq.2.1 (by omega) (fun r' z => ?_)
        exact c (t3.1 m r n r' hm hn ht z.symm).1
      rw [eK]
      have q := r3 m r hm (by rw [tl_sc (sk 5 (by decide)) (sk 8 (by decide)) (sk 9 (by decide)) (sk 10 (by decide)) (sk 13 (by decide))]; exact ht)
      rw [tl_sc (sk 5 (by decide)) (sk 8 (by decide)) (sk 9 (by decide)) (sk 10 (by decide)) (sk 13 (by decide))] at q
      obtain ⟨o1, o2, o3, o4, o5⟩ := q
      rw [sk 5 (by decide)] at o1 o2 o3 o4 o5
      rw [sk 18 (by decide)] at o1
      rw [sk 9 (by decide)] at o2 o4
      rw [sk 10 (by decide)] at o3
      have r9 : ∀ j, j / 1068 = m → Af 9 j = A 9 j := fun j hj => by rw [d9, if_neg (fun w => c (by omega))]
      have r10 : ∀ j, j / 34 = m → Af 10 j = A 10 j := fun j hj => by rw [d10, if_neg (fun w => c (by omega))]
      unfold mRole
      rw [d5, if_neg c, e18]
      refine ⟨o1, fun z1 z2 j hj => ?_, fun z1 z2 i hi => ?_, fun z1 z2 j hj => ?_, fun z1 s hs => ?_⟩
      · rw [r9 _ (by omega)]; exact o2 z1 z2 j hj
      · rw [r10 _ (by omega)]; exact o3 z1 z2 i hi
      · have hr : r < 1102 := by
          rcases Nat.lt_or_ge r 1102 with q | q
          · exact q
          · exfalso
            apply ht
            unfold tl
            rw [if_pos z1, if_neg (by omega), if_neg (by omega)]
        rw [r9 _ (by omega)]; exact o4 z1 z2 j hj
      · have o := o5 z1 s hs
        have e14 : ∀ j, Af 14 j = setA A 14 j0 0 14 j := by
          intro j
          rw [d14]
          by_cases cj : j = j0
          · rw [cj, if_pos rfl, setA_s]
          · rw [if_neg cj, setA_n cj]
        rw [e14]
        exact o
