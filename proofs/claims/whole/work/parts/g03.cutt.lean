/-! ===== a FILE cut: the tree ===== -/
def CF (A Af : Nat → Nat → Nat) (W n sz x w : Nat) (P : Nat → Bool) : Prop := (∀ m, Af 6 m = if m = n then sz else A 6 m) ∧ (∀ j, Af 9 j = if j / 1068 = n ∧ P (j % 1068) = true then 0 else A 9 j) ∧ (∀ j, Af 10 j = if j / 34 = n ∧ P (1068 + j % 34) = true then 0 else A 10 j) ∧ (∀ x, Af 17 x ≤ 1 ∧ (Af 17 x = 1 ↔ A 17 x = 1 ∧ ¬ gvn A W n P x)) ∧ (∀ j, Af 18 j = if x ≠ 0 ∧ 64 * x + w ≤ j ∧ j < 64 * x + 64 then 0 else A 18 j) ∧ ∀ k, k ≠ 6 → k ≠ 9 → k ≠ 10 → k ≠ 17 → k ≠ 18 → Af k = A k
theorem CF_tl {A Af : Nat → Nat → Nat} {W n sz x w : Nat} {P : Nat → Bool} (cf : CF A Af W n sz x w P) (h1 : A 5 n = 1) (hP : ∀ r, P r = true → r < 1102) {m r : Nat} : tl Af W m r = if m = n ∧ P r = true then 0 else tl A W m r := by
  obtain ⟨c6, c9, c10, c17, c18, ck⟩ := cf
  unfold tl
  rw [ck 5 (by decide) (by decide) (by decide) (by decide) (by decide), ck 8 (by decide) (by decide) (by decide) (by decide) (by decide), ck 13 (by decide) (by decide) (by decide) (by decide) (by decide)]
  by_cases k1 : A 5 m = 1
  · rw [if_pos k1, if_pos k1]
    by_cases c1 : r < 1068
    · rw [if_pos c1, if_pos c1, c9]
      by_cases c : m = n ∧ P r = true
      · rw [if_pos c, if_pos ⟨by omega, by rw [show (1068 * m + r) % 1068 = r by omega]; exact c.2⟩]
      · rw [if_neg c, if_neg (fun z => c ⟨by omega, by rw [← show (1068 * m + r) % 1068 = r by omega]; exact z.2⟩)]
    · rw [if_neg c1, if_neg c1]
      by_cases c2 : r < 1102
      · rw [if_pos c2, if_pos c2, c10]
        have e : 1068 + (34 * m + (r - 1068)) % 34 = r := by omega
        by_cases c : m = n ∧ P r = true
        · rw [if_pos c, if_pos ⟨by omega, by rw [e]; exact c.2⟩]
        · rw [if_neg c, if_neg (fun z => c ⟨by omega, by rw [← e]; exact z.2⟩)]
      · rw [if_neg c2, if_neg c2, if_neg (fun z => c2 (hP r z.2))]
  · rw [if_neg k1, if_neg k1, if_neg (show ¬ (m = n ∧ P r = true) from fun z => k1 (by rw [z.1]; exact h1))]
theorem ct_TW {B W Ls fb n sz x w p : Nat} {A Af : Nat → Nat → Nat} {nm : Nat → Int64} {P : Nat → Bool} (t : TW B W Ls fb A nm) (hn : n < 64) (h1 : A 5 n = 1) (hsz : sz ≤ A 6 n) (hp : p = (sz + 63) / 64) (hP : ∀ r, P r = true ↔ RR A W n p r) (cf : CF A Af W n sz x w P) : TW B W Ls fb Af nm := by
  have hPl : ∀ r, P r = true → r < 1102 := fun r h => by
    rcases (hP r).mp h with q | q | q
    · omega
    · omega
    · omega
  have htl : ∀ m r, tl Af W m r = if m = n ∧ P r = true then 0 else tl A W m r := fun m r => CF_tl cf h1 hPl
  have ft := FT_of (W := W) t.2.1 hn h1
  obtain ⟨c6, c9, c10, c17, c18, ck⟩ := cf
  obtain ⟨t1, t2, t3, t4⟩ := t
  have k5 := ck 5 (by decide) (by decide) (by decide) (by decide) (by decide)
  have k7 := ck 7 (by decide) (by decide) (by decide) (by decide) (by decide)
  have k8 := ck 8 (by decide) (by decide) (by decide) (by decide) (by decide)
  have k11 := ck 11 (by decide) (by decide) (by decide) (by decide) (by decide)
  have k12 := ck 12 (by decide) (by decide) (by decide) (by decide) (by decide)
  have k13 := ck 13 (by decide) (by decide) (by decide) (by decide) (by decide)
  have k14 := ck 14 (by decide) (by decide) (by decide) (by decide) (by decide)
  have k15 := ck 15 (by decide) (by decide) (by decide) (by decide) (by decide)
  have k16 := ck 16 (by decide) (by decide) (by decide) (by decide) (by decide)
  have a9 : ∀ q, q < 1068 → Af 9 (1068 * n + q) = if P q = true then 0 else tl A W n q := by
    intro q hq
    have := htl n q
    rw [tl_p (by rw [k5]; exact h1) hq] at this
    rw [this]
    by_cases c : P q = true
    · rw [if_pos ⟨rfl, c⟩, if_pos c]
    · rw [if_neg (fun z => c z.2), if_neg c]
  have a10 : ∀ i, i < 34 → Af 10 (34 * n + i) = if P (1068 + i) = true then 0 else tl A W n (1068 + i) := by
    intro i hi
    have := htl n (1068 + i)
    rw [tl_i (by rw [k5]; exact h1) hi] at this
    rw [this]
    by_cases c : P (1068 + i) = true
    · rw [if_pos ⟨rfl, c⟩, if_pos c]
    · rw [if_neg (fun z => c z.2), if_neg c]
  refine ⟨?_, ⟨fun m hm z => ?_, fun m hm z => ?_⟩, ⟨fun m r m2 r2 hm hm2 hz he2 => ?_, fun m r hm hz => ?_, fun y hy hy2 hu => ?_, fun y hy => ?_⟩, ?_⟩
  · unfold TW1 at t1 ⊢
    rw [k5, k7, k8, k11, k12, k13, k15, k16]
    obtain ⟨q1, q2, q3, q4, q5, q6, q7, q8⟩ := t1
    refine ⟨fun m hm => ?_, q2, q3, fun m hm z => ?_, fun m hm z => ?_, q6, fun j => ?_, fun y => (c17 y).1⟩
    · obtain ⟨p1, p2, p3, p4, p5, p6⟩ := q1 m hm
      refine ⟨p1, p2, p3, p4, ?_, p6⟩
      rw [c6]
      split
      · rename_i e; rw [e] at p5; omega
      · exact p5
    · rw [c6, if_neg (fun e => by rw [e] at z; omega)]; exact q4 m hm z
    · rw [c6, if_neg (fun e => by rw [e] at z; omega)]; exact q5 m hm z
    · rw [c18]
      split
      · decide
      · exact q7 j
  · rw [k5] at z
    have hmn : m ≠ n := fun e => by rw [e] at z; exact z h1
    obtain ⟨q1, q2⟩ := t2.1 m hm z
    refine ⟨fun p hp => ?_, fun i hi => ?_⟩
    · rw [c9, if_neg (fun w => hmn (by omega))]; exact q1 p hp
    · rw [c10, if_neg (fun w => hmn (by omega))]; exact q2 i hi
  · rw [k5] at z
    by_cases c : m = n
    · subst c
      have hs : szp Af m = p := by unfold szp; rw [c6, if_pos rfl, hp]
      rw [hs]
      have hx : ∀ q, 12 ≤ q → q < 1068 → ixo q < 34 := fun q _ _ => by unfold ixo; split <;> omega
      refine ⟨fun q hq hq2 => ?_, fun q p1 p2 p3 => ?_, fun i i1 i2 i3 => ?_, fun i i1 i2 i3 => ?_, fun i3 => ?_⟩
      · rw [a9 q hq]
        by_cases c : P q = true
        · rw [if_pos c]
        · rw [if_neg c]
          by_cases w0 : tl A W m q = 0
          · exact w0
          · exact absurd ((hP q).mpr (Or.inl ⟨hq, hq2, w0⟩)) c
      · rw [a9 q p2] at p3
        by_cases cq : P q = true
        · rw [if_pos cq] at p3; exact absurd rfl p3
        · rw [if_neg cq] at p3
          have hqp : q < p := by
            rcases Nat.lt_or_ge q p with w | w
            · exact w
            · exact absurd ((hP q).mpr (Or.inl ⟨p2, w, p3⟩)) cq
          rw [a10 _ (hx q p1 p2), ixo_trl p1 p2, if_neg (fun w => ?_)]
          · exact ft.1 q p1 p2 p3
          · have hr := trl_in (r := q) (fun w => by have := own_t w; omega)
            rcases (hP _).mp w with y | y | y
            · omega
            · exact p3 (y.2.2 q p1 p2 hqp rfl)
            · have := y.1
              unfold trl at this
              repeat' split at this
              all_goals omega
      · rw [a10 i i2] at i3
        by_cases cq : P (1068 + i) = true
        · rw [if_pos cq] at i3; exact absurd rfl i3
        · rw [if_neg cq] at i3
          have e : 1070 + (i - 2) = 1068 + i := by omega
          rw [a10 1 (by decide), if_neg (fun w => ?_)]
          · exact ft.2.2.1 (i - 2) (by omega) (by rw [e]; exact i3)
          · rcases (hP _).mp w with y | y | y
            · omega
            · omega
            · have := y.2.2 (i - 2) (by omega) (by rw [e]; exact i3)
              rw [e] at this
              exact cq ((hP _).mpr (Or.inr (Or.inl ⟨by omega, this⟩)))
      · rw [a10 i i1] at i3
        by_cases cq : P (1068 + i) = true
        · rw [if_pos cq] at i3; exact absurd rfl i3
        · rw [if_neg cq] at i3
          have nri : ¬ RI A W m p (1068 + i) := fun w => cq ((hP _).mpr (Or.inr (Or.inl ⟨by omega, w⟩)))
          by_cases ex : ∃ q, 12 ≤ q ∧ q < 1068 ∧ q < p ∧ trl q = 1068 + i ∧ tl A W m q ≠ 0
          · obtain ⟨q, y1, y2, y3, y4, y5⟩ := ex
            refine ⟨q, y1, y2, ?_, ?_⟩
            · have := ixo_trl y1 y2
              omega
            · rw [a9 q y2, if_neg (fun w => ?_)]
              · exact y5
              · rcases (hP q).mp w with y | y | y <;> omega
          · exfalso
            refine nri ⟨i3, fun q q1 q2 q3 q4 => ?_⟩
            by_cases w0 : tl A W m q = 0
            · exact w0
            · exact absurd ⟨q, q1, q2, q3, q4, w0⟩ ex
      · rw [a10 1 (by decide)] at i3
        by_cases cq : P (1068 + 1) = true
        · rw [if_pos cq] at i3; exact absurd rfl i3
        · rw [if_neg cq] at i3
          by_cases ex : ∃ i, i < 32 ∧ tl A W m (1070 + i) ≠ 0 ∧ ¬ RI A W m p (1070 + i)
          · obtain ⟨i, y1, y2, y3⟩ := ex
            refine ⟨2 + i, by omega, by omega, ?_⟩
            rw [a10 _ (by omega), show 1068 + (2 + i) = 1070 + i by omega, if_neg (fun w => ?_)]
            · exact y2
            · rcases (hP _).mp w with y | y | y
              · omega
              · exact y3 y.2
              · omega
          · exfalso
            refine cq ((hP _).mpr (Or.inr (Or.inr ⟨rfl, i3, fun i hi w => ?_⟩)))
            by_cases w0 : RI A W m p (1070 + i)
            · exact w0
            · exact absurd ⟨i, hi, w, w0⟩ ex
    · have r9 : ∀ q, q < 1068 → Af 9 (1068 * m + q) = A 9 (1068 * m + q) := fun q hq => by rw [c9, if_neg (fun w => c (by omega))]
      have r10 : ∀ i, i < 34 → Af 10 (34 * m + i) = A 10 (34 * m + i) := fun i hi => by rw [c10, if_neg (fun w => c (by omega))]
      obtain ⟨q1, q2, q3, q4, q5⟩ := t2.2 m hm z
      have hs : szp Af m = szp A m := by unfold szp; rw [c6, if_neg c]
      rw [hs]
      refine ⟨fun p hp hp2 => ?_, fun p p1 p2 p3 => ?_, fun i i1 i2 i3 => ?_, fun i i1 i2 i3 => ?_, fun i3 => ?_⟩
      · rw [r9 p hp]; exact q1 p hp hp2
      · rw [r9 p p2] at p3
        have hx : ixo p < 34 := by unfold ixo; split <;> omega
        rw [r10 _ hx]
        exact q2 p p1 p2 p3
      · rw [r10 i i2] at i3
        rw [r10 1 (by decide)]
        exact q3 i i1 i2 i3
      · rw [r10 i i1] at i3
        obtain ⟨p, p1, p2, p3, p4⟩ := q4 i i1 i2 i3
        exact ⟨p, p1, p2, p3, by rw [r9 p p2]; exact p4⟩
      · rw [r10 1 (by decide)] at i3
        obtain ⟨i, i1, i2, i4⟩ := q5 i3
        exact ⟨i, i1, i2, by rw [r10 i i2]; exact i4⟩
  · rw [htl] at hz he2
    rw [htl] at he2
    by_cases c : m = n ∧ P r = true
    · rw [if_pos c] at hz; exact absurd rfl hz
    · rw [if_neg c] at hz he2
      by_cases c2 : m2 = n ∧ P r2 = true
      · rw [if_pos c2] at he2; exact absurd he2 hz
      · rw [if_neg c2] at he2
        exact t3.1 m r m2 r2 hm hm2 hz he2
  · rw [htl] at hz ⊢
    by_cases c : m = n ∧ P r = true
    · rw [if_pos c] at hz; exact absurd rfl hz
    · rw [if_neg c] at hz ⊢
      obtain ⟨q1, q2, q3⟩ := t3.2.1 m r hm hz
      refine ⟨q1, q2, (c17 _).2.mpr ⟨q3, fun ⟨r', w1, w2⟩ => ?_⟩⟩
      have := t3.1 m r n r' hm hn hz w2.symm
      rw [← this.2] at w1
      exact c ⟨this.1, w1⟩
  · obtain ⟨q1, q2⟩ := (c17 y).2.mp hu
    obtain ⟨m, r, hm, hr⟩ := t3.2.2.1 y hy hy2 q1
    refine ⟨m, r, hm, ?_⟩
    rw [htl, if_neg (fun c => ?_)]
    · exact hr
    · rw [c.1] at hr
      exact q2 ⟨r, c.2, hr⟩
  · refine (c17 y).2.mpr ⟨t3.2.2.2 y hy, fun ⟨r', w1, w2⟩ => ?_⟩
    have : tl A W n r' ≠ 0 := by
      rcases (hP r').mp w1 with q | q | q
      · exact q.2.2
      · exact q.2.1
      · rw [q.1]; exact q.2.1
    have := t3.2.1 n r' hn this
    omega
  · unfold TW4 at t4 ⊢
    rw [k5, k7, k8, k14, k15]
    simp only [upn_cg k7]
    exact t4
theorem ct_RX {W Ls na n sz x w : Nat} {A Af : Nat → Nat → Nat} {nm : Nat → Int64} {P dd dd1 : Nat → Bool} {K Kb K1 : Nat → Nat → Int64} (hna : na = 80 + (Ls + 511) / 512) (hL : na + 64 ≤ Ls) (t3 : TW3 W Ls (na + 64) A) (hn : n < 64) (h1 : A 5 n = 1) (hPl : ∀ r, P r = true → r < 1102) (rx : RX W Ls na A nm K) (gb : GB A W na n Ls P Kb K1 dd dd1) (cf : CF A Af W n sz x w P) (hw : w < 64) (hxr : x ≠ 0 → ∃ q, q < 1068 ∧ tl A W n q = x)
    (kb : ∀ y j, y ≠ na + n → y ≠ x ∨ x = 0 → Kb y j = K y j) (kx : x ≠ 0 → ∀ j, j < 64 → sO (Kb x) j = if w ≤ j then 0 else sO (K x) j) (kn0 : Kb (na + n) 0 = slW (K (na + n) 0) sz) (hsz : sz < 2 ^ 31) : RX W Ls na Af nm K1 := by
  have htl : ∀ m r, tl Af W m r = if m = n ∧ P r = true then 0 else tl A W m r := fun m r => CF_tl cf h1 hPl
  obtain ⟨c6, c9, c10, c17, c18, ck⟩ := cf
  obtain ⟨b1, b2, b3, b4, b5, b6⟩ := gb
  obtain ⟨r1, r2, r3⟩ := rx
  have k5 := ck 5 (by decide) (by decide) (by decide) (by decide) (by decide)
  have k7 := ck 7 (by decide) (by decide) (by decide) (by decide) (by decide)
  have k8 := ck 8 (by decide) (by decide) (by decide) (by decide) (by decide)
  have k11 := ck 11 (by decide) (by decide) (by decide) (by decide) (by decide)
  have k12 := ck 12 (by decide) (by decide) (by decide) (by decide) (by decide)
  have k13 := ck 13 (by decide) (by decide) (by decide) (by decide) (by decide)
  have k14 := ck 14 (by decide) (by decide) (by decide) (by decide) (by decide)
  have k15 := ck 15 (by decide) (by decide) (by decide) (by decide) (by decide)
  have k16 := ck 16 (by decide) (by decide) (by decide) (by decide) (by decide)
  have xl : x ≠ 0 → na + 64 ≤ x ∧ x < Ls := fun h => by
    obtain ⟨q, q1, q2⟩ := hxr h
    have := t3.2.1 n q hn (by rw [q2]; exact h)
    rw [q2] at this
    omega
  have a9 : ∀ q, q < 1068 → Af 9 (1068 * n + q) = if P q = true then 0 else tl A W n q := by
    intro q hq
    have := htl n q
    rw [tl_p (by rw [k5]; exact h1) hq] at this
    rw [this]
    by_cases c : P q = true
    · rw [if_pos ⟨rfl, c⟩, if_pos c]
    · rw [if_neg (fun z => c z.2), if_neg c]
  have a10 : ∀ i, i < 34 → Af 10 (34 * n + i) = if P (1068 + i) = true then 0 else tl A W n (1068 + i) := by
    intro i hi
    have := htl n (1068 + i)
    rw [tl_i (by rw [k5]; exact h1) hi] at this
    rw [this]
    by_cases c : P (1068 + i) = true
    · rw [if_pos ⟨rfl, c⟩, if_pos c]
    · rw [if_neg (fun z => c z.2), if_neg c]
  refine ⟨fun y hy => ?_, fun m hm => ?_, fun m r hm ht => ?_⟩
  · have q := b2 y hy
    rw [Bool.eq_iff_iff, q]
    simp only [Bool.and_eq_true, decide_eq_true_eq]
    rw [(c17 y).2]
  · by_cases c : m = n
    · subst c
      obtain ⟨p1, p2, p3, p4, p5, p6⟩ := r2 m hm
      have w0 : K1 (na + m) 0 = slW (K (na + m) 0) sz := by rw [b5 0 (by decide) (by decide) (by decide) (by decide), kn0]
      have hb3 : ∀ r, r < 1102 → own r = true → sH (K1 (na + m)) (hpl r) = if P r = true then 0 else tl A W m r := by
        intro r hr ho
        have := b3 r (Or.inl ⟨h1, hr⟩) (Or.inl ho)
        rw [tel_own ho] at this
        exact this
      unfold mNode
      rw [k5, k8, k11, k12, k15, c6, if_pos rfl, w0, slW_oc hsz (by decide), slW_oc hsz (by decide), slW_oc hsz (by decide), slW_oc hsz (by decide), slW_hi hsz]
      refine ⟨p1, fun z => ⟨(p2 z).1, (p2 z).2.1, (p2 z).2.2.1, by rw [if_pos (Or.inl h1)]⟩, fun z => by omega, fun z => ⟨fun k hk => ?_, ?_, ?_⟩, fun z => by omega, fun z => by omega⟩
      · rw [a9 k (by omega)]
        have := hb3 k (by omega) (decide_eq_true (Or.inl hk))
        unfold hpl at this
        rw [if_pos hk] at this
        exact this
      · have q := a10 0 (by decide)
        rw [Nat.add_zero] at q
        rw [q]
        exact hb3 1068 (by decide) (by decide)
      · rw [a10 1 (by decide)]
        exact hb3 1069 (by decide) (by decide)
    · have q := r2 m hm
      have eK : K1 (na + m) = K (na + m) := by
        funext j
        rw [b4 (na + m) j (by omega) (by omega) (by omega) (fun r hr => ?_)]
        · refine kb _ _ (by omega) ?_
          by_cases x0 : x = 0
          · exact Or.inr x0
          · have := xl x0
            exact Or.inl (by omega)
        · exfalso
          by_cases z : tl A W n r = 0
          · omega
          · have := t3.2.1 n r hn z
            omega
      rw [eK]
      obtain ⟨p1, p2, p3, p4, p5, p6⟩ := q
      unfold mNode
      rw [k5, k7, k8, k11, k12, k13, k15, k16, c6, if_neg c]
      refine ⟨p1, p2, p3, fun z => ⟨fun k hk => ?_, ?_, ?_⟩, p5, p6⟩
      · rw [c9, if_neg (fun y => c (by omega))]; exact (p4 z).1 k hk
      · rw [c10, if_neg (fun y => c (by omega))]; exact (p4 z).2.1
      · rw [c10, if_neg (fun y => c (by omega))]; exact (p4 z).2.2
  · rw [htl] at ht ⊢
    by_cases c0 : m = n ∧ P r = true
    · rw [if_pos c0] at ht; exact absurd rfl ht
    · rw [if_neg c0] at ht ⊢
      have hq := t3.2.1 m r hm ht
      obtain ⟨o1, o2, o3, o4, o5⟩ := r3 m r hm ht
      by_cases c : m = n
      · subst c
        have Pr : P r = false := by
          cases hp : P r with
          | false => rfl
          | true => exact absurd ⟨rfl, hp⟩ c0
        have r1102 : r < 1102 := by
          rcases Nat.lt_or_ge r 1102 with q | q
          · exact q
          · exfalso
            apply ht
            unfold tl
            rw [if_pos h1, if_neg (by omega), if_neg (by omega)]
        unfold mRole
        rw [k5]
        by_cases cp : r < 1068
        · refine ⟨fun _ j hj => ?_, fun _ z => by omega, fun _ z => by omega, fun _ z => by omega, fun z => by omega⟩
          have e1 : sO (K1 (tl A W m r)) j = sO (Kb (tl A W m r)) j := by
            unfold sO
            rw [b4 _ _ (by omega) hq.2.1 (by omega) (fun r' hr' => ?_)]
            have := (t3.1 m r' m r hm hm (by rw [hr']; exact ht) hr').2
            rw [this]
            exact ⟨cp, Pr⟩
          have od := o1 (Or.inl ⟨h1, cp⟩) j hj
          rw [e1, c18]
          by_cases cx : x ≠ 0 ∧ tl A W m r = x
          · rw [cx.2] at od ⊢
            rw [kx cx.1 j hj]
            by_cases cw : w ≤ j
            · rw [if_pos cw, if_pos ⟨cx.1, by omega, by omega⟩]
            · rw [if_neg cw, if_neg (by omega)]
              exact od
          · rw [if_neg (fun z => cx ⟨z.1, by omega⟩)]
            have e2 : Kb (tl A W m r) = K (tl A W m r) := by
              funext j
              refine kb _ _ (by omega) ?_
              by_cases x0 : x = 0
              · exact Or.inr x0
              · exact Or.inl (fun z => cx ⟨x0, z⟩)
            rw [e2]
            exact od
        · refine ⟨fun z => ?_, fun _ z j hj => ?_, fun _ z i hi => ?_, fun _ z j hj => ?_, fun z => by omega⟩
          · rcases z with z | z
            · omega
            · omega
          · have no : ¬ own (12 + j) = true := fun y => by have := own_t y; omega
            have tr : trl (12 + j) = 1068 := by unfold trl; rw [if_pos (by omega)]
            have := b3 (12 + j) (Or.inl ⟨h1, by omega⟩) (Or.inr ⟨by rw [tr, ← z]; exact ht, by rw [tr, ← z]; exact Pr⟩)
            unfold tel at this
            rw [if_neg no, tr, ← z, show hpl (12 + j) = j by unfold hpl; rw [if_neg (by omega), if_pos (by omega)]; omega] at this
            rw [this, show 1068 * m + 12 + j = 1068 * m + (12 + j) by omega, a9 _ (by omega)]
          · have no : ¬ own (1070 + i) = true := fun y => by have := own_t y; omega
            have tr : trl (1070 + i) = 1069 := by unfold trl; rw [if_neg (by omega), if_neg (by omega)]
            have := b3 (1070 + i) (Or.inl ⟨h1, by omega⟩) (Or.inr ⟨by rw [tr, ← z]; exact ht, by rw [tr, ← z]; exact Pr⟩)
            unfold tel at this
            rw [if_neg no, tr, ← z, show hpl (1070 + i) = i by unfold hpl; rw [if_neg (by omega), if_neg (by omega), if_neg (by omega), if_neg (by omega), if_neg (by omega), if_pos (by omega)]; omega] at this
            rw [this, show 34 * m + 2 + i = 34 * m + (2 + i) by omega, a10 _ (by omega), show 1068 + (2 + i) = 1070 + i by omega]
          · obtain ⟨i, hi⟩ : ∃ i, r = 1070 + i := ⟨r - 1070, by omega⟩
            have i32 : i < 32 := by omega
            have no : ¬ own (44 + 32 * i + j) = true := fun y => by have := own_t y; omega
            have tr : trl (44 + 32 * i + j) = r := by unfold trl; rw [if_neg (by omega), if_pos (by omega)]; omega
            have := b3 (44 + 32 * i + j) (Or.inl ⟨h1, by omega⟩) (Or.inr ⟨by rw [tr]; exact ht, by rw [tr]; exact Pr⟩)
            unfold tel at this
            rw [if_neg no, tr, show hpl (44 + 32 * i + j) = j by unfold hpl; rw [if_neg (by omega), if_neg (by omega), if_pos (by omega)]; omega] at this
            rw [this, show 1068 * m + 44 + 32 * (r - 1070) + j = 1068 * m + (44 + 32 * i + j) by omega, a9 _ (by omega)]
      · have eK : K1 (tl A W m r) = K (tl A W m r) := by
          funext j
          rw [b4 _ j (by omega) hq.2.1 (by omega) (fun r' hr' => ?_)]
          · refine kb _ _ (by omega) ?_
            by_cases x0 : x = 0
            · exact Or.inr x0
            · refine Or.inl (fun z => ?_)
              obtain ⟨q, q1, q2⟩ := hxr x0
              exact c (t3.1 m r n q hm hn ht (by rw [z, q2])).1
          · exact absurd (t3.1 m r n r' hm hn ht hr'.symm).1 c
        have nx : ∀ j, j < 64 → ¬ (x ≠ 0 ∧ 64 * x + w ≤ 64 * tl A W m r + j ∧ 64 * tl A W m r + j < 64 * x + 64) := by
          rintro j hj ⟨z1, z2, z3⟩
          obtain ⟨q, q1, q2⟩ := hxr z1
          have e : tl A W m r = x := by omega
          exact c (t3.1 m r n q hm hn ht (by rw [e, q2])).1
        rw [eK]
        unfold mRole
        rw [k5, k14]
        refine ⟨fun z j hj => ?_, fun z1 z2 j hj => ?_, fun z1 z2 i hi => ?_, fun z1 z2 j hj => ?_, o5⟩
        · rw [c18, if_neg (nx j hj)]; exact o1 z j hj
        · rw [c9, if_neg (fun y => c (by omega))]; exact o2 z1 z2 j hj
        · rw [c10, if_neg (fun y => c (by omega))]; exact o3 z1 z2 i hi
        · have hr : r < 1102 := by
            rcases Nat.lt_or_ge r 1102 with q | q
            · exact q
            · exfalso
              apply ht
              unfold tl
              rw [if_pos z1, if_neg (by omega), if_neg (by omega)]
          rw [c9, if_neg (fun y => c (by omega))]; exact o4 z1 z2 j hj
