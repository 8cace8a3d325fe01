/-! ===== a NODE is born into a SLOT: the tree ===== -/
def bnA (A : Nat → Nat → Nat) (n k sz par own bits : Nat) : Nat → Nat → Nat := fun r j => if j = n then (if r = 5 then k else if r = 6 then sz else if r = 7 then par else if r = 8 then 0 else if r = 15 then 1 else if r = 11 then own else if r = 12 then bits else A r j) else A r j
theorem bnA_o {A : Nat → Nat → Nat} {n k sz par own bits r j : Nat} (h : j ≠ n) : bnA A n k sz par own bits r j = A r j := if_neg h
theorem bnA_r {A : Nat → Nat → Nat} {n k sz par own bits r : Nat} (h : r ≠ 5 ∧ r ≠ 6 ∧ r ≠ 7 ∧ r ≠ 8 ∧ r ≠ 15 ∧ r ≠ 11 ∧ r ≠ 12) : bnA A n k sz par own bits r = A r := by
  funext j
  unfold bnA
  split
  · rw [if_neg h.1, if_neg h.2.1, if_neg h.2.2.1, if_neg h.2.2.2.1, if_neg h.2.2.2.2.1, if_neg h.2.2.2.2.2.1, if_neg h.2.2.2.2.2.2]
  · rfl
theorem bnA_5 {A : Nat → Nat → Nat} {n k sz par own bits : Nat} : bnA A n k sz par own bits 5 n = k := by simp [bnA]
theorem bnA_6 {A : Nat → Nat → Nat} {n k sz par own bits : Nat} : bnA A n k sz par own bits 6 n = sz := by simp [bnA]
theorem bnA_7 {A : Nat → Nat → Nat} {n k sz par own bits : Nat} : bnA A n k sz par own bits 7 n = par := by simp [bnA]
theorem bnA_8 {A : Nat → Nat → Nat} {n k sz par own bits : Nat} : bnA A n k sz par own bits 8 n = 0 := by simp [bnA]
theorem bnA_15 {A : Nat → Nat → Nat} {n k sz par own bits : Nat} : bnA A n k sz par own bits 15 n = 1 := by simp [bnA]
theorem bnA_11 {A : Nat → Nat → Nat} {n k sz par own bits : Nat} : bnA A n k sz par own bits 11 n = own := by simp [bnA]
theorem bnA_12 {A : Nat → Nat → Nat} {n k sz par own bits : Nat} : bnA A n k sz par own bits 12 n = bits := by simp [bnA]
theorem bn_tl {A : Nat → Nat → Nat} {W n k sz par own bits : Nat} (h9 : ∀ p, p < 1068 → A 9 (1068 * n + p) = 0) (h10 : ∀ i, i < 34 → A 10 (34 * n + i) = 0) (hk : k ≠ 3) {m r : Nat} : tl (bnA A n k sz par own bits) W m r = if m = n then 0 else tl A W m r := by
  have e9 : bnA A n k sz par own bits 9 = A 9 := bnA_r (by decide)
  have e10 : bnA A n k sz par own bits 10 = A 10 := bnA_r (by decide)
  have e13 : bnA A n k sz par own bits 13 = A 13 := bnA_r (by decide)
  unfold tl
  rw [e9, e10, e13]
  by_cases c : m = n
  · subst c
    rw [if_pos rfl, bnA_5, bnA_8]
    by_cases k1 : k = 1
    · rw [if_pos k1]
      by_cases c1 : r < 1068
      · rw [if_pos c1]; exact h9 r c1
      · rw [if_neg c1]
        by_cases c2 : r < 1102
        · rw [if_pos c2]; exact h10 (r - 1068) (by omega)
        · rw [if_neg c2]
    · rw [if_neg k1]
      by_cases k2 : k = 2
      · rw [if_pos k2, if_neg (by omega)]
      · rw [if_neg k2, if_neg hk]
  · rw [if_neg c, bnA_o c, bnA_o c]
theorem upn_bn {A : Nat → Nat → Nat} {n k sz par own bits : Nat} (h3 : ∀ m, m < 64 → A 5 m = 2 → A 7 m < 64 ∧ A 5 (A 7 m) = 2) (hn : A 5 n ≠ 2) : ∀ i m, m < 64 → A 5 m = 2 → upn (bnA A n k sz par own bits) i m = upn A i m
  | 0, m, _, _ => rfl
  | i + 1, m, hm, hk => by
    have hmn : m ≠ n := fun z => hn (by rw [← z]; exact hk)
    have q := h3 m hm hk
    simp only [upn]
    rw [bnA_o hmn, upn_bn h3 hn i _ q.1 q.2]
theorem bn_TW {B W Ls fb d n k f sz par own bits : Nat} {A : Nat → Nat → Nat} {nm nm2 : Nat → Int64} (t : TW B W Ls fb A nm) (hn : n < 64) (h0 : A 5 n = 0) (hd : d < 64) (hk : A 5 d = 2) (hf : f < 4 * A 8 d) (h14 : A 14 (48 * d + f) = 0) (hkk : (k = 1 ∧ sz = 0) ∨ (k = 2 ∧ sz = 0 ∧ par = d) ∨ (k = 4 ∧ 1 ≤ sz ∧ sz ≤ 40)) (hpar : par < 64) (ho : own < 16) (hb : bits < 64) (hnm : ∀ i, i ≠ 48 * d + f → nm2 i = nm i) (hok : okN (nm2 (48 * d + f))) : TW B W Ls fb (bnA (setA A 14 (48 * d + f) n) n k sz par own bits) nm2 := by
  obtain ⟨t1, t2, t3, t4⟩ := t
  have hdn : d ≠ n := fun z => by rw [z] at hk; omega
  have hn0 : n ≠ 0 := fun z => by rw [z] at h0; have := t1.2.1.1; omega
  have h8 : A 8 d ≤ 12 := (t1.1 d hd).2.2.2.2.2.1
  obtain ⟨A1, hA1⟩ : ∃ q, q = setA A 14 (48 * d + f) n := ⟨_, rfl⟩
  have e : ∀ r, r ≠ 14 → A1 r = A r := fun r h => by rw [hA1]; exact setA_k h
  have e14 : ∀ j, A1 14 j = if j = 48 * d + f then n else A 14 j := by
    intro j
    rw [hA1]
    by_cases c : j = 48 * d + f
    · rw [c, setA_s, if_pos rfl]
    · rw [setA_n c, if_neg c]
  rw [← hA1]
  have z2 := t2.1 n hn (by omega)
  have etl : ∀ m r, tl (bnA A1 n k sz par own bits) W m r = tl A W m r := by
    intro m r
    rw [bn_tl (by rw [e 9 (by decide)]; exact z2.1) (by rw [e 10 (by decide)]; exact z2.2) (by omega), tl_sc (e 5 (by decide)) (e 8 (by decide)) (e 9 (by decide)) (e 10 (by decide)) (e 13 (by decide))]
    by_cases c : m = n
    · rw [if_pos c, c]
      unfold tl
      rw [if_neg (by omega), if_neg (by omega), if_neg (by omega)]
    · rw [if_neg c]
  have b : ∀ r m, m ≠ n → r ≠ 14 → bnA A1 n k sz par own bits r m = A r m := fun r m h1 h2 => by rw [bnA_o h1, e r h2]
  have br : ∀ r, r ≠ 5 ∧ r ≠ 6 ∧ r ≠ 7 ∧ r ≠ 8 ∧ r ≠ 15 ∧ r ≠ 11 ∧ r ≠ 12 → r ≠ 14 → bnA A1 n k sz par own bits r = A r := fun r h1 h2 => by rw [bnA_r h1, e r h2]
  refine ⟨⟨fun m hm => ?_, ⟨?_, ?_⟩, fun m hm z => ?_, fun m hm z => ?_, fun m hm z => ?_, fun j => ?_, fun j => ?_, fun x => ?_⟩, ⟨fun m hm z => ?_, fun m hm z => ?_⟩, ⟨fun m r m2 r2 hm hm2 hz he => ?_, fun m r hm hz => ?_, fun x hx hx2 hu => ?_, fun x hx => ?_⟩, ⟨fun j hj hz => ?_, fun m hm hm0 => ?_, fun m hm hm0 z => ?_, fun m hm hm0 z => ?_, fun m hm z => ?_⟩⟩
  · by_cases c : m = n
    · rw [c, bnA_5, bnA_11, bnA_12, bnA_15, bnA_6, bnA_8]
      exact ⟨by omega, ho, hb, by omega, by omega, by omega, fun _ => rfl⟩
    · rw [b 5 m c (by decide), b 11 m c (by decide), b 12 m c (by decide), b 15 m c (by decide), b 6 m c (by decide), b 8 m c (by decide)]
      exact t1.1 m hm
  · rw [b 5 0 (Ne.symm hn0) (by decide)]; exact t1.2.1.1
  · rw [b 7 0 (Ne.symm hn0) (by decide)]; exact t1.2.1.2
  · by_cases c : m = n
    · rw [c] at z ⊢
      rw [bnA_5] at z
      rw [bnA_7, bnA_8]
      refine ⟨hpar, ?_, fun q hq => by omega⟩
      have ep : par = d := by omega
      rw [b 5 par (by rw [ep]; exact hdn) (by decide), ep]
      exact hk
    · rw [b 5 m c (by decide)] at z
      obtain ⟨q1, q2, q3⟩ := t1.2.2.1 m hm z
      have hpn : A 7 m ≠ n := fun w => by rw [w] at q2; omega
      rw [b 7 m c (by decide), b 8 m c (by decide), br 13 (by decide) (by decide)]
      refine ⟨q1, ?_, q3⟩
      rw [b 5 _ hpn (by decide)]
      exact q2
  · by_cases c : m = n
    · rw [c, bnA_5] at z
      rw [c, bnA_6]
      omega
    · rw [b 5 m c (by decide)] at z
      rw [b 6 m c (by decide)]
      exact t1.2.2.2.1 m hm z
  · by_cases c : m = n
    · rw [c, bnA_5] at z
      omega
    · rw [b 5 m c (by decide)] at z
      rw [b 6 m c (by decide), br 13 (by decide) (by decide)]
      exact t1.2.2.2.2.1 m hm z
  · rw [br 16 (by decide) (by decide)]; exact t1.2.2.2.2.2.1 j
  · rw [br 18 (by decide) (by decide)]; exact t1.2.2.2.2.2.2.1 j
  · rw [br 17 (by decide) (by decide)]; exact t1.2.2.2.2.2.2.2 x
  · rw [br 9 (by decide) (by decide), br 10 (by decide) (by decide)]
    by_cases c : m = n
    · rw [c]; exact z2
    · rw [b 5 m c (by decide)] at z
      exact t2.1 m hm z
  · rw [br 9 (by decide) (by decide), br 10 (by decide) (by decide)]
    by_cases c : m = n
    · rw [c]
      refine ⟨fun p hp _ => z2.1 p hp, fun p h1 h2 h3 => absurd (z2.1 p h2) h3, fun i h1 h2 h3 => absurd (z2.2 i h2) h3, fun i h1 h2 h3 => absurd (z2.2 i h1) h3, fun h => absurd (z2.2 1 (by decide)) h⟩
    · rw [b 5 m c (by decide)] at z
      unfold szp
      rw [b 6 m c (by decide)]
      exact t2.2 m hm z
  · rw [etl] at hz he
    rw [etl] at he
    exact t3.1 m r m2 r2 hm hm2 hz he
  · rw [etl] at hz ⊢
    rw [br 17 (by decide) (by decide)]
    exact t3.2.1 m r hm hz
  · rw [br 17 (by decide) (by decide)] at hu
    obtain ⟨m, r, hm, hr⟩ := t3.2.2.1 x hx hx2 hu
    exact ⟨m, r, hm, by rw [etl]; exact hr⟩
  · rw [br 17 (by decide) (by decide)]
    exact t3.2.2.2 x hx
  · have e14' : bnA A1 n k sz par own bits 14 j = if j = 48 * d + f then n else A 14 j := by rw [bnA_r (by decide)]; exact e14 j
    rw [e14'] at hz ⊢
    by_cases c : j = 48 * d + f
    · rw [if_pos c, bnA_5, c, show (48 * d + f) / 48 = d by omega, show (48 * d + f) % 48 = f by omega, b 5 d hdn (by decide), b 8 d hdn (by decide)]
      refine ⟨hk, hf, hn, by omega, hok, fun q => ?_⟩
      rw [bnA_7]
      omega
    · rw [if_neg c] at hz ⊢
      obtain ⟨q1, q2, q3, q4, q5, q6⟩ := t4.1 j hj hz
      have n1 : j / 48 ≠ n := fun w => by rw [w] at q1; omega
      have n2 : A 14 j ≠ n := fun w => by rw [w] at q4; omega
      rw [b 5 _ n1 (by decide), b 8 _ n1 (by decide), b 5 _ n2 (by decide), b 7 _ n2 (by decide), hnm j c]
      exact ⟨q1, q2, q3, q4, q5, q6⟩
  · have e14' : ∀ j, bnA A1 n k sz par own bits 14 j = if j = 48 * d + f then n else A 14 j := fun j => by rw [bnA_r (by decide)]; exact e14 j
    by_cases c : m = n
    · rw [c, bnA_5, if_neg (by omega), bnA_15]
      have h1 : (fun j => decide (bnA A1 n k sz par own bits 14 j = n)) = setb (fun j => decide (A 14 j = n)) (48 * d + f) true := by
        funext j
        unfold setb
        rw [e14']
        by_cases c2 : j = 48 * d + f
        · rw [if_pos c2, if_pos c2]; simp
        · rw [if_neg c2, if_neg c2]
      have h2 := t4.2.1 n hn hn0
      rw [if_pos h0] at h2
      rw [h1, cnt_set (by omega) (by simp [h14]; exact fun z => hn0 z.symm), h2]
    · rw [b 5 m c (by decide), b 15 m c (by decide)]
      rw [← t4.2.1 m hm hm0]
      refine cnt_congr (fun j hj => ?_)
      rw [e14']
      by_cases c2 : j = 48 * d + f
      · rw [if_pos c2, c2, h14]
        have a1 : ¬ n = m := fun z => c z.symm
        have a2 : ¬ 0 = m := fun z => hm0 z.symm
        simp [a1, a2]
      · rw [if_neg c2]
  · by_cases c : m = n
    · rw [c, bnA_15]
    · rw [b 5 m c (by decide)] at z
      rw [b 15 m c (by decide)]
      exact t4.2.2.1 m hm hm0 z
  · by_cases c : m = n
    · rw [c, bnA_15]
      omega
    · rw [b 5 m c (by decide)] at z
      rw [b 15 m c (by decide)]
      exact t4.2.2.2.1 m hm hm0 z
  · have h3' : ∀ m, m < 64 → A1 5 m = 2 → A1 7 m < 64 ∧ A1 5 (A1 7 m) = 2 := by
      intro m hm z
      rw [e 5 (by decide)] at z ⊢
      rw [e 7 (by decide)]
      exact ⟨(t1.2.2.1 m hm z).1, (t1.2.2.1 m hm z).2.1⟩
    have hup : ∀ i m, m < 64 → A 5 m = 2 → upn (bnA A1 n k sz par own bits) i m = upn A i m := by
      intro i m hm z
      rw [upn_bn h3' (by rw [e 5 (by decide)]; omega) i m hm (by rw [e 5 (by decide)]; exact z)]
      exact upn_cg (e 7 (by decide)) i m
    by_cases c : m = n
    · rw [c] at z ⊢
      rw [bnA_5] at z
      obtain ⟨i, hi⟩ := t4.2.2.2.2 d hd hk
      refine ⟨i + 1, ?_⟩
      simp only [upn]
      have ep : par = d := by omega
      rw [bnA_7, hup i par hpar (by rw [ep]; exact hk), ep]
      exact hi
    · rw [b 5 m c (by decide)] at z
      obtain ⟨i, hi⟩ := t4.2.2.2.2 m hm z
      exact ⟨i, by rw [hup i m hm z]; exact hi⟩
