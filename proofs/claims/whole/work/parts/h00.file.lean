/-! ===== one FILE, as the class holds it ===== -/
def TE (A : Nat → Nat → Nat) (W na n : Nat) (K : Nat → Nat → Int64) : Prop := ∀ q, q < 1102 → (own q = true ∨ tl A W n (trl q) ≠ 0) → sH (K (tel A W na n q)) (hpl q) = tl A W n q
def SC (A : Nat → Nat → Nat) (n : Nat) (v : Int64) : Prop := ocN v 0 = 1 ∧ ocN v 1 = A 11 n ∧ ocN v 2 = A 12 n ∧ ocN v 3 = A 15 n ∧ uN v >>> 32 = A 6 n
def DA (A : Nat → Nat → Nat) (W n : Nat) (K : Nat → Nat → Int64) : Prop := ∀ q, q < 1068 → tl A W n q ≠ 0 → ∀ j, j < 64 → sO (K (tl A W n q)) j = A 18 (64 * tl A W n q + j)
def RXf (W Ls na : Nat) (A : Nat → Nat → Nat) (nm : Nat → Int64) (K : Nat → Nat → Int64) (n : Nat) : Prop := RXx W Ls na A nm K n ∧ SC A n (K (na + n) 0) ∧ TE A W na n K ∧ DA A W n K
theorem RXf_of {B W Ls na n : Nat} {A : Nat → Nat → Nat} {nm : Nat → Int64} {K : Nat → Nat → Int64} (t1 : TW1 W B A) (rx : RX W Ls na A nm K) (hn : n < 64) (h1 : A 5 n = 1) : RXf W Ls na A nm K n := by
  have gb : GB A W na n Ls (fun _ => false) K K (fun _ => false) (fun _ => false) := GB_0 t1 rx hn
  have m := rx.2.1 n hn
  have m2 := m.2.1 (by omega)
  refine ⟨RX_x rx, ⟨?_, m2.1, ?_, ?_, ?_⟩, fun q hq ha => ?_, fun q hq ht j hj => ?_⟩
  · rw [m.1, h1]
  · rw [m2.2.1, if_neg (by omega)]
  · rw [m2.2.2.1, if_pos (Or.inl h1)]
  · rw [m2.2.2.2, if_pos (Or.inl h1)]
  · have := gb.2.2.1 q (Or.inl ⟨h1, hq⟩) (by
      rcases ha with z | z
      · exact Or.inl z
      · exact Or.inr ⟨z, rfl⟩)
    rw [this]
    exact if_neg (show ¬ (false = true) by decide)
  · exact (rx.2.2 n q hn ht).1 (Or.inl ⟨h1, hq⟩) j hj
theorem RX_ofF {W Ls na n : Nat} {A : Nat → Nat → Nat} {nm : Nat → Int64} {K : Nat → Nat → Int64} (h1 : A 5 n = 1) (r : RXf W Ls na A nm K n) : RX W Ls na A nm K := by
  obtain ⟨r1, ⟨s1, s2, s3, s4, s5⟩, te, da⟩ := r
  refine RX_of r1 (fun hn => ?_) (fun hn r ht => ?_)
  · have tow : ∀ q, q < 1102 → own q = true → sH (K (na + n)) (hpl q) = tl A W n q := by
      intro q hq ho
      have := te q hq (Or.inl ho)
      rw [tel_own ho] at this
      exact this
    unfold mNode
    rw [h1]
    refine ⟨s1, fun _ => ⟨s2, by rw [if_neg (by decide)]; exact s3, by rw [if_pos (by decide)]; exact s4, by rw [if_pos (by decide)]; exact s5⟩, fun z => (by cases z), fun _ => ⟨fun k hk => ?_, ?_, ?_⟩, fun z => (by cases z), fun z => (by cases z)⟩
    · have := tow k (by omega) (decide_eq_true (Or.inl hk))
      unfold hpl at this
      rw [if_pos hk, tl_p (p := k) h1 (by omega)] at this
      exact this
    · have q := tl_i (W := W) h1 (show 0 < 34 by decide)
      rw [Nat.add_zero, Nat.add_zero] at q
      rw [← q]
      exact tow 1068 (by decide) (by decide)
    · have q := tl_i (W := W) h1 (show 1 < 34 by decide)
      rw [← q]
      exact tow 1069 (by decide) (by decide)
  · have r1102 : r < 1102 := by
      rcases Nat.lt_or_ge r 1102 with q | q
      · exact q
      · exfalso
        apply ht
        unfold tl
        rw [if_pos h1, if_neg (by omega), if_neg (by omega)]
    refine ⟨fun z j hj => ?_, fun _ z j hj => ?_, fun _ z i hi => ?_, fun _ z j hj => ?_, fun z => by omega⟩
    · have cp : r < 1068 := by omega
      exact da r cp ht j hj
    · have no : ¬ own (12 + j) = true := fun y => by have := own_t y; omega
      have tr : trl (12 + j) = 1068 := by unfold trl; rw [if_pos (by omega)]
      have := te (12 + j) (by omega) (Or.inr (by rw [tr, ← z]; exact ht))
      unfold tel at this
      rw [if_neg no, tr, ← z, show hpl (12 + j) = j by unfold hpl; rw [if_neg (by omega), if_pos (by omega)]; omega, tl_p (p := 12 + j) h1 (by omega)] at this
      rw [this, show 1068 * n + 12 + j = 1068 * n + (12 + j) by omega]
    · have no : ¬ own (1070 + i) = true := fun y => by have := own_t y; omega
      have tr : trl (1070 + i) = 1069 := by unfold trl; rw [if_neg (by omega), if_neg (by omega)]
      have := te (1070 + i) (by omega) (Or.inr (by rw [tr, ← z]; exact ht))
      have e : 1070 + i = 1068 + (2 + i) := by omega
      unfold tel at this
      rw [if_neg no, tr, ← z, show hpl (1070 + i) = i by unfold hpl; rw [if_neg (by omega), if_neg (by omega), if_neg (by omega), if_neg (by omega), if_neg (by omega), if_pos (by omega)]; omega, e, tl_i (i := 2 + i) h1 (by omega)] at this
      rw [this, show 34 * n + 2 + i = 34 * n + (2 + i) by omega]
    · obtain ⟨i, hi⟩ : ∃ i, r = 1070 + i := ⟨r - 1070, by omega⟩
      have no : ¬ own (44 + 32 * i + j) = true := fun y => by have := own_t y; omega
      have tr : trl (44 + 32 * i + j) = r := by unfold trl; rw [if_neg (by omega), if_pos (by omega)]; omega
      have := te (44 + 32 * i + j) (by omega) (Or.inr (by rw [tr]; exact ht))
      unfold tel at this
      rw [if_neg no, tr, show hpl (44 + 32 * i + j) = j by unfold hpl; rw [if_neg (by omega), if_neg (by omega), if_pos (by omega)]; omega, tl_p (p := 44 + 32 * i + j) h1 (by omega)] at this
      rw [this, show 1068 * n + 44 + 32 * (r - 1070) + j = 1068 * n + (44 + 32 * i + j) by omega]
/-- a role more -/
def rw9 (r0 : Nat) : Nat := if r0 < 1068 then 9 else 10
def ix9 (n r0 : Nat) : Nat := if r0 < 1068 then 1068 * n + r0 else 34 * n + (r0 - 1068)
def adR (A : Nat → Nat → Nat) (n r0 y : Nat) : Nat → Nat → Nat := setA (tkA A y) (rw9 r0) (ix9 n r0) y
theorem rw9_o (r0 : Nat) : rw9 r0 = 9 ∨ rw9 r0 = 10 := by unfold rw9; split <;> simp
theorem adR_k {A : Nat → Nat → Nat} {n r0 y k : Nat} (h1 : k ≠ 9) (h2 : k ≠ 10) (h3 : k ≠ 17) (h4 : k ≠ 18) : adR A n r0 y k = A k := by
  have := rw9_o r0
  unfold adR
  rw [setA_k (by omega), tkA_k h3 h4]
theorem adR_17 {A : Nat → Nat → Nat} {n r0 y x : Nat} : adR A n r0 y 17 x = if x = y then 1 else A 17 x := by
  have := rw9_o r0
  unfold adR
  rw [setA_k (by omega), tkA_17]
theorem adR_18 {A : Nat → Nat → Nat} {n r0 y j : Nat} : adR A n r0 y 18 j = if j / 64 = y then 0 else A 18 j := by
  have := rw9_o r0
  unfold adR
  rw [setA_k (by omega), tkA_18]
theorem adR_9 {A : Nat → Nat → Nat} {n r0 y j : Nat} : adR A n r0 y 9 j = if r0 < 1068 ∧ j = 1068 * n + r0 then y else A 9 j := by
  unfold adR rw9 ix9
  by_cases c : r0 < 1068
  · rw [if_pos c, if_pos c]
    by_cases c2 : j = 1068 * n + r0
    · rw [c2, setA_s, if_pos ⟨c, rfl⟩]
    · rw [setA_n c2, if_neg (fun z => c2 z.2), tkA_k (by decide) (by decide)]
  · rw [if_neg c, if_neg c, setA_k (by decide), if_neg (fun z => c z.1), tkA_k (by decide) (by decide)]
theorem adR_10 {A : Nat → Nat → Nat} {n r0 y j : Nat} : adR A n r0 y 10 j = if 1068 ≤ r0 ∧ j = 34 * n + (r0 - 1068) then y else A 10 j := by
  unfold adR rw9 ix9
  by_cases c : r0 < 1068
  · rw [if_pos c, if_pos c, setA_k (by decide), if_neg (by omega), tkA_k (by decide) (by decide)]
  · rw [if_neg c, if_neg c]
    by_cases c2 : j = 34 * n + (r0 - 1068)
    · rw [c2, setA_s, if_pos ⟨by omega, rfl⟩]
    · rw [setA_n c2, if_neg (fun z => c2 z.2), tkA_k (by decide) (by decide)]
theorem ad_tl {A : Nat → Nat → Nat} {W n r0 y : Nat} (h1 : A 5 n = 1) (hr : r0 < 1102) {m r : Nat} : tl (adR A n r0 y) W m r = if m = n ∧ r = r0 then y else tl A W m r := by
  have e5 : adR A n r0 y 5 = A 5 := adR_k (by decide) (by decide) (by decide) (by decide)
  have e8 : adR A n r0 y 8 = A 8 := adR_k (by decide) (by decide) (by decide) (by decide)
  have e13 : adR A n r0 y 13 = A 13 := adR_k (by decide) (by decide) (by decide) (by decide)
  unfold tl
  rw [e5, e8, e13]
  by_cases k1 : A 5 m = 1
  · rw [if_pos k1, if_pos k1]
    by_cases c1 : r < 1068
    · rw [if_pos c1, if_pos c1, adR_9]
      by_cases c : m = n ∧ r = r0
      · rw [if_pos c, if_pos ⟨by omega, by rw [c.1, c.2]⟩]
      · rw [if_neg c, if_neg (fun z => c ⟨by omega, by omega⟩)]
    · rw [if_neg c1, if_neg c1]
      by_cases c2 : r < 1102
      · rw [if_pos c2, if_pos c2, adR_10]
        by_cases c : m = n ∧ r = r0
        · rw [if_pos c, if_pos ⟨by omega, by rw [c.1, c.2]⟩]
        · rw [if_neg c, if_neg (fun z => c ⟨by omega, by omega⟩)]
      · rw [if_neg c2, if_neg c2, if_neg (fun z => by omega)]
  · rw [if_neg k1, if_neg k1, if_neg (show ¬ (m = n ∧ r = r0) from fun z => k1 (by rw [z.1]; exact h1))]
theorem ad_TW1 {A : Nat → Nat → Nat} {W B n r0 y : Nat} (t : TW1 W B A) : TW1 W B (adR A n r0 y) := by
  have e : ∀ k, k ≠ 9 → k ≠ 10 → k ≠ 17 → k ≠ 18 → adR A n r0 y k = A k := fun k h1 h2 h3 h4 => adR_k h1 h2 h3 h4
  unfold TW1 at t ⊢
  rw [e 5 (by decide) (by decide) (by decide) (by decide), e 6 (by decide) (by decide) (by decide) (by decide), e 7 (by decide) (by decide) (by decide) (by decide), e 8 (by decide) (by decide) (by decide) (by decide), e 11 (by decide) (by decide) (by decide) (by decide), e 12 (by decide) (by decide) (by decide) (by decide), e 13 (by decide) (by decide) (by decide) (by decide), e 15 (by decide) (by decide) (by decide) (by decide), e 16 (by decide) (by decide) (by decide) (by decide)]
  obtain ⟨q1, q2, q3, q4, q5, q6, q7, q8⟩ := t
  refine ⟨q1, q2, q3, q4, q5, q6, fun j => ?_, fun x => ?_⟩
  · rw [adR_18]; split
    · decide
    · exact q7 j
  · rw [adR_17]; split
    · decide
    · exact q8 x
theorem ad_TW3 {A : Nat → Nat → Nat} {W Ls fb n r0 y : Nat} (t : TW3 W Ls fb A) (h1 : A 5 n = 1) (hn : n < 64) (hr : r0 < 1102) (h0 : tl A W n r0 = 0) (hy : fb ≤ y) (hyL : y < Ls) (hy0 : A 17 y = 0) (hfb : 0 < fb) : TW3 W Ls fb (adR A n r0 y) := by
  have htl : ∀ m r, tl (adR A n r0 y) W m r = if m = n ∧ r = r0 then y else tl A W m r := fun m r => ad_tl h1 hr
  have hyn : ∀ m r, m < 64 → tl A W m r ≠ y := by
    intro m r hm z
    have := t.2.1 m r hm (by omega)
    rw [z] at this
    omega
  obtain ⟨q1, q2, q3, q4⟩ := t
  refine ⟨fun m r m2 r2 hm hm2 hz he => ?_, fun m r hm hz => ?_, fun x hx hx2 hu => ?_, fun x hx => ?_⟩
  · rw [htl] at hz he
    rw [htl] at he
    by_cases c1 : m = n ∧ r = r0
    · rw [if_pos c1] at he
      by_cases c2 : m2 = n ∧ r2 = r0
      · exact ⟨by rw [c1.1, c2.1], by rw [c1.2, c2.2]⟩
      · rw [if_neg c2] at he
        exact absurd he.symm (hyn m2 r2 hm2)
    · rw [if_neg c1] at he hz
      by_cases c2 : m2 = n ∧ r2 = r0
      · rw [if_pos c2] at he
        exact absurd he (hyn m r hm)
      · rw [if_neg c2] at he
        exact q1 m r m2 r2 hm hm2 hz he
  · rw [htl] at hz ⊢
    rw [adR_17]
    by_cases c1 : m = n ∧ r = r0
    · rw [if_pos c1, if_pos rfl]
      exact ⟨hy, hyL, rfl⟩
    · rw [if_neg c1] at hz ⊢
      rw [if_neg (hyn m r hm)]
      exact q2 m r hm hz
  · rw [adR_17] at hu
    by_cases c : x = y
    · exact ⟨n, r0, hn, by rw [htl, if_pos ⟨rfl, rfl⟩, c]⟩
    · rw [if_neg c] at hu
      obtain ⟨m, r, hm, hr2⟩ := q3 x hx hx2 hu
      refine ⟨m, r, hm, ?_⟩
      rw [htl, if_neg (fun z => ?_)]
      · exact hr2
      · rw [z.1, z.2, h0] at hr2
        omega
  · rw [adR_17, if_neg (by omega)]
    exact q4 x hx
/-- the class's SECTORS behind it -/
theorem ad_RX {W Ls na n r0 y : Nat} {A : Nat → Nat → Nat} {nm : Nat → Int64} {K : Nat → Nat → Int64} {v : Int64} (hL : Ls ≤ 2048) (hna : na = 80 + (Ls + 511) / 512) (t3 : TW3 W Ls (na + 64) A) (h1 : A 5 n = 1) (hn : n < 64) (hr : r0 < 1102) (h0 : tl A W n r0 = 0) (hal : own r0 = true ∨ tl A W n (trl r0) ≠ 0) (hch : ∀ q, q < 1102 → ¬ own q = true → trl q = r0 → tl A W n q = 0) (hy : na + 64 ≤ y) (hyL : y < Ls) (hy0 : A 17 y = 0) (hv : ∀ i, i < 64 → bt v i = if i = y % 64 then true else bt (K (80 + y / 512) (y % 512 / 64)) i) (r : RXf W Ls na A nm K n) :
    RXf W Ls na (adR A n r0 y) nm (setH (updD (setW K (80 + y / 512) (y % 512 / 64) v) y (fun _ => 0)) (tel A W na n r0) (hpl r0) y) n := by
  have htl : ∀ m r, tl (adR A n r0 y) W m r = if m = n ∧ r = r0 then y else tl A W m r := fun m r => ad_tl h1 hr
  have hyn : ∀ m r, m < 64 → tl A W m r ≠ y := by
    intro m r hm z
    have := t3.2.1 m r hm (by omega)
    rw [z] at this
    omega
  obtain ⟨⟨r1, r2, r3⟩, ⟨s1, s2, s3, s4, s5⟩, te, da⟩ := r
  have e : ∀ k, k ≠ 9 → k ≠ 10 → k ≠ 17 → k ≠ 18 → adR A n r0 y k = A k := fun k h1 h2 h3 h4 => adR_k h1 h2 h3 h4
  have e5 := e 5 (by decide) (by decide) (by decide) (by decide)
  have hs : na ≤ tel A W na n r0 ∧ tel A W na n r0 < Ls ∧ tel A W na n r0 ≠ y := by
    unfold tel
    by_cases c : own r0 = true
    · rw [if_pos c]; omega
    · rw [if_neg c]
      rcases hal with z | z
      · exact absurd z c
      · have := t3.2.1 n (trl r0) hn z
        exact ⟨by omega, this.2.1, hyn _ _ hn⟩
  obtain ⟨s, hse⟩ : ∃ s, s = tel A W na n r0 := ⟨_, rfl⟩
  rw [← hse] at hs ⊢
  obtain ⟨Kt, hKt⟩ : ∃ q, q = updD (setW K (80 + y / 512) (y % 512 / 64) v) y (fun _ => 0) := ⟨_, rfl⟩
  rw [← hKt]
  have kt : ∀ z w, na ≤ z → z ≠ y → Kt z w = K z w := by
    intro z w z1 z2
    rw [hKt]
    unfold updD
    rw [if_neg z2, setW_n (fun q => by omega)]
  have kty : ∀ w, Kt y w = 0 := by
    intro w
    rw [hKt]
    unfold updD
    rw [if_pos rfl]
  have ks : ∀ z w, z ≠ s → setH Kt s (hpl r0) y z w = Kt z w := fun z w hz => setH_w (fun q => hz q.1)
  have hk : ∀ z, na ≤ z → z ≠ y → ∀ i, sH (setH Kt s (hpl r0) y z) i = if z = s ∧ i = hpl r0 then y else sH (K z) i := by
    intro z z1 z2 i
    rw [sH_set (by omega)]
    have : Kt z = K z := by funext w; exact kt z w z1 z2
    rw [this]
  refine ⟨⟨?_, fun m hm hne => ?_, fun m r hm hne ht => ?_⟩, ⟨?_, ?_, ?_, ?_, ?_⟩, fun q hq ha => ?_, fun q hq ht j hj => ?_⟩
  · refine mMap_tk r1 hyL (fun x => adR_17) (fun m w w1 w2 => ?_) hv
    rw [ks _ _ (by omega), hKt]
    unfold updD
    rw [if_neg (by omega)]
    by_cases c : m = 80 + y / 512 ∧ w = y % 512 / 64
    · rw [if_pos c, c.1, c.2, setW_s]
    · rw [if_neg c, setW_n c]
  · have q := r2 m hm hne
    have hms : na + m ≠ s := by
      rw [hse]
      unfold tel
      by_cases c : own r0 = true
      · rw [if_pos c]; omega
      · rw [if_neg c]
        rcases hal with z | z
        · exact absurd z c
        · have := t3.2.1 n (trl r0) hn z
          omega
    have eK : setH Kt s (hpl r0) y (na + m) = K (na + m) := by
      funext w
      rw [ks _ _ hms, kt _ _ (by omega) (by omega)]
    rw [eK]
    obtain ⟨p1, p2, p3, p4, p5, p6⟩ := q
    unfold mNode
    rw [e5, e 6 (by decide) (by decide) (by decide) (by decide), e 7 (by decide) (by decide) (by decide) (by decide), e 8 (by decide) (by decide) (by decide) (by decide), e 11 (by decide) (by decide) (by decide) (by decide), e 12 (by decide) (by decide) (by decide) (by decide), e 13 (by decide) (by decide) (by decide) (by decide), e 15 (by decide) (by decide) (by decide) (by decide), e 16 (by decide) (by decide) (by decide) (by decide)]
    refine ⟨p1, p2, p3, fun z => ⟨fun k hk2 => ?_, ?_, ?_⟩, p5, p6⟩
    · rw [adR_9, if_neg (by omega)]; exact (p4 z).1 k hk2
    · rw [adR_10, if_neg (by omega)]; exact (p4 z).2.1
    · rw [adR_10, if_neg (by omega)]; exact (p4 z).2.2
  · rw [htl, if_neg (fun z => hne z.1)] at ht ⊢
    have hq := t3.2.1 m r hm ht
    obtain ⟨o1, o2, o3, o4, o5⟩ := r3 m r hm hne ht
    have hts : tl A W m r ≠ s := by
      rw [hse]
      unfold tel
      by_cases c : own r0 = true
      · rw [if_pos c]; omega
      · rw [if_neg c]
        intro z
        exact hne (t3.1 m r n (trl r0) hm hn ht z).1
    have eK : setH Kt s (hpl r0) y (tl A W m r) = K (tl A W m r) := by
      funext w
      rw [ks _ _ hts, kt _ _ (by omega) (hyn m r hm)]
    rw [eK]
    unfold mRole
    rw [e5, e 14 (by decide) (by decide) (by decide) (by decide)]
    refine ⟨fun z j hj => ?_, fun z1 z2 j hj => ?_, fun z1 z2 i hi => ?_, fun z1 z2 j hj => ?_, o5⟩
    · have := hyn m r hm
      rw [adR_18, if_neg (by omega)]; exact o1 z j hj
    · rw [adR_9, if_neg (by omega)]; exact o2 z1 z2 j hj
    · rw [adR_10, if_neg (by omega)]; exact o3 z1 z2 i hi
    · have hr2 : r < 1102 := by
        rcases Nat.lt_or_ge r 1102 with q | q
        · exact q
        · exfalso
          apply ht
          unfold tl
          rw [if_pos z1, if_neg (by omega), if_neg (by omega)]
      rw [adR_9, if_neg (by omega)]; exact o4 z1 z2 j hj
  all_goals try (
    have w0 : setH Kt s (hpl r0) y (na + n) 0 = K (na + n) 0 := by
      rw [setH_w (fun q => ?_), kt _ _ (by omega) (by omega)]
      have e1 := q.1
      rw [hse] at e1
      unfold tel at e1
      by_cases c : own r0 = true
      · have := hpl_own c (by omega)
        omega
      · rw [if_neg c] at e1
        rcases hal with z | z
        · exact c z
        · have := t3.2.1 n (trl r0) hn z
          omega
    rw [w0])
  · exact s1
  · rw [e 11 (by decide) (by decide) (by decide) (by decide)]; exact s2
  · rw [e 12 (by decide) (by decide) (by decide) (by decide)]; exact s3
  · rw [e 15 (by decide) (by decide) (by decide) (by decide)]; exact s4
  · rw [e 6 (by decide) (by decide) (by decide) (by decide)]; exact s5
  · -- tellers
    rw [htl]
    by_cases cq : ¬ own q = true ∧ trl q = r0
    · have et : tel (adR A n r0 y) W na n q = y := by
        unfold tel
        rw [if_neg cq.1, htl, if_pos ⟨rfl, cq.2⟩]
      have hqr : q ≠ r0 := by
        intro z
        have h2 := trl_in cq.1
        have h3 := own_f cq.1
        have h4 := cq.2
        unfold trl at h4
        repeat' split at h4
        all_goals omega
      have z0 := hch q hq cq.1 cq.2
      have zz : setH Kt s (hpl r0) y y = fun _ => 0 := by
        funext w
        rw [ks _ _ (fun z => hs.2.2 z.symm), kty w]
      rw [et, if_neg (fun z => hqr z.2), z0, zz]
      exact z_sH rfl
    · have et : tel (adR A n r0 y) W na n q = tel A W na n q := by
        unfold tel
        by_cases c : own q = true
        · rw [if_pos c, if_pos c]
        · rw [if_neg c, if_neg c, htl, if_neg (fun z => cq ⟨c, z.2⟩)]
      have ha' : own q = true ∨ tl A W n (trl q) ≠ 0 := by
        rcases ha with z | z
        · exact Or.inl z
        · by_cases c : own q = true
          · exact Or.inl c
          · rw [htl, if_neg (fun w => cq ⟨c, w.2⟩)] at z
            exact Or.inr z
      have hz : na ≤ tel A W na n q ∧ tel A W na n q ≠ y := by
        unfold tel
        by_cases c : own q = true
        · rw [if_pos c]; omega
        · rw [if_neg c]
          rcases ha' with z | z
          · exact absurd z c
          · have := t3.2.1 n (trl q) hn z
            exact ⟨by omega, hyn _ _ hn⟩
      rw [et, hk _ hz.1 hz.2]
      by_cases c : q = r0
      · rw [c, ← hse, if_pos ⟨rfl, rfl⟩, if_pos ⟨rfl, rfl⟩]
      · rw [if_neg (fun z => ?_), if_neg (fun z => c z.2)]
        · exact te q hq ha'
        · apply c
          obtain ⟨z1, z2⟩ := z
          rw [hse] at z1
          unfold tel at z1
          by_cases o1 : own q = true
          · by_cases o2 : own r0 = true
            · exact hpl_inj (Or.inl ⟨hq, hr⟩) (o1.trans o2.symm) (fun z => absurd o1 z) z2
            · exfalso
              rw [if_pos o1, if_neg o2] at z1
              rcases hal with w | w
              · exact o2 w
              · have := t3.2.1 n (trl r0) hn w
                omega
          · by_cases o2 : own r0 = true
            · exfalso
              rw [if_neg o1, if_pos o2] at z1
              rcases ha' with w | w
              · exact o1 w
              · have := t3.2.1 n (trl q) hn w
                omega
            · rw [if_neg o1, if_neg o2] at z1
              rcases ha' with w | w
              · exact absurd w o1
              · have e3 := (t3.1 n (trl q) n (trl r0) hn hn w z1).2
                refine hpl_inj (Or.inl ⟨hq, hr⟩) ?_ (fun _ => e3) z2
                cases h5 : own q with
                | true => exact absurd h5 o1
                | false =>
                  cases h6 : own r0 with
                  | true => exact absurd h6 o2
                  | false => rfl
  · rw [htl] at ht ⊢
    by_cases c : n = n ∧ q = r0
    · rw [if_pos c, adR_18, if_pos (by omega)]
      have zz : setH Kt s (hpl r0) y y = fun _ => 0 := by
        funext w
        rw [ks _ _ (fun z => hs.2.2 z.symm), kty w]
      rw [zz]
      unfold sO ocN
      rw [uN_0, Nat.zero_shiftRight]
    · rw [if_neg c] at ht ⊢
      have hq2 := t3.2.1 n q hn ht
      have hqs : tl A W n q ≠ s := by
        rw [hse]
        unfold tel
        by_cases co : own r0 = true
        · rw [if_pos co]; omega
        · rw [if_neg co]
          intro z
          have := (t3.1 n q n (trl r0) hn hn ht z).2
          have := trl_in co
          omega
      have eK : setH Kt s (hpl r0) y (tl A W n q) = K (tl A W n q) := by
        funext w
        rw [ks _ _ hqs, kt _ _ (by omega) (hyn n q hn)]
      have := hyn n q hn
      rw [eK, adR_18, if_neg (by omega)]
      exact da q hq ht j hj
