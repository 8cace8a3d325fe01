/-! ===== a DIRECTORY gets a BLOCK; a SLOT is filled: the tree ===== -/
/-- the class holds the tree, but for one NODE -/
def RXx (W Ls na : Nat) (A : Nat → Nat → Nat) (nm : Nat → Int64) (K : Nat → Nat → Int64) (e : Nat) : Prop := mMap Ls A K ∧ (∀ n, n < 64 → n ≠ e → mNode A W n (K (na + n))) ∧ (∀ n r, n < 64 → n ≠ e → tl A W n r ≠ 0 → mRole A nm n r (tl A W n r) (K (tl A W n r)))
theorem RX_x {W Ls na : Nat} {A : Nat → Nat → Nat} {nm : Nat → Int64} {K : Nat → Nat → Int64} {e : Nat} (r : RX W Ls na A nm K) : RXx W Ls na A nm K e := ⟨r.1, fun n hn _ => r.2.1 n hn, fun n r' hn _ => r.2.2 n r' hn⟩
theorem RXx_64 {W Ls na : Nat} {A : Nat → Nat → Nat} {nm : Nat → Int64} {K : Nat → Nat → Int64} (r : RXx W Ls na A nm K 64) : RX W Ls na A nm K := ⟨r.1, fun n hn => r.2.1 n hn (by omega), fun n r' hn => r.2.2 n r' hn (by omega)⟩
def tkA (A : Nat → Nat → Nat) (y : Nat) : Nat → Nat → Nat := fun k j => if k = 17 ∧ j = y then 1 else if k = 18 ∧ j / 64 = y then 0 else A k j
def gA (A : Nat → Nat → Nat) (d y : Nat) : Nat → Nat → Nat := setA (setA (tkA A y) 13 (12 * d + A 8 d) y) 8 d (A 8 d + 1)
theorem tkA_k {A : Nat → Nat → Nat} {y k : Nat} (h : k ≠ 17) (h2 : k ≠ 18) : tkA A y k = A k := by
  funext j
  unfold tkA
  rw [if_neg (fun z => h z.1), if_neg (fun z => h2 z.1)]
theorem tkA_17 {A : Nat → Nat → Nat} {y x : Nat} : tkA A y 17 x = if x = y then 1 else A 17 x := by
  unfold tkA
  by_cases c : x = y
  · rw [if_pos ⟨rfl, c⟩, if_pos c]
  · rw [if_neg (fun z => c z.2), if_neg (by omega), if_neg c]
theorem tkA_18 {A : Nat → Nat → Nat} {y j : Nat} : tkA A y 18 j = if j / 64 = y then 0 else A 18 j := by
  unfold tkA
  rw [if_neg (by omega)]
  by_cases c : j / 64 = y
  · rw [if_pos ⟨rfl, c⟩, if_pos c]
  · rw [if_neg (fun z => c z.2), if_neg c]
theorem gA_k {A : Nat → Nat → Nat} {d y k : Nat} (h1 : k ≠ 8) (h2 : k ≠ 13) (h3 : k ≠ 17) (h4 : k ≠ 18) : gA A d y k = A k := by
  unfold gA
  rw [setA_k h1, setA_k h2, tkA_k h3 h4]
theorem gA_8 {A : Nat → Nat → Nat} {d y m : Nat} : gA A d y 8 m = if m = d then A 8 d + 1 else A 8 m := by
  unfold gA
  by_cases c : m = d
  · rw [c, setA_s, if_pos rfl]
  · rw [setA_n c, if_neg c, setA_k (by decide), tkA_k (by decide) (by decide)]
theorem gA_13 {A : Nat → Nat → Nat} {d y j : Nat} : gA A d y 13 j = if j = 12 * d + A 8 d then y else A 13 j := by
  unfold gA
  rw [setA_k (by decide)]
  by_cases c : j = 12 * d + A 8 d
  · rw [c, setA_s, if_pos rfl]
  · rw [setA_n c, if_neg c, tkA_k (by decide) (by decide)]
theorem gA_17 {A : Nat → Nat → Nat} {d y x : Nat} : gA A d y 17 x = if x = y then 1 else A 17 x := by
  unfold gA
  rw [setA_k (by decide), setA_k (by decide), tkA_17]
theorem gA_18 {A : Nat → Nat → Nat} {d y j : Nat} : gA A d y 18 j = if j / 64 = y then 0 else A 18 j := by
  unfold gA
  rw [setA_k (by decide), setA_k (by decide), tkA_18]
theorem gA_tl {A : Nat → Nat → Nat} {W d y : Nat} (hk : A 5 d = 2) (h8 : A 8 d < 12) (h8a : ∀ n, n < 64 → A 8 n ≤ 12) {n r : Nat} (hn : n < 64) : tl (gA A d y) W n r = if n = d ∧ r = 1102 + A 8 d then y else tl A W n r := by
  have e5 : gA A d y 5 = A 5 := gA_k (by decide) (by decide) (by decide) (by decide)
  have e9 : gA A d y 9 = A 9 := gA_k (by decide) (by decide) (by decide) (by decide)
  have e10 : gA A d y 10 = A 10 := gA_k (by decide) (by decide) (by decide) (by decide)
  have hn8 := h8a n hn
  by_cases c : n = d ∧ r = 1102 + A 8 d
  · refine Eq.trans ?_ (if_pos c).symm
    obtain ⟨c1, c2⟩ := c
    subst c1
    unfold tl
    rw [e5, gA_8, if_neg (show ¬ A 5 n = 1 by omega), if_pos hk, if_pos (show n = n from rfl), if_pos (show 1102 ≤ r ∧ r - 1102 < A 8 n + 1 by omega), gA_13, if_pos (show 12 * n + (r - 1102) = 12 * n + A 8 n by omega)]
  · refine Eq.trans ?_ (if_neg c).symm
    unfold tl
    rw [e5, e9, e10]
    by_cases k1 : A 5 n = 1
    · rw [if_pos k1, if_pos k1]
    · rw [if_neg k1, if_neg k1]
      by_cases k2 : A 5 n = 2
      · rw [if_pos k2, if_pos k2]
        by_cases c3 : 1102 ≤ r ∧ r - 1102 < A 8 n
        · refine Eq.trans ?_ (if_pos c3).symm
          have c4 : 1102 ≤ r ∧ r - 1102 < gA A d y 8 n := by
            rw [gA_8]
            split
            · rename_i q; rw [q] at c3; omega
            · exact c3
          rw [if_pos c4, gA_13, if_neg (show ¬ 12 * n + (r - 1102) = 12 * d + A 8 d from fun z => c (by
            have e1 : n = d := by omega
            rw [e1] at c3
            omega))]
        · refine Eq.trans ?_ (if_neg c3).symm
          have c4 : ¬ (1102 ≤ r ∧ r - 1102 < gA A d y 8 n) := by
            rw [gA_8]
            split
            · rename_i q
              intro z
              rw [q] at c3
              exact c ⟨q, by omega⟩
            · exact c3
          rw [if_neg c4]
      · rw [if_neg k2, if_neg k2]
        by_cases k3 : A 5 n = 3
        · have hnd : n ≠ d := fun z => by rw [z] at k3; omega
          rw [if_pos k3, if_pos k3, gA_13, if_neg (show ¬ 12 * n = 12 * d + A 8 d by omega)]
        · rw [if_neg k3, if_neg k3]
/-- what is known of the tree in the middle of a call: all but how many SLOTS a NODE has -/
def TW4a (A : Nat → Nat → Nat) (nm : Nat → Int64) : Prop := ∀ j, j < 3072 → A 14 j ≠ 0 → A 5 (j / 48) = 2 ∧ j % 48 < 4 * A 8 (j / 48) ∧ A 14 j < 64 ∧ A 5 (A 14 j) ≠ 0 ∧ okN (nm j) ∧ (A 5 (A 14 j) = 2 → A 7 (A 14 j) = j / 48)
def TV (B W Ls fb : Nat) (A : Nat → Nat → Nat) (nm : Nat → Int64) : Prop := TW1 W B A ∧ TW2 (szp A) A ∧ TW3 W Ls fb A ∧ TW4a A nm
theorem TW.v {B W Ls fb : Nat} {A : Nat → Nat → Nat} {nm : Nat → Int64} (t : TW B W Ls fb A nm) : TV B W Ls fb A nm := ⟨t.1, t.2.1, t.2.2.1, t.2.2.2.1⟩
theorem gA_TV {B W Ls fb d y : Nat} {A : Nat → Nat → Nat} {nm : Nat → Int64} (t : TV B W Ls fb A nm) (hd : d < 64) (hk : A 5 d = 2) (h8 : A 8 d < 12) (hy : fb ≤ y) (hyL : y < Ls) (h0 : A 17 y = 0) (hfb : 0 < fb) : TV B W Ls fb (gA A d y) nm := by
  obtain ⟨t1, t2, t3, t4⟩ := t
  have e : ∀ k, k ≠ 8 → k ≠ 13 → k ≠ 17 → k ≠ 18 → gA A d y k = A k := fun k h1 h2 h3 h4 => gA_k h1 h2 h3 h4
  have e5 := e 5 (by decide) (by decide) (by decide) (by decide)
  have e6 := e 6 (by decide) (by decide) (by decide) (by decide)
  have e7 := e 7 (by decide) (by decide) (by decide) (by decide)
  have e9 := e 9 (by decide) (by decide) (by decide) (by decide)
  have e10 := e 10 (by decide) (by decide) (by decide) (by decide)
  have e11 := e 11 (by decide) (by decide) (by decide) (by decide)
  have e12 := e 12 (by decide) (by decide) (by decide) (by decide)
  have e14 := e 14 (by decide) (by decide) (by decide) (by decide)
  have e15 := e 15 (by decide) (by decide) (by decide) (by decide)
  have e16 := e 16 (by decide) (by decide) (by decide) (by decide)
  have eu : ∀ k n', upn (gA A d y) k n' = upn A k n' := upn_cg e7
  have h8a : ∀ n, n < 64 → A 8 n ≤ 12 := fun n hn => (t1.1 n hn).2.2.2.2.2.1
  have etl : ∀ n r, n < 64 → tl (gA A d y) W n r = if n = d ∧ r = 1102 + A 8 d then y else tl A W n r := fun n r hn => gA_tl hk h8 h8a hn
  have hold : tl A W d (1102 + A 8 d) = 0 := by
    unfold tl
    rw [if_neg (by omega), if_pos hk, if_neg (by omega)]
  have hyn : ∀ n r, n < 64 → tl A W n r ≠ y := by
    intro n r hn z
    have := t3.2.1 n r hn (by omega)
    rw [z] at this
    omega
  refine ⟨?_, ?_, ?_, ?_⟩
  · unfold TW1 at t1 ⊢
    rw [e5, e6, e7, e11, e12, e15, e16]
    obtain ⟨q1, q2, q3, q4, q5, q6, q7, q8⟩ := t1
    refine ⟨fun m hm => ?_, q2, fun m hm z => ?_, q4, fun m hm z => ?_, q6, fun j => ?_, fun x => ?_⟩
    · obtain ⟨p1, p2, p3, p4, p5, p6, p7⟩ := q1 m hm
      rw [gA_8]
      refine ⟨p1, p2, p3, p4, p5, ?_, fun z => ?_⟩
      · split <;> omega
      · rw [if_neg (fun w => by rw [w] at z; exact z hk)]
        exact p7 z
    · obtain ⟨p1, p2, p3⟩ := q3 m hm z
      refine ⟨p1, p2, fun k hk2 => ?_⟩
      rw [gA_8] at hk2
      rw [gA_13]
      split
      · omega
      · split at hk2
        · rename_i c1 c2
          rw [c2]
          rw [c2] at p3 c1
          exact p3 k (by omega)
        · exact p3 k hk2
    · obtain ⟨p1, p2, p3⟩ := q5 m hm z
      have hmd : m ≠ d := fun w => by rw [w] at z; omega
      rw [gA_13, if_neg (by omega)]
      exact ⟨p1, p2, p3⟩
    · rw [gA_18]
      split
      · decide
      · exact q7 j
    · rw [gA_17]
      split
      · decide
      · exact q8 x
  · unfold TW2 szp at t2 ⊢
    rw [e5, e6, e9, e10]
    exact t2
  · obtain ⟨q1, q2, q3, q4⟩ := t3
    refine ⟨fun n r n2 r2 hn hn2 hz he => ?_, fun n r hn hz => ?_, fun x hx hx2 hu => ?_, fun x hx => ?_⟩
    · rw [etl n r hn] at hz he
      rw [etl n2 r2 hn2] at he
      by_cases c1 : n = d ∧ r = 1102 + A 8 d
      · rw [if_pos c1] at he
        by_cases c2 : n2 = d ∧ r2 = 1102 + A 8 d
        · exact ⟨by rw [c1.1, c2.1], by rw [c1.2, c2.2]⟩
        · rw [if_neg c2] at he
          exact absurd he.symm (hyn n2 r2 hn2)
      · rw [if_neg c1] at he hz
        by_cases c2 : n2 = d ∧ r2 = 1102 + A 8 d
        · rw [if_pos c2] at he
          exact absurd he (hyn n r hn)
        · rw [if_neg c2] at he
          exact q1 n r n2 r2 hn hn2 hz he
    · rw [etl n r hn] at hz ⊢
      rw [gA_17]
      by_cases c1 : n = d ∧ r = 1102 + A 8 d
      · rw [if_pos c1, if_pos rfl]
        exact ⟨hy, hyL, rfl⟩
      · rw [if_neg c1] at hz ⊢
        rw [if_neg (hyn n r hn)]
        exact q2 n r hn hz
    · rw [gA_17] at hu
      by_cases c : x = y
      · exact ⟨d, 1102 + A 8 d, hd, by rw [etl d _ hd, if_pos ⟨rfl, rfl⟩, c]⟩
      · rw [if_neg c] at hu
        obtain ⟨n, r, hn, hr⟩ := q3 x hx hx2 hu
        refine ⟨n, r, hn, ?_⟩
        rw [etl n r hn, if_neg (fun z => ?_)]
        · exact hr
        · rw [z.1, z.2, hold] at hr
          omega
    · rw [gA_17, if_neg (by omega)]
      exact q4 x hx
  · intro j hj hz
    rw [e14] at hz ⊢
    obtain ⟨p1, p2, p3⟩ := t4 j hj hz
    rw [e5, e7]
    refine ⟨p1, ?_, p3⟩
    rw [gA_8]
    split
    · rename_i c
      rw [c] at p2
      omega
    · exact p2
theorem gA_TW {B W Ls fb d y : Nat} {A : Nat → Nat → Nat} {nm : Nat → Int64} (t : TW B W Ls fb A nm) (hd : d < 64) (hk : A 5 d = 2) (h8 : A 8 d < 12) (hy : fb ≤ y) (hyL : y < Ls) (h0 : A 17 y = 0) (hfb : 0 < fb) : TW B W Ls fb (gA A d y) nm := by
  obtain ⟨g1, g2, g3, g4⟩ := gA_TV t.v hd hk h8 hy hyL h0 hfb
  refine ⟨g1, g2, g3, g4, ?_⟩
  have e5 : gA A d y 5 = A 5 := gA_k (by decide) (by decide) (by decide) (by decide)
  have e7 : gA A d y 7 = A 7 := gA_k (by decide) (by decide) (by decide) (by decide)
  have e14 : gA A d y 14 = A 14 := gA_k (by decide) (by decide) (by decide) (by decide)
  have e15 : gA A d y 15 = A 15 := gA_k (by decide) (by decide) (by decide) (by decide)
  have eu : ∀ k n', upn (gA A d y) k n' = upn A k n' := upn_cg e7
  rw [e5, e14, e15]
  simp only [eu]
  exact t.2.2.2.2
/-- the map's word with a bit more -/
theorem mMap_tk {Ls y : Nat} {A A2 : Nat → Nat → Nat} {K K2 : Nat → Nat → Int64} {v : Int64} (mm : mMap Ls A K) (hy : y < Ls) (h17 : ∀ x, A2 17 x = if x = y then 1 else A 17 x) (hK : ∀ m w, 80 ≤ m → m < 80 + (Ls + 511) / 512 → K2 m w = if m = 80 + y / 512 ∧ w = y % 512 / 64 then v else K m w) (hv : ∀ i, i < 64 → bt v i = if i = y % 64 then true else bt (K (80 + y / 512) (y % 512 / 64)) i) : mMap Ls A2 K2 := by
  intro x hx
  have h := mm x hx
  rw [hK _ _ (by omega) (by omega), h17]
  by_cases c : 80 + x / 512 = 80 + y / 512 ∧ x % 512 / 64 = y % 512 / 64
  · rw [if_pos c, hv _ (by omega)]
    rw [c.1, c.2] at h
    by_cases c2 : x % 64 = y % 64
    · have e : x = y := by omega
      rw [if_pos c2, if_pos e, e]
      simp [hy]
    · rw [if_neg c2, if_neg (fun z => c2 (by rw [z]))]
      exact h
  · rw [if_neg c, if_neg (fun z => c (by rw [z]; exact ⟨rfl, rfl⟩))]
    exact h
