/-! ===== lay: the band is taken, and its bytes ===== -/
def sA7 (A : Nat → Nat → Nat) (s : Nat) : Nat → Nat → Nat → Nat
  | 0 => A
  | i + 1 => setA (sA7 A s i) 17 (s + i) 1
theorem sA7_k {A : Nat → Nat → Nat} {s k : Nat} (h : k ≠ 17) : ∀ i, sA7 A s i k = A k
  | 0 => rfl
  | i + 1 => by
    have e : sA7 A s (i + 1) = setA (sA7 A s i) 17 (s + i) 1 := rfl
    rw [e, setA_k h, sA7_k h i]
theorem sA7_17 {A : Nat → Nat → Nat} {s : Nat} : ∀ i x, sA7 A s i 17 x = if s ≤ x ∧ x < s + i then 1 else A 17 x
  | 0, x => by rw [if_neg (by omega)]; rfl
  | i + 1, x => by
    have e : sA7 A s (i + 1) = setA (sA7 A s i) 17 (s + i) 1 := rfl
    rw [e]
    by_cases c : x = s + i
    · rw [c, setA_s, if_pos (by omega)]
    · rw [setA_n c, sA7_17 i x]
      by_cases c2 : s ≤ x ∧ x < s + i
      · rw [if_pos c2, if_pos (by omega)]
      · rw [if_neg c2, if_neg (by omega)]
theorem sA7_bd {A : Nat → Nat → Nat} {W b : Nat} (hW : 0 < W) : sA7 A (b * W) W = bdA A W b := by
  funext k x
  by_cases c : k = 17
  · subst c
    rw [sA7_17, bdA_17]
    have d1 := Nat.div_add_mod x W
    have d2 := Nat.mod_lt x hW
    by_cases c : x / W = b
    · rw [c, Nat.mul_comm] at d1
      rw [if_pos c, if_pos (by omega)]
    · rw [if_neg c, if_neg (fun z => c ?_)]
      have e2 : ∀ j, j < W → (b * W + j) / W = b := fun j hj => by rw [Nat.mul_comm, Nat.mul_add_div hW, Nat.div_eq_of_lt hj, Nat.add_zero]
      have := e2 (x - b * W) (by omega)
      rw [show b * W + (x - b * W) = x by omega] at this
      exact this
  · rw [sA7_k c, bdA_k c]
def dB (dd : Nat → Bool) (s : Nat) : Nat → Nat → Bool
  | 0 => dd
  | i + 1 => setb (dB dd s i) (80 + (s + i) / 512) true
theorem dB_t {dd : Nat → Bool} {s Ls : Nat} : ∀ i z, s + i ≤ Ls → dB dd s i z = true → dd z = true ∨ (80 ≤ z ∧ z < 80 + (Ls + 511) / 512)
  | 0, z, _, h => Or.inl h
  | i + 1, z, hL, h => by
    have e : dB dd s (i + 1) = setb (dB dd s i) (80 + (s + i) / 512) true := rfl
    rw [e] at h
    rcases sbt.mp h with q | q
    · right; omega
    · exact dB_t i z (by omega) q
theorem dB_u {dd : Nat → Bool} {s : Nat} : ∀ i z, dd z = true → dB dd s i z = true
  | 0, z, h => h
  | i + 1, z, h => sbt.mpr (Or.inr (dB_u i z h))
theorem dB_cg {dd d2 : Nat → Bool} {s Ls : Nat} (h : ∀ z, z < Ls → dd z = d2 z) : ∀ i z, z < Ls → dB dd s i z = dB d2 s i z
  | 0, z, hz => h z hz
  | i + 1, z, hz => by
    have e : ∀ d, dB d s (i + 1) = setb (dB d s i) (80 + (s + i) / 512) true := fun _ => rfl
    rw [e, e]
    by_cases c : z = 80 + (s + i) / 512
    · rw [c, setb_s, setb_s]
    · rw [setb_n c, setb_n c, dB_cg h i z hz]
theorem x_takeBand {B T S C W Ls hb b : Nat} {um : q_St} {D K0 : Nat → Nat → Int64} {d0 : Nat → Bool} {A : Nat → Nat → Nat} {L : Nat → Nat} {N : Nat} {ux : q_St} (g : Geo B T S C W Ls) (gl : gL B C W Ls L) (hN : 3000 ≤ N) (hbW : b * W + W ≤ Ls) (xs : XS B T S C W Ls hb um D K0 d0 ux) (mm : mMap Ls A K0) :
    ∃ v K2, fX5_takeBand L N (nI b) ux = some ((), v) ∧ XS B T S C W Ls hb um D K2 (dB d0 (b * W) W) v ∧ mMap Ls (bdA A W b) K2 ∧ (∀ y j, (y < 80 ∨ 80 + (Ls + 511) / 512 ≤ y) → K2 y j = K0 y j) ∧ Fr [13, 22] [5] [2] ux v := by
  have hl := g.l
  have hw := g.w
  have e26 : ∀ u, XS B T S C W Ls hb um D K0 d0 u → True := fun _ _ => trivial
  have key : ∀ (k i m : Nat) (K : Nat → Nat → Int64) (u : q_St), i + k = W → k < m → XS B T S C W Ls hb um D K (dB d0 (b * W) i) u → mMap Ls (sA7 A (b * W) i) K → (∀ y j, (y < 80 ∨ 80 + (Ls + 511) / 512 ≤ y) → K y j = K0 y j) → Fr [13, 22] [5] [2] ux u → ∃ v K2, q_lp (fX5_takeBand_b9 L N) (fun _ _ _ => none) m (nI (b * W)) (nI (b * W + i)) u = some ((), v) ∧ XS B T S C W Ls hb um D K2 (dB d0 (b * W) W) v ∧ mMap Ls (sA7 A (b * W) W) K2 ∧ (∀ y j, (y < 80 ∨ 80 + (Ls + 511) / 512 ≤ y) → K2 y j = K0 y j) ∧ Fr [13, 22] [5] [2] ux v := by
    intro k
    induction k with
    | zero =>
      intro i m K u q1 q2 s m0 ko fr
      have : i = W := by omega
      subst this
      exact ⟨u, K, by rw [lp_1 _ _ (by omega), fX5_takeBand_b9, s.1.gx.2.2.2.2.2.2.2.1, nI_add, if_pos (nI_le (by omega) (by omega))], s, m0, ko, fr⟩
    | succ k ih =>
      intro i m K u q1 q2 s m0 ko fr
      obtain ⟨y, hy⟩ : ∃ y, y = b * W + i := ⟨_, rfl⟩
      have hyL : y < Ls := by omega
      obtain ⟨vv, hvv⟩ : ∃ q, q = (K (80 + y / 512) (y % 512 / 64)) ||| (q_lshl 1 (nI (y % 64))) := ⟨_, rfl⟩
      obtain ⟨u2, b1, b2⟩ := x_setWord (N := N) (v := vv) g gl s (x := 80 + y / 512) (w := y % 512 / 64) (by omega) (by omega)
      have f2 := fr_X6_setWord b1
      have hbv : ∀ j, j < 64 → bt vv j = if j = y % 64 then true else bt (K (80 + y / 512) (y % 512 / 64)) j := by
        intro j hj
        rw [hvv, bt_or, bt_lshl _ (by omega) hj, bt_one]
        by_cases c : j = y % 64
        · rw [if_pos c, decide_eq_true (show y % 64 ≤ j by omega), decide_eq_true (show j - y % 64 = 0 by omega)]
          simp
        · rw [if_neg c]
          by_cases c2 : y % 64 ≤ j
          · rw [decide_eq_false (show ¬ j - y % 64 = 0 by omega)]
            simp
          · rw [decide_eq_false c2]
            simp
      have es : dB d0 (b * W) (i + 1) = setb (dB d0 (b * W) i) (80 + y / 512) true := by rw [hy]; rfl
      have ea : sA7 A (b * W) (i + 1) = setA (sA7 A (b * W) i) 17 y 1 := by rw [hy]; rfl
      rw [← es] at b2
      obtain ⟨v, K2, c1, c2, c3, c4, c5⟩ := ih (i + 1) (m - 1) _ u2 (by omega) (by omega) b2 (mMap_tk (y := y) (v := vv) m0 hyL (fun z => by
          rw [ea]
          by_cases c : z = y
          · rw [c, setA_s, if_pos rfl]
          · rw [setA_n c, if_neg c]) (fun z w z1 z2 => by
          by_cases c : z = 80 + y / 512 ∧ w = y % 512 / 64
          · rw [if_pos c, c.1, c.2, setW_s]
          · rw [if_neg c, setW_n c]) hbv) (fun z j hz => by
          rw [setW_n (fun q => by omega)]
          exact ko z j hz) (fr.trans (f2.mono (by decide) (by decide) (by decide)))
      refine ⟨v, K2, ?_, c2, c3, c4, c5⟩
      have hwd : fX6_word L N (nI (80 + y / 512)) (nI (y % 512 / 64)) u = some (K (80 + y / 512) (y % 512 / 64), u) := x_word g gl s (by omega) (by omega)
      rw [hvv] at b1
      rw [lp_1 _ _ (by omega), fX5_takeBand_b9, s.1.gx.2.2.2.2.2.2.2.1, nI_add, if_neg (nI_ge (by omega) (by omega)), ← hy, show nI y / (512 : Int32) = nI (y / 512) from pk_div (d := 512) (by omega) (by decide) (by decide), show (80 : Int32) + nI (y / 512) = nI (80 + y / 512) from nI_add 80 _, show nI (y / 512) * (512 : Int32) = nI (y / 512 * 512) from pk_mul _ 512, pk_sub (by omega), show y - y / 512 * 512 = y % 512 by omega, show nI (y % 512) / (64 : Int32) = nI (y % 512 / 64) from pk_div (d := 64) (by omega) (by decide) (by decide), qn_s, hwd, qb_s, show nI y / (64 : Int32) = nI (y / 64) from pk_div (d := 64) (by omega) (by decide) (by decide), show nI (y / 64) * (64 : Int32) = nI (y / 64 * 64) from pk_mul _ 64, pk_sub (by omega), show y - y / 64 * 64 = y % 64 by omega, b1, qb_s, qn_s, nI_1, hy]
      exact c1
  obtain ⟨v, K2, c1, c2, c3, c4, c5⟩ := key W 0 N K0 ux (by omega) (by omega) xs mm (fun _ _ _ => rfl) (Fr.rf _ _ _ _)
  rw [sA7_bd (by omega)] at c3
  refine ⟨v, K2, ?_, c2, c3, c4, c5⟩
  unfold fX5_takeBand
  rw [xs.1.gx.2.2.2.2.2.2.2.1, pk_mul, qn_s]
  exact c1
theorem RM_g {Ls k0 j v : Nat} {A : Nat → Nat → Nat} {nm : Nat → Int64} {a a2 : Nat → Nat → Int32} {nr : Nat → Int64} (r : RM Ls A nm a nr) (ho : ∀ k, 5 ≤ k → k ≤ 18 → k ≠ k0 → a2 k = a k) (h0 : (k0 = 18 ∧ a2 18 = upd (a 18) j (sB v)) ∨ (k0 = 17 ∧ a2 17 = upd (a 17) j (nI v))) : RM Ls (setA A k0 j v) nm a2 nr := by
  obtain ⟨r1, r2, r3, r4, r6, r7, r8, r9⟩ := r
  have s7r : ∀ k ∈ s7, k ≠ 18 ∧ k ≠ 17 ∧ k ≤ 18 ∧ 5 ≤ k := by decide
  have hk : k0 = 18 ∨ k0 = 17 := by omega
  refine ⟨fun k hk i hi => ?_, ?_, ?_, ?_, ?_, ?_, fun i hi => ?_, fun i hi => ?_⟩
  · have := s7r k hk
    rw [ho k (by omega) (by omega) (by omega), setA_k (by omega)]; exact r1 k hk i hi
  · rw [ho 10 (by decide) (by decide) (by omega), setA_k (by omega)]; exact r2
  · rw [ho 9 (by decide) (by decide) (by omega), setA_k (by omega)]; exact r3
  · rw [ho 16 (by decide) (by decide) (by omega), setA_k (by omega)]; exact r4
  · rw [ho 13 (by decide) (by decide) (by omega), setA_k (by omega)]; exact r6
  · rw [ho 14 (by decide) (by decide) (by omega), setA_k (by omega)]; exact r7
  · rcases h0 with ⟨e, -⟩ | ⟨e, h⟩
    · rw [ho 17 (by decide) (by decide) (by omega), setA_k (by omega)]; exact r8 i hi
    · rw [e, h]
      by_cases c : i = j
      · rw [c, up_s, setA_s]
      · rw [up_n c, setA_n c]; exact r8 i hi
  · rcases h0 with ⟨e, h⟩ | ⟨e, -⟩
    · rw [e, h]
      by_cases c : i = j
      · rw [c, up_s, setA_s]
      · rw [up_n c, setA_n c]; exact r9 i hi
    · rw [ho 18 (by decide) (by decide) (by omega), setA_k (by omega)]; exact r9 i hi
theorem m_layBytes {B T S C W Ls b n : Nat} {A Ak : Nat → Nat → Nat} {nm nk : Nat → Int64} {tb : Nat → Nat} {N : Nat} {x1 x6 : Int32} {x2 : Int64} {w0 : q_St} (g : Geo B T S C W Ls) (hN : 140000 ≤ N) (hbW : b * W + W ≤ Ls) (hn0 : 0 < n) (hn : n ≤ 1280) (e4 : q_i w0 4 = nI W) (h35 : ∀ i, i < n → q_a w0 35 i = sB (tb i)) :
    ∀ (k i m : Nat) (w : q_St), i + k = 64 * W → k < m → RM Ls (wrA A (b * W) 0 i (fun t => tb (t % n))) nm (q_a w) (q_j w 0) → RM Ls (wrA Ak (b * W) 0 i (fun t => tb (t % n))) nk (fun k => q_a w (k + 14)) (q_j w 1) → Fr [] [18, 32] [] w0 w →
    ∃ w2, q_lp (fX11_lay_b96 N) (fun _ _ _ _ _ _ _ => none) m x1 x2 (nI n) x6 (nI b) (nI i) w = q_lp (fX11_lay_b179 N) (fun _ _ _ _ _ _ => none) N x1 x2 x6 (nI b) (nI (b * W)) w2 ∧ RM Ls (wrA A (b * W) 0 (64 * W) (fun t => tb (t % n))) nm (q_a w2) (q_j w2 0) ∧ RM Ls (wrA Ak (b * W) 0 (64 * W) (fun t => tb (t % n))) nk (fun k => q_a w2 (k + 14)) (q_j w2 1) ∧ Fr [] [18, 32] [] w0 w2 := by
  have hl := g.l
  have hw := g.w
  intro k
  induction k with
  | zero =>
    intro i m w q1 q2 r1 r2 fr
    have : i = 64 * W := by omega
    subst this
    refine ⟨w, ?_, r1, r2, fr⟩
    rw [lp_1 _ _ (by omega), fX11_lay_b96, fr.1 4 (by decide), e4, show (64 : Int32) * nI W = nI (64 * W) from pk_mul 64 W, if_pos (nI_le (by omega) (by omega)), pk_mul, qn_s]
  | succ k ih =>
    intro i m w q1 q2 r1 r2 fr
    have him : i % n < n := Nat.mod_lt _ hn0
    obtain ⟨j, hj⟩ : ∃ j, j = 64 * (b * W) + 0 + i := ⟨_, rfl⟩
    have hjm : 64 * W * b + i = j := by rw [hj, Nat.mul_assoc, Nat.mul_comm W b, Nat.add_zero]
    have hjL : j < 64 * Ls := by omega
    obtain ⟨w1, hw1⟩ : ∃ q, q = q_sa w 18 (upd (q_a w 18) j (sB (tb (i % n)))) := ⟨_, rfl⟩
    obtain ⟨w2, hw2⟩ : ∃ q, q = q_sa w1 32 (upd (q_a w1 32) j (sB (tb (i % n)))) := ⟨_, rfl⟩
    have eA : ∀ A : Nat → Nat → Nat, setA (wrA A (b * W) 0 i (fun t => tb (t % n))) 18 j (tb (i % n)) = wrA A (b * W) 0 (i + 1) (fun t => tb (t % n)) := by
      intro A
      funext k' j'
      by_cases ck : k' = 18
      · subst ck
        by_cases c : j' = j
        · rw [c, setA_s, wrA_18, if_pos (by omega), show j - (64 * (b * W) + 0) = i by omega]
        · rw [setA_n c, wrA_18, wrA_18]
          by_cases c2 : 64 * (b * W) + 0 ≤ j' ∧ j' < 64 * (b * W) + 0 + i
          · rw [if_pos c2, if_pos (by omega)]
          · rw [if_neg c2, if_neg (by omega)]
      · rw [setA_k ck, wrA_k ck, wrA_k ck]
    have r1' := RM_g (k0 := 18) (j := j) (v := tb (i % n)) (a2 := q_a w2) r1 (fun k _ hk1 hk => by rw [hw2, qa_ne (by omega), hw1, qa_ne hk]) (Or.inl ⟨rfl, by rw [hw2, qa_ne (by decide), hw1, qa_eq]⟩)
    have r2' := RM_g (k0 := 18) (j := j) (v := tb (i % n)) (a2 := fun k => q_a w2 (k + 14)) r2 (fun k hk0 hk1 hk => by
      show q_a w2 (k + 14) = q_a w (k + 14)
      rw [hw2, qa_ne (by omega), hw1, qa_ne (by omega)]) (Or.inl ⟨rfl, by
      show q_a w2 32 = upd (q_a w 32) j (sB (tb (i % n)))
      rw [hw2, qa_eq, hw1, qa_ne (by decide)]⟩)
    rw [eA A] at r1'
    rw [eA Ak] at r2'
    have j0 : q_j w2 0 = q_j w 0 := by rw [hw2, hw1]; rfl
    have j1 : q_j w2 1 = q_j w 1 := by rw [hw2, hw1]; rfl
    have f1 : Fr [] [18, 32] [] w w1 := by rw [hw1]; exact fr_sa1 _ (by decide)
    have f2 : Fr [] [18, 32] [] w1 w2 := by rw [hw2]; exact fr_sa1 _ (by decide)
    obtain ⟨w3, c1, c2, c3, c4⟩ := ih (i + 1) (m - 1) w2 (by omega) (by omega) (by rw [j0]; exact r1') (by rw [j1]; exact r2') ((fr.trans f1).trans f2)
    refine ⟨w3, ?_, c2, c3, c4⟩
    have e35 : q_a w 35 (i % n) = sB (tb (i % n)) := by rw [fr.2.1 35 (by decide)]; exact h35 _ him
    have e35b : q_a w1 35 (i % n) = sB (tb (i % n)) := by rw [hw1, qa_ne (by decide)]; exact e35
    have e4w : q_i w 4 = nI W := (fr.1 4 (by decide)).trans e4
    have e4b : q_i w1 4 = nI W := (f1.1 4 (by decide)).trans e4w
    have er : nI i - nI i / nI n * nI n = nI (i % n) := rem_n (by omega) (by omega) (by omega)
    rw [lp_1 _ _ (by omega), fX11_lay_b96, e4w, show (64 : Int32) * nI W = nI (64 * W) from pk_mul 64 W, if_neg (nI_ge (by omega) (by omega)), qd_n hn0 (by omega), er, qr_n (by omega) (by omega), e35, nar_sB, pk_mul, nI_add, hjm, qw_n (by omega) (by omega), cl_n (by omega), ← hw1, qd_n hn0 (by omega), qr_n (by omega) (by omega), e35b, nar_sB, e4b, show (64 : Int32) * nI W = nI (64 * W) from pk_mul 64 W, pk_mul, nI_add, hjm, qw_n (by omega) (by omega), cl_n (by omega), ← hw2, qn_s, nI_1]
    exact c1
/-- what follows, of the reference -/
def layE (N : Nat) (x1 : Int32) (x2 : Int64) (x6 x7 : Int32) (u : q_St) : Option (Int32 × q_St) := q_bnd (fX11_enter N x1 x2 x6 x7 u) (fun _ u23 => (q_bnd (fX11_born N x6 3 x1 u23) (fun r25 u26 => (q_wa 64 x6 (q_sa u26 6 (upd (q_a u26 6) (Int32.toNatClampNeg x6) (64 * (q_i u26 4)))) (fun u28 => (q_wa 768 (12 * x6) (q_sa u28 13 (upd (q_a u28 13) (Int32.toNatClampNeg (12 * x6)) (x7 * (q_i u28 4)))) (fun u29 => (some (x6, u29)))))))))
theorem m_layTake {B T S C W Ls b : Nat} {A : Nat → Nat → Nat} {nm : Nat → Int64} {d0 : Nat → Bool} {N : Nat} {x1 x6 : Int32} {x2 : Int64} {w0 : q_St} (g : Geo B T S C W Ls) (hN : 140000 ≤ N) (hbW : b * W + W ≤ Ls) (e4 : q_i w0 4 = nI W) (e7 : q_i w0 7 = nI 80) :
    ∀ (k i m : Nat) (w : q_St), i + k = W → k < m → RM Ls (sA7 A (b * W) i) nm (q_a w) (q_j w 0) → MS Ls (dB d0 (b * W) i) w → Fr [25] [17, 33] [] w0 w →
    ∃ w2, q_lp (fX11_lay_b179 N) (fun _ _ _ _ _ _ => none) m x1 x2 x6 (nI b) (nI (b * W + i)) w = layE N x1 x2 x6 (nI b) w2 ∧ RM Ls (bdA A W b) nm (q_a w2) (q_j w2 0) ∧ MS Ls (dB d0 (b * W) W) w2 ∧ Fr [25] [17, 33] [] w0 w2 := by
  have hl := g.l
  have hw := g.w
  have hm : (nI b + 1) * nI W = nI (b * W + W) := by rw [nI_1, pk_mul, Nat.succ_mul]
  intro k
  induction k with
  | zero =>
    intro i m w q1 q2 r1 ms fr
    have : i = W := by omega
    subst this
    rw [sA7_bd (by omega)] at r1
    refine ⟨w, ?_, r1, ms, fr⟩
    rw [lp_1 _ _ (by omega), fX11_lay_b179, fr.1 4 (by decide), e4, hm, if_pos (nI_le (by omega) (by omega))]
    rfl
  | succ k ih =>
    intro i m w q1 q2 r1 ms fr
    obtain ⟨y, hy⟩ : ∃ y, y = b * W + i := ⟨_, rfl⟩
    obtain ⟨w1, hw1⟩ : ∃ q, q = q_sa w 17 (upd (q_a w 17) y (nI 1)) := ⟨_, rfl⟩
    have r1' := RM_g (k0 := 17) (j := y) (v := 1) (a2 := q_a w1) r1 (fun k _ _ hk => by rw [hw1, qa_ne hk]) (Or.inr ⟨rfl, by rw [hw1, qa_eq]⟩)
    have ea : setA (sA7 A (b * W) i) 17 y 1 = sA7 A (b * W) (i + 1) := by rw [hy]; rfl
    rw [ea] at r1'
    have ms1 : MS Ls (dB d0 (b * W) i) w1 := ⟨by rw [hw1, qa_ne (by decide)]; exact ms.1, by rw [hw1]; exact ms.2⟩
    obtain ⟨w2, s1, s2⟩ := m_soil (N := N) hl.2 ms1 (x := 80 + y / 512) (by omega)
    have f1 : Fr [25] [17, 33] [] w w1 := by rw [hw1]; exact fr_sa1 _ (by decide)
    have f2 := fr_X11_soil s1
    have fr2 : Fr [25] [17, 33] [] w0 w2 := (fr.trans f1).trans (f2.mono (by decide) (by decide) (by decide))
    have es : setb (dB d0 (b * W) i) (80 + y / 512) true = dB d0 (b * W) (i + 1) := by rw [hy]; rfl
    rw [es] at s2
    have j0 : q_j w1 0 = q_j w 0 := by rw [hw1]; rfl
    have r2 := RM_fr (um := w1) (vm := w2) (by rw [j0]; exact r1') (fun k q1 q2 => f2.2.1 k (by simp only [List.mem_cons, List.not_mem_nil, or_false]; omega)) (f2.2.2 0 (by decide))
    obtain ⟨w3, c1, c2, c3, c4⟩ := ih (i + 1) (m - 1) w2 (by omega) (by omega) r2 s2 fr2
    refine ⟨w3, ?_, c2, c3, c4⟩
    have e7w : q_i w1 7 = nI 80 := ((fr.trans f1).1 7 (by decide)).trans e7
    rw [lp_1 _ _ (by omega), fX11_lay_b179, fr.1 4 (by decide), e4, hm, if_neg (nI_ge (by omega) (by omega)), ← hy, qw_n (by omega) (by omega), cl_n (by omega), nar_1, show (1 : Int32) = nI 1 from rfl, ← hw1]
    unfold fX11_soilMap
    rw [e7w, show nI y / (512 : Int32) = nI (y / 512) from pk_div (d := 512) (by omega) (by decide) (by decide), nI_add, s1, qb_s, qb_s, qn_s, nI_add, hy]
    exact c1
