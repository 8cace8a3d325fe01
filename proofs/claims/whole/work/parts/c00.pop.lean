/-! ===== how many bits are set ===== -/
/-- a mask of k bytes; a function on each of k bytes; its sum -/
def mk8 (m : Nat) : Nat → Nat
  | 0 => 0
  | k + 1 => m + 256 * mk8 m k
def rp8 (f : Nat → Nat) : Nat → Nat → Nat
  | 0, _ => 0
  | k + 1, x => f (x % 256) + 256 * rp8 f k (x / 256)
def sm8 (f : Nat → Nat) : Nat → Nat → Nat
  | 0, _ => 0
  | k + 1, x => f (x % 256) + sm8 f k (x / 256)
theorem and_split {a c m d : Nat} (ha : a < 256) (hm : m < 256) : (a + 256 * c) &&& (m + 256 * d) = (a &&& m) + 256 * (c &&& d) := by
  have h1 : (a &&& m) < 2 ^ 8 := Nat.lt_of_le_of_lt Nat.and_le_left ha
  refine Nat.eq_of_testBit_eq fun i => ?_
  rw [Nat.testBit_and, show a + 256 * c = 2 ^ 8 * c + a by omega, show m + 256 * d = 2 ^ 8 * d + m by omega, show (a &&& m) + 256 * (c &&& d) = 2 ^ 8 * (c &&& d) + (a &&& m) by omega, Nat.testBit_two_pow_mul_add _ ha, Nat.testBit_two_pow_mul_add _ hm, Nat.testBit_two_pow_mul_add _ h1]
  split
  · rw [Nat.testBit_and]
  · rw [Nat.testBit_and]
theorem sh_and {s m : Nat} (hs : s ≤ 8) (hm : m < 2 ^ (8 - s)) : ∀ k x, (x >>> s) &&& mk8 m k = rp8 (fun b => (b >>> s) &&& m) k x
  | 0, x => by simp [mk8, rp8]
  | k + 1, x => by
    have ih := sh_and hs hm k (x / 256)
    have hm8 : m < 256 := Nat.lt_of_lt_of_le hm (Nat.pow_le_pow_right (n := 2) (by decide) (show 8 - s ≤ 8 by omega))
    have e1 : x >>> s = (x >>> s) % 256 + 256 * ((x >>> s) / 256) := by omega
    have e2 : (x >>> s) / 256 = (x / 256) >>> s := by
      rw [Nat.shiftRight_eq_div_pow, Nat.shiftRight_eq_div_pow, Nat.div_div_eq_div_mul, Nat.div_div_eq_div_mul, Nat.mul_comm]
    have e3 : ((x >>> s) % 256) &&& m = ((x % 256) >>> s) &&& m := by
      refine Nat.eq_of_testBit_eq fun i => ?_
      rw [Nat.testBit_and, Nat.testBit_and, show 256 = 2 ^ 8 from rfl, Nat.testBit_mod_two_pow, Nat.testBit_shiftRight, Nat.testBit_shiftRight, Nat.testBit_mod_two_pow]
      by_cases c : i < 8 - s
      · have h1 : i < 8 := by omega
        have h2 : s + i < 8 := by omega
        simp [h1, h2]
      · have : m.testBit i = false := Nat.testBit_lt_two_pow (Nat.lt_of_lt_of_le hm (Nat.pow_le_pow_right (n := 2) (by decide) (by omega)))
        simp [this]
    show (x >>> s) &&& (m + 256 * mk8 m k) = ((x % 256) >>> s &&& m) + 256 * rp8 (fun b => (b >>> s) &&& m) k (x / 256)
    rw [e1, and_split (Nat.mod_lt _ (by decide)) hm8, e3, e2, ih]
theorem rp_add (f g : Nat → Nat) : ∀ k x, rp8 f k x + rp8 g k x = rp8 (fun b => f b + g b) k x
  | 0, x => rfl
  | k + 1, x => by
    have := rp_add f g k (x / 256)
    simp only [rp8]
    omega
theorem rp_le {f g : Nat → Nat} (h : ∀ b, b < 256 → f b ≤ g b) : ∀ k x, rp8 f k x ≤ rp8 g k x
  | 0, x => Nat.le_refl _
  | k + 1, x => by
    have h1 := rp_le h k (x / 256)
    have h2 := h (x % 256) (Nat.mod_lt _ (by decide))
    simp only [rp8]
    omega
theorem rp_sub {f g : Nat → Nat} (h : ∀ b, b < 256 → g b ≤ f b) : ∀ k x, rp8 f k x - rp8 g k x = rp8 (fun b => f b - g b) k x
  | 0, x => rfl
  | k + 1, x => by
    have h1 := rp_sub h k (x / 256)
    have h2 := h (x % 256) (Nat.mod_lt _ (by decide))
    have h3 := rp_le h k (x / 256)
    simp only [rp8]
    omega
theorem rp_id : ∀ k x, x < 256 ^ k → rp8 (fun b => b) k x = x
  | 0, x, h => by simp [rp8] at h ⊢; omega
  | k + 1, x, h => by
    have := rp_id k (x / 256) (by rw [Nat.pow_succ, Nat.mul_comm] at h; exact Nat.div_lt_of_lt_mul h)
    simp only [rp8]
    omega
theorem rp_cg {f g : Nat → Nat} (h : ∀ b, b < 256 → f b = g b) : ∀ k x, rp8 f k x = rp8 g k x
  | 0, x => rfl
  | k + 1, x => by
    simp only [rp8]
    rw [rp_cg h k, h _ (Nat.mod_lt _ (by decide))]
theorem rp_rp {f g : Nat → Nat} (h : ∀ b, b < 256 → f b < 256) : ∀ k x, rp8 g k (rp8 f k x) = rp8 (fun b => g (f b)) k x
  | 0, x => rfl
  | k + 1, x => by
    have h2 := h (x % 256) (Nat.mod_lt _ (by decide))
    have e : rp8 f (k + 1) x = f (x % 256) + 256 * rp8 f k (x / 256) := rfl
    have e1 : rp8 f (k + 1) x % 256 = f (x % 256) := by rw [e]; omega
    have e2 : rp8 f (k + 1) x / 256 = rp8 f k (x / 256) := by rw [e]; omega
    show g (rp8 f (k + 1) x % 256) + 256 * rp8 g k (rp8 f (k + 1) x / 256) = _
    rw [e1, e2, rp_rp h k]
    rfl
theorem rp_lt {f : Nat → Nat} {m : Nat} (h : ∀ b, b < 256 → f b ≤ m) : ∀ k x, rp8 f k x ≤ mk8 m k
  | 0, x => Nat.le_refl _
  | k + 1, x => by
    have h1 := rp_lt h k (x / 256)
    have h2 := h (x % 256) (Nat.mod_lt _ (by decide))
    simp only [rp8, mk8]
    omega
/-- the three steps, on a byte -/
def w1 (b : Nat) : Nat := b - ((b >>> 1) &&& 85)
def w2 (b : Nat) : Nat := (w1 b &&& 51) + ((w1 b >>> 2) &&& 51)
def pop8 (b : Nat) : Nat := cnt (fun i => b.testBit i) 8
theorem w_facts : ∀ b : Fin 256, ((b.1 >>> 1) &&& 85) ≤ b.1 ∧ w1 b.1 < 256 ∧ w2 b.1 % 16 ≤ 4 ∧ w2 b.1 / 16 ≤ 4 ∧ (w2 b.1 + w2 b.1 / 16) % 16 = pop8 b.1 ∧ pop8 b.1 ≤ 8 := by decide +kernel
theorem w3_all : ∀ k x, (rp8 w2 k x + (rp8 w2 k x >>> 4)) &&& mk8 15 k = rp8 pop8 k x
  | 0, x => by simp [rp8, mk8]
  | k + 1, x => by
    have ih := w3_all k (x / 256)
    obtain ⟨-, -, f1, f2, f3, -⟩ := w_facts ⟨x % 256, Nat.mod_lt _ (by decide)⟩
    have hz : rp8 w2 k (x / 256) % 16 ≤ 4 := by
      cases k with
      | zero => simp [rp8]
      | succ k =>
        obtain ⟨-, -, g1, -⟩ := w_facts ⟨x / 256 % 256, Nat.mod_lt _ (by decide)⟩
        dsimp only at g1
        simp only [rp8]
        omega
    dsimp only at f1 f2 f3
    rw [Nat.shiftRight_eq_div_pow] at ih
    show (rp8 w2 (k + 1) x + (rp8 w2 (k + 1) x >>> 4)) &&& (15 + 256 * mk8 15 k) = pop8 (x % 256) + 256 * rp8 pop8 k (x / 256)
    have e : rp8 w2 (k + 1) x = w2 (x % 256) + 256 * rp8 w2 k (x / 256) := rfl
    have e2 : rp8 w2 (k + 1) x + (rp8 w2 (k + 1) x >>> 4) = (w2 (x % 256) + w2 (x % 256) / 16 + 16 * (rp8 w2 k (x / 256) % 16)) + 256 * (rp8 w2 k (x / 256) + rp8 w2 k (x / 256) / 2 ^ 4) := by
      rw [Nat.shiftRight_eq_div_pow, e]
      omega
    rw [e2, and_split (by omega) (by decide), ih]
    congr 1
    rw [show (15 : Nat) = 2 ^ 4 - 1 from rfl, Nat.and_two_pow_sub_one_eq_mod, ← f3]
    omega
theorem cnt_add (P : Nat → Bool) (a : Nat) : ∀ b, cnt P (a + b) = cnt P a + cnt (fun i => P (a + i)) b
  | 0 => rfl
  | b + 1 => by
    have := cnt_add P a b
    show cnt P (a + b) + (if P (a + b) = true then 1 else 0) = cnt P a + (cnt (fun i => P (a + i)) b + (if P (a + b) = true then 1 else 0))
    omega
/-- the bytes are added up -/
theorem fin8 {c0 c1 c2 c3 c4 c5 c6 c7 x3 x4 x5 x6 : Nat} (h0 : c0 ≤ 8) (h1 : c1 ≤ 8) (h2 : c2 ≤ 8) (h3 : c3 ≤ 8) (h4 : c4 ≤ 8) (h5 : c5 ≤ 8) (h6 : c6 ≤ 8) (h7 : c7 ≤ 8) (e3 : x3 = c0 + 256 * (c1 + 256 * (c2 + 256 * (c3 + 256 * (c4 + 256 * (c5 + 256 * (c6 + 256 * (c7 + 256 * 0)))))))) (e4 : x4 = x3 + x3 / 256) (e5 : x5 = x4 + x4 / 65536) (e6 : x6 = x5 + x5 / 4294967296) : x6 % 128 = c0 + (c1 + (c2 + (c3 + (c4 + (c5 + (c6 + (c7 + 0))))))) := by
  obtain ⟨p, hp⟩ : ∃ p, p = (c6 + c7) + 256 * c7 := ⟨_, rfl⟩
  obtain ⟨q, hq⟩ : ∃ q, q = (c4 + c5) + 256 * (c5 + c6) + 65536 * p := ⟨_, rfl⟩
  obtain ⟨r, hr⟩ : ∃ r, r = (c2 + c3) + 256 * (c3 + c4) + 65536 * q := ⟨_, rfl⟩
  obtain ⟨y, hy⟩ : ∃ y, y = c1 + 256 * (c2 + 256 * (c3 + 256 * (c4 + 256 * (c5 + 256 * (c6 + 256 * c7))))) := ⟨_, rfl⟩
  have a0 : x3 = c0 + 256 * y := by rw [e3, hy, Nat.mul_zero, Nat.add_zero]
  have a1 : x3 / 256 = y := by clear e3 e4 e5 e6 hp hq hr hy; omega
  have a2 : x4 = (c0 + c1) + 256 * (c1 + c2) + 65536 * r := by rw [e4, a1, a0, hy, hr, hq, hp]; clear e3 e4 e5 e6 hp hq hr hy a0 a1 h0 h1 h2 h3 h4 h5 h6 h7; omega
  have a3 : x4 / 65536 = r := by clear e3 e4 e5 e6 hp hq hr hy a0 a1 h3 h4 h5 h6 h7; omega
  obtain ⟨t, ht⟩ : ∃ t, t = (c0 + c1 + c2 + c3) + 256 * (c1 + c2 + c3 + c4) + 65536 * ((c2 + c3 + c4 + c5) + 256 * (c3 + c4 + c5 + c6)) := ⟨_, rfl⟩
  obtain ⟨z, hz⟩ : ∃ z, z = (c4 + c5 + c6 + c7) + 256 * (c5 + c6 + c7) + 65536 * p := ⟨_, rfl⟩
  have a4 : x5 = t + 4294967296 * z := by rw [e5, a3, a2, ht, hz, hr, hq, hp]; clear e3 e4 e5 e6 hp hq hr hy a0 a1 a2 a3 ht hz h0 h1 h2 h3 h4 h5 h6 h7; omega
  have a5 : x5 / 4294967296 = z := by
    have tl : t < 4294967296 := by clear a4 hz a2 a3 a0 a1 e3 e4 e5 e6 hp hq hr hy; omega
    clear e3 e4 e5 e6 hp hq hr hy a0 a1 a2 a3 ht hz h0 h1 h2 h3 h4 h5 h6 h7
    omega
  have a6 : t % 128 = c0 + c1 + c2 + c3 := by clear a4 a5 hz a2 a3 a0 a1 e3 e4 e5 e6 hp hq hr hy h5 h6 h7; omega
  have a7 : z % 128 = c4 + c5 + c6 + c7 := by clear a4 a5 a6 ht a2 a3 a0 a1 e3 e4 e5 e6 hp hq hr hy h0 h1 h2 h3; omega
  have a8 : x5 % 128 = t % 128 := by clear a5 a6 a7 ht hz a2 a3 a0 a1 e3 e4 e5 e6 hp hq hr hy h0 h1 h2 h3 h4 h5 h6 h7; omega
  clear e3 e4 e5 hp hq hr hy a0 a1 a2 a3 a4 ht hz
  omega
theorem cnt_sm : ∀ k x, cnt (fun i => x.testBit i) (8 * k) = sm8 pop8 k x
  | 0, x => rfl
  | k + 1, x => by
    rw [show 8 * (k + 1) = 8 + 8 * k by omega, cnt_add]
    have ih := cnt_sm k (x / 256)
    have e1 : cnt (fun i => x.testBit i) 8 = pop8 (x % 256) := by
      unfold pop8
      refine cnt_congr (fun i hi => ?_)
      rw [show 256 = 2 ^ 8 from rfl, Nat.testBit_mod_two_pow]
      simp [hi]
    have e2 : cnt (fun i => x.testBit (8 + i)) (8 * k) = cnt (fun i => (x / 256).testBit i) (8 * k) := by
      refine cnt_congr (fun i hi => ?_)
      rw [show x / 256 = x >>> 8 by rw [Nat.shiftRight_eq_div_pow], Nat.testBit_shiftRight]
    rw [e1, e2, ih]
    rfl
/-- bits that are set -/
def popN (v : Int64) : Nat := cnt (bt v) 64
theorem popN_le (v : Int64) : popN v ≤ 64 := cnt_le _ _
theorem x_bitCount {L : Nat → Nat} {N : Nat} {v : Int64} {u : q_St} : fJ13_bitCount L N v u = some (nI (popN v), u) := by
  have hx := uN_lt v
  have hid : rp8 (fun b => b) 8 (uN v) = uN v := rp_id 8 _ hx
  have M5 : uN 6148914691236517205 = mk8 85 8 := by decide +kernel
  have M3 : uN 3689348814741910323 = mk8 51 8 := by decide +kernel
  have MF : uN 1085102592571150095 = mk8 15 8 := by decide +kernel
  have q1 : ∀ b, b < 256 → ((b >>> 1) &&& 85) ≤ b := fun b hb => (w_facts ⟨b, hb⟩).1
  have q2 : ∀ b, b < 256 → w1 b < 256 := fun b hb => (w_facts ⟨b, hb⟩).2.1
  have a1 : (uN v >>> 1) &&& mk8 85 8 = rp8 (fun b => (b >>> 1) &&& 85) 8 (uN v) := sh_and (s := 1) (by decide) (by decide) 8 _
  have a2 : uN v - ((uN v >>> 1) &&& mk8 85 8) = rp8 w1 8 (uN v) := by
    rw [a1]
    have := rp_sub (f := fun b => b) (g := fun b => (b >>> 1) &&& 85) q1 8 (uN v)
    rw [hid] at this
    exact this
  have a3 : ((uN v >>> 1) &&& mk8 85 8) ≤ uN v := by
    rw [a1]
    have := rp_le q1 8 (uN v)
    rw [hid] at this
    exact this
  obtain ⟨v1, hv1⟩ : ∃ q, q = v - ((q_lush v 1) &&& 6148914691236517205) := ⟨_, rfl⟩
  have b1 : uN v1 = rp8 w1 8 (uN v) := by
    rw [hv1, uN_sub, uN_and, show (1 : Int32) = nI 1 from rfl, uN_lush _ (by decide), M5, ← a2]
    omega
  obtain ⟨v2, hv2⟩ : ∃ q, q = (v1 &&& 3689348814741910323) + ((q_lush v1 2) &&& 3689348814741910323) := ⟨_, rfl⟩
  have c1 : (uN v1) &&& mk8 51 8 = rp8 (fun b => w1 b &&& 51) 8 (uN v) := by
    have := sh_and (s := 0) (m := 51) (by decide) (by decide) 8 (uN v1)
    rw [Nat.shiftRight_zero] at this
    rw [this, b1, rp_rp q2]
    rfl
  have c2 : (uN v1 >>> 2) &&& mk8 51 8 = rp8 (fun b => (w1 b >>> 2) &&& 51) 8 (uN v) := by
    rw [sh_and (s := 2) (m := 51) (by decide) (by decide) 8 (uN v1), b1, rp_rp q2]
  have l2 : rp8 w2 8 (uN v) ≤ mk8 68 8 := rp_lt (fun b hb => by
    obtain ⟨-, -, f1, f2, -⟩ := w_facts ⟨b, hb⟩
    dsimp only at f1 f2
    omega) 8 _
  have n68 : mk8 68 8 = 4919131752989213764 := by decide +kernel
  have b2 : uN v2 = rp8 w2 8 (uN v) := by
    have e : rp8 (fun b => w1 b &&& 51) 8 (uN v) + rp8 (fun b => (w1 b >>> 2) &&& 51) 8 (uN v) = rp8 w2 8 (uN v) := rp_add _ _ 8 _
    rw [hv2, uN_add, uN_and, uN_and, show (2 : Int32) = nI 2 from rfl, uN_lush _ (by decide), M3, c1, c2, e]
    omega
  obtain ⟨v3, hv3⟩ : ∃ q, q = (v2 + (q_lush v2 4)) &&& 1085102592571150095 := ⟨_, rfl⟩
  have b3 : uN v3 = rp8 pop8 8 (uN v) := by
    rw [hv3, uN_and, uN_add, show (4 : Int32) = nI 4 from rfl, uN_lush _ (by decide), MF, b2]
    have : (rp8 w2 8 (uN v) + rp8 w2 8 (uN v) >>> 4) % 2 ^ 64 = rp8 w2 8 (uN v) + rp8 w2 8 (uN v) >>> 4 := by
      rw [Nat.shiftRight_eq_div_pow]
      omega
    rw [this, w3_all]
  have hp : popN v = sm8 pop8 8 (uN v) := cnt_sm 8 (uN v)
  unfold fJ13_bitCount
  rw [qn_s, qn_s, qn_s, qn_s, qn_s, qn_s, ← hv1, ← hv2, ← hv3, i_l2i _ 7 (by decide) 127 (by decide)]
  have pl : ∀ x, pop8 (x % 256) ≤ 8 := fun x => (w_facts ⟨x % 256, Nat.mod_lt _ (by decide)⟩).2.2.2.2.2
  have d : rp8 pop8 8 (uN v) = pop8 (uN v % 256) + 256 * (pop8 (uN v / 256 % 256) + 256 * (pop8 (uN v / 256 / 256 % 256) + 256 * (pop8 (uN v / 256 / 256 / 256 % 256) + 256 * (pop8 (uN v / 256 / 256 / 256 / 256 % 256) + 256 * (pop8 (uN v / 256 / 256 / 256 / 256 / 256 % 256) + 256 * (pop8 (uN v / 256 / 256 / 256 / 256 / 256 / 256 % 256) + 256 * (pop8 (uN v / 256 / 256 / 256 / 256 / 256 / 256 / 256 % 256) + 256 * 0))))))) := rfl
  have f : sm8 pop8 8 (uN v) = pop8 (uN v % 256) + (pop8 (uN v / 256 % 256) + (pop8 (uN v / 256 / 256 % 256) + (pop8 (uN v / 256 / 256 / 256 % 256) + (pop8 (uN v / 256 / 256 / 256 / 256 % 256) + (pop8 (uN v / 256 / 256 / 256 / 256 / 256 % 256) + (pop8 (uN v / 256 / 256 / 256 / 256 / 256 / 256 % 256) + (pop8 (uN v / 256 / 256 / 256 / 256 / 256 / 256 / 256 % 256) + 0))))))) := rfl
  have p0 := pl (uN v)
  have p1 := pl (uN v / 256)
  have p2 := pl (uN v / 256 / 256)
  have p3 := pl (uN v / 256 / 256 / 256)
  have p4 := pl (uN v / 256 / 256 / 256 / 256)
  have p5 := pl (uN v / 256 / 256 / 256 / 256 / 256)
  have p6 := pl (uN v / 256 / 256 / 256 / 256 / 256 / 256)
  have p7 := pl (uN v / 256 / 256 / 256 / 256 / 256 / 256 / 256)
  rw [hp, f]
  rw [d] at b3
  generalize pop8 (uN v % 256) = c0 at *
  generalize pop8 (uN v / 256 % 256) = c1' at *
  generalize pop8 (uN v / 256 / 256 % 256) = c2' at *
  generalize pop8 (uN v / 256 / 256 / 256 % 256) = c3 at *
  generalize pop8 (uN v / 256 / 256 / 256 / 256 % 256) = c4 at *
  generalize pop8 (uN v / 256 / 256 / 256 / 256 / 256 % 256) = c5 at *
  generalize pop8 (uN v / 256 / 256 / 256 / 256 / 256 / 256 % 256) = c6 at *
  generalize pop8 (uN v / 256 / 256 / 256 / 256 / 256 / 256 / 256 % 256) = c7 at *
  have s4 : uN (v3 + q_lush v3 8) = uN v3 + uN v3 / 256 := by
    rw [uN_add, show (8 : Int32) = nI 8 from rfl, uN_lush _ (by decide), Nat.shiftRight_eq_div_pow]
    omega
  obtain ⟨v4, hv4⟩ : ∃ q, q = v3 + q_lush v3 8 := ⟨_, rfl⟩
  rw [← hv4] at s4 ⊢
  have s5 : uN (v4 + q_lush v4 16) = uN v4 + uN v4 / 65536 := by
    rw [uN_add, show (16 : Int32) = nI 16 from rfl, uN_lush _ (by decide), Nat.shiftRight_eq_div_pow]
    omega
  obtain ⟨v5, hv5⟩ : ∃ q, q = v4 + q_lush v4 16 := ⟨_, rfl⟩
  rw [← hv5] at s5 ⊢
  have s6 : uN (v5 + q_lush v5 32) = uN v5 + uN v5 / 4294967296 := by
    rw [uN_add, show (32 : Int32) = nI 32 from rfl, uN_lush _ (by decide), Nat.shiftRight_eq_div_pow]
    omega
  exact congrArg (fun z => some (nI z, u)) (fin8 p0 p1 p2 p3 p4 p5 p6 p7 b3 s4 s5 s6)
