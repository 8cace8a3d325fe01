/-! ===== up to the root; both refusals of rename ===== -/
theorem upn_s (A : Nat → Nat → Nat) : ∀ k n, upn A (k + 1) n = A 7 (upn A k n)
  | 0, n => rfl
  | k + 1, n => by
    have e : upn A (k + 1 + 1) n = upn A (k + 1) (A 7 n) := rfl
    rw [e, upn_s A k (A 7 n)]
    rfl
theorem upn_add (A : Nat → Nat → Nat) (a : Nat) : ∀ b n, upn A (a + b) n = upn A a (upn A b n)
  | 0, n => rfl
  | b + 1, n => by
    have e1 : upn A (a + (b + 1)) n = upn A (a + b) (A 7 n) := rfl
    have e2 : upn A (b + 1) n = upn A b (A 7 n) := rfl
    rw [e1, e2]
    exact upn_add A a b (A 7 n)
theorem upn_dir {A : Nat → Nat → Nat} (h7 : ∀ m, m < 64 → A 5 m = 2 → A 7 m < 64 ∧ A 5 (A 7 m) = 2) {n : Nat} (hn : n < 64) (hk : A 5 n = 2) : ∀ k, upn A k n < 64 ∧ A 5 (upn A k n) = 2
  | 0 => ⟨hn, hk⟩
  | k + 1 => by
    have q := upn_dir h7 hn hk k
    rw [upn_s]
    exact h7 _ q.1 q.2
theorem least {P : Nat → Prop} (h : ∃ k, P k) : ∃ k, P k ∧ ∀ j, j < k → ¬ P j := by
  obtain ⟨k, hk⟩ := h
  induction k using Nat.strongRecOn with
  | ind k ih =>
    by_cases c : ∃ j, j < k ∧ P j
    · obtain ⟨j, j1, j2⟩ := c
      exact ih j j1 j2
    · exact ⟨k, hk, fun j j1 j2 => c ⟨j, j1, j2⟩⟩
theorem up63 {A : Nat → Nat → Nat} (h7 : ∀ m, m < 64 → A 5 m = 2 → A 7 m < 64 ∧ A 5 (A 7 m) = 2) {n : Nat} (hn : n < 64) (hk : A 5 n = 2) (h : ∃ k, upn A k n = 0) : ∃ k, k ≤ 63 ∧ upn A k n = 0 := by
  obtain ⟨k, k1, k2⟩ := least h
  refine ⟨k, ?_, k1⟩
  have inj : ∀ i j, i < j → j ≤ k → upn A i n ≠ upn A j n := by
    intro i j hij hjk e
    have e1 : upn A (k - j + j) n = 0 := by rw [show k - j + j = k by omega]; exact k1
    rw [upn_add, ← e, ← upn_add] at e1
    exact k2 (k - j + i) (by omega) e1
  have key : ∀ i, i ≤ k → ∃ P : Nat → Bool, cnt P 64 = i + 1 ∧ ∀ z, P z = true → ∃ j, j ≤ i ∧ upn A j n = z := by
    intro i
    induction i with
    | zero =>
      intro _
      refine ⟨setb (fun _ => false) n true, ?_, fun z hz => ?_⟩
      · rw [cnt_set hn rfl, cnt_no]
      · rcases sbt.mp hz with e | e
        · exact ⟨0, by omega, e.symm⟩
        · cases e
    | succ i ih =>
      intro hi
      obtain ⟨P, p1, p2⟩ := ih (by omega)
      have q := upn_dir h7 hn hk (i + 1)
      have hf : P (upn A (i + 1) n) = false := by
        cases hp : P (upn A (i + 1) n) with
        | false => rfl
        | true =>
          obtain ⟨j, j1, j2⟩ := p2 _ hp
          exact absurd j2 (inj j (i + 1) (by omega) hi)
      refine ⟨setb P (upn A (i + 1) n) true, ?_, fun z hz => ?_⟩
      · rw [cnt_set q.1 hf, p1]
      · rcases sbt.mp hz with e | e
        · exact ⟨i + 1, by omega, e.symm⟩
        · obtain ⟨j, j1, j2⟩ := p2 z e
          exact ⟨j, by omega, j2⟩
  obtain ⟨P, p1, -⟩ := key k (by omega)
  have := cnt_le P 64
  omega
/-- on the way up -/
def isi (A : Nat → Nat → Nat) (n : Nat) : Nat → Nat → Bool
  | 0, m => decide (m = n)
  | k + 1, m => if m = n then true else isi A n k (A 7 m)
theorem isi_no {A : Nat → Nat → Nat} {n : Nat} (hn0 : n ≠ 0) (h00 : A 7 0 = 0) : ∀ k m, upn A k m = 0 → isi A n k m = false → ∀ j, upn A j m ≠ n
  | 0, m, h1, h2, j => by
    have e : m = 0 := h1
    subst e
    have : ∀ j, upn A j 0 = 0 := by
      intro j
      induction j with
      | zero => rfl
      | succ j ih => rw [upn_s, ih, h00]
    rw [this j]
    exact fun z => hn0 z.symm
  | k + 1, m, h1, h2, j => by
    have e : isi A n (k + 1) m = if m = n then true else isi A n k (A 7 m) := rfl
    rw [e] at h2
    by_cases c : m = n
    · rw [if_pos c] at h2; cases h2
    · rw [if_neg c] at h2
      cases j with
      | zero => exact c
      | succ j => exact isi_no hn0 h00 k (A 7 m) h1 h2 j
theorem x_isWithin {B T S C W Ls na hb n : Nat} {um : q_St} {D K : Nat → Nat → Int64} {dd : Nat → Bool} {A : Nat → Nat → Nat} {nm : Nat → Int64} {L : Nat → Nat} {N : Nat} {ux : q_St} (x : Xr B T S C W Ls na hb um D K dd A nm L ux) (hn : n < 64) : ∀ (k i m r : Nat), i + r = 64 → k < r → r < m → ∀ e, e < 64 → A 5 e = 2 → upn A k e = 0 → (n ≠ 0 ∨ True) → q_lp (fX4_isWithin_b5 L N) (fun _ _ _ _ => none) m (nI n) (nI e) (nI i) ux = some (b2i (isi A n k e), ux) := by
  have h7 : ∀ m, m < 64 → A 5 m = 2 → A 7 m < 64 ∧ A 5 (A 7 m) = 2 := fun m hm hk => ⟨(x.2.2.2.1.2.2.1 m hm hk).1, (x.2.2.2.1.2.2.1 m hm hk).2.1⟩
  have h00 := x.2.2.2.1.2.1.2
  have k00 := x.2.2.2.1.2.1.1
  have hold : ∀ e, e < 64 → A 5 e = 2 → fX4_holderOf L N (nI e) ux = some (nI (A 7 e), ux) := by
    intro e he hk
    rw [x_holderOf x he, ((x.2.2.1.2.1 e he).2.2.1 hk).2]
  have tail : n ≠ 0 → ∀ (r i m : Nat), i + r = 64 → r < m → q_lp (fX4_isWithin_b5 L N) (fun _ _ _ _ => none) m (nI n) (nI 0) (nI i) ux = some (0, ux) := by
    intro hn0 r
    induction r with
    | zero =>
      intro i m h1 h2
      rw [lp_1 _ _ (by omega), fX4_isWithin_b5, if_pos (show (64 : Int32) ≤ nI i from nI_le (a := 64) (by omega) (by omega))]
    | succ r ih =>
      intro i m h1 h2
      rw [lp_1 _ _ (by omega), fX4_isWithin_b5, if_neg (show ¬ (64 : Int32) ≤ nI i from nI_ge (b := 64) (by omega) (by omega)), if_neg (fun z => hn0 (nI_inj (by omega) (by omega) z).symm), hold 0 (by decide) k00, qb_s, qn_s, nI_1, h00]
      exact ih (i + 1) (m - 1) (by omega) (by omega)
  intro k
  induction k with
  | zero =>
    intro i m r h1 h2 h3 e he hk hu _
    have e0 : e = 0 := hu
    subst e0
    have hi : isi A n 0 0 = decide (0 = n) := rfl
    rw [hi]
    by_cases c : n = 0
    · subst c
      rw [lp_1 _ _ (by omega), fX4_isWithin_b5, if_neg (show ¬ (64 : Int32) ≤ nI i from nI_ge (b := 64) (by omega) (by omega)), if_pos rfl]
      rfl
    · rw [tail c r i m h1 (by omega), decide_eq_false (fun z => c z.symm)]
      rfl
  | succ k ih =>
    intro i m r h1 h2 h3 e he hk hu hh
    have hi : isi A n (k + 1) e = if e = n then true else isi A n k (A 7 e) := rfl
    have q := h7 e he hk
    rw [lp_1 _ _ (by omega), fX4_isWithin_b5, if_neg (show ¬ (64 : Int32) ≤ nI i from nI_ge (b := 64) (by omega) (by omega)), hi]
    by_cases c : e = n
    · rw [if_pos (by rw [c]), if_pos c]
      rfl
    · rw [if_neg (fun z => c (nI_inj (by omega) (by omega) z)), if_neg c, hold e he hk, qb_s, qn_s, nI_1]
      exact ih (i + 1) (m - 1) (r - 1) (by omega) (by omega) (by omega) (A 7 e) q.1 q.2 hu hh
theorem m_isIn {Ls n : Nat} {A : Nat → Nat → Nat} {nm : Nat → Int64} {N : Nat} {um : q_St} (rm : RM Ls A nm (q_a um) (q_j um 0)) (h7 : ∀ m, m < 64 → A 5 m = 2 → A 7 m < 64 ∧ A 5 (A 7 m) = 2) (h00 : A 7 0 = 0) (hn : n < 64) (hn0 : n ≠ 0) : ∀ (k m e : Nat), k < m → e < 64 → A 5 e = 2 → upn A k e = 0 → q_lp (fX11_isIn_b2 N) (fun _ _ _ => none) m (nI n) (nI e) um = some (b2i (isi A n k e), um) := by
  have at0 : ∀ m, 0 < m → q_lp (fX11_isIn_b2 N) (fun _ _ _ => none) m (nI n) (nI 0) um = some (0, um) := by
    intro m hm
    rw [lp_1 _ _ hm, fX11_isIn_b2, if_neg (fun z => hn0 (nI_inj (by omega) (by omega) z).symm), if_pos (show nI 0 = (0 : Int32) from rfl)]
    unfold fX11_isIn_b21
    rw [if_neg (fun z => hn0 (nI_inj (by omega) (by omega) z).symm)]
  have isi0 : ∀ k, isi A n k 0 = false := by
    intro k
    induction k with
    | zero => exact decide_eq_false (fun z => hn0 z.symm)
    | succ k ih =>
      have hi : isi A n (k + 1) 0 = if 0 = n then true else isi A n k (A 7 0) := rfl
      rw [hi, if_neg (fun z => hn0 z.symm), h00, ih]
  intro k
  induction k with
  | zero =>
    intro m e h1 he hk hu
    have e0 : e = 0 := hu
    subst e0
    rw [at0 m h1, isi0 0]
    rfl
  | succ k ih =>
    intro m e h1 he hk hu
    have q := h7 e he hk
    have hi : isi A n (k + 1) e = if e = n then true else isi A n k (A 7 e) := rfl
    by_cases c0 : e = 0
    · subst c0
      rw [at0 m (by omega), isi0]
      rfl
    · rw [lp_1 _ _ (by omega), fX11_isIn_b2, hi]
      by_cases c : e = n
      · unfold fX11_isIn_b21
        rw [if_pos (by rw [c]), if_pos (by rw [c]), if_pos c]
        rfl
      · rw [if_neg (fun z => c (nI_inj (by omega) (by omega) z)), if_neg (nI_ne0 (by omega) (by omega)), if_neg c, qr_n he (by decide), rm.r7 (by decide) he]
        exact ih (m - 1) (A 7 e) (by omega) q.1 q.2 hu
def gcd3 (a b c : Bool) : Int32 := if a = false then -10 else if b = false then -11 else if c = false then -20 else 0
theorem l_goBy {B T S C W Ls na hb : Nat} {D kv : Nat → Nat → Int64} {Ak : Nat → Nat → Nat} {nk : Nat → Int64} {K : Nat → Nat → Int64} {dd : Nat → Bool} {A : Nat → Nat → Nat} {nm : Nat → Int64} {L : Nat → Nat} {N : Nat} {ux um : q_St} (t : Tn B T S C W Ls na hb D kv Ak nk K dd A nm ux um) (g : Geo B T S C W Ls) (gl : gL B C W Ls L) (hna : na = 80 + (Ls + 511) / 512) (hN : 3000 ≤ N) (o : Int32) (v : Int64) :
    ∃ a c : Bool, fX10_refusalToGoBy L N o v ux = some (gcd3 a (isNm v) c, ux) ∧ fX11_isDirectory N o um = some (b2i a, um) ∧ (a = true → fX11_may N o 3 um = some (b2i c, um) ∧ ∃ d, d < 64 ∧ o = nI d ∧ A 5 d = 2) := by
  have x := t.x g gl hna
  have rm := t.rm
  unfold fX10_refusalToGoBy
  rcases nod o with ⟨d, hd, e⟩ | e
  · subst e
    rw [x_kindOf x hd, qb_s, m_isDir rm hd (x.k4 hd)]
    by_cases c : A 5 d = 2
    · rw [if_pos c, c, if_pos (show nI 2 = (2 : Int32) from rfl), x_isName (by omega), qb_s]
      have hm := mayR_01 (q_i um 28) (nI (A 11 d)) (nI (A 12 d)) 3
      refine ⟨true, decide (mayR (q_i um 28) (nI (A 11 d)) (nI (A 12 d)) 3 = 1), ?_, rfl, fun _ => ⟨?_, d, hd, rfl, c⟩⟩
      · cases hv : isNm v with
        | false => rw [b2i_f, if_pos rfl]; rfl
        | true =>
          rw [b2i_t, if_neg (by decide), x_may x hd (by omega) (by omega), qb_s, t.wh.1]
          rcases hm with hm | hm
          · rw [hm, if_pos rfl]; rfl
          · rw [hm, if_neg (by decide)]; rfl
      · rw [m_may rm hd]
        rcases hm with hm | hm <;> (rw [hm]; rfl)
    · rw [if_neg c, if_neg (show ¬ nI (A 5 d) = (2 : Int32) from nI_k (b := 2) (x.k4 hd) (by decide) c)]
      exact ⟨false, false, rfl, rfl, fun z => (by cases z)⟩
  · rw [x_kindOut e, qb_s, m_isDirOut e, if_neg (by decide)]
    exact ⟨false, false, rfl, rfl, fun z => (by cases z)⟩
