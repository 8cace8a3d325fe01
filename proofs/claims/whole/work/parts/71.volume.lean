/-! ===== the volume: numbers, relation, the searches ===== -/
def Geo (B T S C W Ls : Nat) : Prop := (4 ≤ B ∧ B ≤ 8) ∧ (8 ≤ T ∧ T ≤ 32) ∧ (1 ≤ S ∧ S ≤ 4) ∧ (64 ≤ C ∧ C ≤ 256) ∧ W = 8 * T ∧ Ls = B * W
theorem Geo.w {B T S C W Ls : Nat} (g : Geo B T S C W Ls) : 64 ≤ W ∧ W ≤ 256 := by obtain ⟨a, b, c, d, e, f⟩ := g; omega
theorem Geo.l {B T S C W Ls : Nat} (g : Geo B T S C W Ls) : 256 ≤ Ls ∧ Ls ≤ 2048 := by
  obtain ⟨a, b, c, d, e, f⟩ := g
  have h1 : 4 * 64 ≤ B * W := Nat.mul_le_mul a.1 (by omega)
  have h2 : B * W ≤ 8 * 256 := Nat.mul_le_mul a.2 (by omega)
  omega
theorem Geo.band {B T S C W Ls x : Nat} (g : Geo B T S C W Ls) (h : x < Ls) : x / W < B := by
  have hw := g.w
  obtain ⟨a, b, c, d, e, f⟩ := g
  rw [f] at h
  exact (Nat.div_lt_iff_lt_mul (by omega)).mpr h
/-- the lengths of the class's rows -/
def gL (B C W Ls : Nat) (L : Nat → Nat) : Prop := L 0 = ((Ls + W) + C) * 8 ∧ L 1 = Ls + W ∧ L 2 = B ∧ L 3 = C ∧ L 4 = Ls ∧ L 5 = B ∧ L 6 = 8 ∧ L 7 = Ls * 8 ∧ L 8 = Ls ∧ L 9 = Ls ∧ L 10 = 8 ∧ L 11 = 48 ∧ L 12 = 48 ∧ L 13 = 1280 ∧ L 14 = 0 ∧ L 15 = 9 ∧ L 16 = 9 ∧ L 17 = Ls ∧ L 18 = 64 ∧ L 19 = 64
/-- the finals of the class -/
def gX (B T S C W Ls : Nat) (u : q_St) : Prop := q_i u 1 = nI B ∧ q_i u 2 = nI T ∧ q_i u 3 = nI S ∧ q_i u 4 = nI W ∧ q_i u 5 = nI Ls ∧ q_i u 6 = nI C ∧ q_i u 25 = nI Ls ∧ q_i u 26 = nI W ∧ q_i u 27 = nI ((Ls + 63) / 64) ∧ q_i u 28 = nI (80 + (Ls + 511) / 512) ∧ q_i u 29 = nI (144 + (Ls + 511) / 512) ∧ q_i u 30 = nI (80 + (Ls + 511) / 512) ∧ q_i u 31 = nI W ∧ q_i u 33 = 0
/-- the finals of the reference -/
def gM (B T S C W Ls : Nat) (u : q_St) : Prop := q_i u 0 = nI B ∧ q_i u 1 = nI T ∧ q_i u 2 = nI S ∧ q_i u 3 = nI C ∧ q_i u 4 = nI W ∧ q_i u 5 = nI Ls ∧ q_i u 6 = nI (144 + (Ls + 511) / 512) ∧ q_i u 7 = nI 80 ∧ q_i u 8 = nI (80 + (Ls + 511) / 512)
/-- head and tail, rows that are numbers of sectors, entries, marks -/
def vW (B C W Ls h t : Nat) (um : q_St) : Prop := q_i um 17 = nI h ∧ q_i um 18 = nI t ∧ t ≤ h ∧ h ≤ t + C ∧ h < 2 ^ 28 ∧ (∀ p, p < C → ∃ x, x < Ls ∧ q_a um 2 p = nI x) ∧ (∀ x, x < Ls → q_a um 3 x = -1 ∨ ∃ q, q < h ∧ q_a um 3 x = nI q) ∧ (∀ b, b < B → ∃ k, k ≤ h ∧ q_a um 4 b = nI k)
/-- the class has the same rows -/
def vR (B C W Ls : Nat) (ux um : q_St) : Prop := q_i ux 14 = q_i um 17 ∧ q_i ux 15 = q_i um 18 ∧ (∀ p, p < C → q_a ux 2 p = q_a um 2 p) ∧ (∀ x, x < Ls → q_a ux 3 x = q_a um 3 x) ∧ (∀ b, b < B → q_a ux 1 b = q_a um 4 b)
/-- which sector an entry holds; whether it is live -/
def hol (C : Nat) (um : q_St) (q : Nat) : Nat := (q_a um 2 (q % C)).toNatClampNeg
def lvm (C W : Nat) (um : q_St) (q : Nat) : Bool := decide (q_a um 3 (hol C um q) = nI q) && decide (¬ nI q < q_a um 4 (hol C um q / W))
theorem vW.ho {B C W Ls h t : Nat} {um : q_St} (v : vW B C W Ls h t um) (hC : 0 < C) (hl : Ls ≤ 2048) (q : Nat) : hol C um q < Ls ∧ q_a um 2 (q % C) = nI (hol C um q) := by
  obtain ⟨x, hx, e⟩ := v.2.2.2.2.2.1 (q % C) (Nat.mod_lt _ hC)
  have : hol C um q = x := by unfold hol; rw [e, cl_n (by omega)]
  rw [this]
  exact ⟨hx, e⟩
theorem m_isLive {B T S C W Ls h t : Nat} {um : q_St} {N : Nat} (g : Geo B T S C W Ls) (gm : gM B T S C W Ls um) (v : vW B C W Ls h t um) {q : Nat} (h1 : t ≤ q) (h2 : q < h) : fX11_isLive N (nI q) um = some (b2i (lvm C W um q), um) := by
  have hw := g.w
  have hl := g.l
  obtain ⟨a, b, c, d, e, f⟩ := id g
  have hh := v.ho (by omega) hl.2 q
  have hb := v.2.2.2.2.1
  unfold fX11_isLive
  rw [gm.2.2.2.1, gm.2.2.2.2.1, v.1, v.2.1, rem_n (by omega) (by omega) (by omega), qd_n (by omega) (by omega), qr_n (by have := Nat.mod_lt q (show 0 < C by omega); omega) (by omega), hh.2]
  rw [if_neg (nI_nlt h1 (by omega)), if_neg (nI_ge h2 (by omega)), qr_n (by omega) (by omega), qd_n (by omega) (by omega), pk_div (by omega) (by omega) (by omega), qr_n (by have := g.band hh.1; omega) (by omega)]
  unfold lvm
  by_cases c1 : q_a um 3 (hol C um q) = nI q
  · rw [if_pos c1]
    by_cases c2 : nI q < q_a um 4 (hol C um q / W)
    · rw [if_pos c2]; simp [c1, c2, b2i]
    · rw [if_neg c2]; simp [c1, c2, b2i]
  · rw [if_neg c1]; simp [c1, b2i]
theorem x_isLive {B T S C W Ls h t : Nat} {L : Nat → Nat} {ux um : q_St} {N : Nat} (g : Geo B T S C W Ls) (gl : gL B C W Ls L) (gx : gX B T S C W Ls ux) (v : vW B C W Ls h t um) (r : vR B C W Ls ux um) {q : Nat} (h2 : q < h) : fX8_isLive L N (nI q) ux = some (b2i (lvm C W um q), ux) := by
  have hw := g.w
  have hl := g.l
  obtain ⟨a, b, c, d, e, f⟩ := id g
  have hh := v.ho (by omega) hl.2 q
  have hb := v.2.2.2.2.1
  have hm := Nat.mod_lt q (show 0 < C by omega)
  have hbd := g.band hh.1
  unfold fX8_isLive
  rw [gx.2.2.2.2.2.1, rem_n (by omega) (by omega) (by omega), qd_n (by omega) (by omega), qn_s, if_neg (nI_pos (by omega)), gl.2.2.2.1, if_neg (nI_ge (by omega) (by omega)), qr_n (by omega) (by omega), r.2.2.1 _ hm, hh.2]
  unfold fX8_isLive_b33
  rw [gx.2.2.2.1, qd_n (by omega) (by omega), pk_div (by omega) (by omega) (by omega), qn_s, if_neg (nI_pos (by omega)), gl.2.2.2.2.1, if_neg (nI_ge (by omega) (by omega)), gl.2.2.1, if_neg (nI_ge hbd (by omega)), qr_n (by omega) (by omega), qr_n hbd (by omega), r.2.2.2.1 _ hh.1, r.2.2.2.2 _ hbd]
  unfold lvm
  by_cases c1 : q_a um 3 (hol C um q) = nI q
  · rw [if_pos c1]
    by_cases c2 : nI q < q_a um 4 (hol C um q / W)
    · rw [if_pos c2]; simp [c1, c2, b2i]
    · rw [if_neg c2]; simp [c1, c2, b2i]
  · rw [if_neg c1]; simp [c1, b2i]
/-- the first one, or the end -/
def fnd (P : Nat → Bool) : Nat → Nat → Nat
  | 0, q => q
  | k + 1, q => if P q = true then q else fnd P k (q + 1)
theorem fnd_in (P : Nat → Bool) : ∀ k q, q ≤ fnd P k q ∧ fnd P k q ≤ q + k
  | 0, q => ⟨Nat.le_refl _, Nat.le_refl _⟩
  | k + 1, q => by
    have := fnd_in P k (q + 1)
    simp only [fnd]
    split <;> omega
theorem fnd_no (P : Nat → Bool) : ∀ k q i, q ≤ i → i < fnd P k q → P i = false
  | 0, q, i, h1, h2 => by simp only [fnd] at h2; omega
  | k + 1, q, i, h1, h2 => by
    simp only [fnd] at h2
    split at h2
    · omega
    · rename_i hp
      by_cases e : i = q
      · rw [e]; simpa using hp
      · exact fnd_no P k (q + 1) i (by omega) h2
theorem fnd_yes (P : Nat → Bool) : ∀ k q, fnd P k q < q + k → P (fnd P k q) = true
  | 0, q, h => by simp only [fnd] at h; omega
  | k + 1, q, h => by
    simp only [fnd] at h ⊢
    split
    · assumption
    · rename_i hp
      rw [if_neg hp] at h
      exact fnd_yes P k (q + 1) (by omega)
theorem m_oldest {B T S C W Ls h t : Nat} {um : q_St} {N : Nat} (g : Geo B T S C W Ls) (gm : gM B T S C W Ls um) (v : vW B C W Ls h t um) (hN : 300 ≤ N) : fX11_oldest N um = some (nI (fnd (lvm C W um) (h - t) t), um) := by
  obtain ⟨a, b, c, d, e, f⟩ := id g
  have hb := v.2.2.2.2.1
  have key : ∀ k n q, t ≤ q → q + k = h → k < n → q_lp (fX11_oldest_b5 N) (fun _ _ => none) n (nI q) um = some (nI (fnd (lvm C W um) k q), um) := by
    intro k
    induction k with
    | zero =>
      intro n q h1 h2 h3
      rw [lp_1 _ _ (by omega)]
      rw [fX11_oldest_b5]
      rw [v.1, if_pos (nI_le (by omega) (by omega))]
      rfl
    | succ k ih =>
      intro n q h1 h2 h3
      rw [lp_1 _ _ (by omega)]
      rw [fX11_oldest_b5]
      rw [v.1, if_neg (nI_ge (by omega) (by omega)), m_isLive g gm v h1 (by omega), qb_s]
      simp only [fnd]
      cases hq : lvm C W um q with
      | true => rw [b2i_t, if_neg (by decide)]; rfl
      | false => rw [b2i_f, if_pos rfl, qn_s, nI_1, ih (n - 1) (q + 1) (by omega) (by omega) (by omega)]; rfl
  unfold fX11_oldest
  rw [v.2.1, qn_s, key (h - t) N t (Nat.le_refl _) (by have := v.2.2.1; omega) (by have := v.2.2.2.1; omega)]
theorem x_oldest {B T S C W Ls h t : Nat} {L : Nat → Nat} {ux um : q_St} {N : Nat} (g : Geo B T S C W Ls) (gl : gL B C W Ls L) (gx : gX B T S C W Ls ux) (v : vW B C W Ls h t um) (r : vR B C W Ls ux um) (hN : 300 ≤ N) : fX8_oldest L N ux = some (nI (fnd (lvm C W um) (h - t) t), ux) := by
  obtain ⟨a, b, c, d, e, f⟩ := id g
  have hb := v.2.2.2.2.1
  have e1 : q_i ux 14 = nI h := r.1.trans v.1
  have e2 : q_i ux 15 = nI t := r.2.1.trans v.2.1
  have key : ∀ k n q, q + k = h → k < n → q_lp (fX8_oldest_b5 L N) (fun _ _ => none) n (nI q) ux = some (nI (fnd (lvm C W um) k q), ux) := by
    intro k
    induction k with
    | zero =>
      intro n q h2 h3
      rw [lp_1 _ _ (by omega)]
      rw [fX8_oldest_b5]
      rw [e1, if_pos (nI_le (by omega) (by omega)), show q = h by omega]
      rfl
    | succ k ih =>
      intro n q h2 h3
      rw [lp_1 _ _ (by omega)]
      rw [fX8_oldest_b5]
      rw [e1, if_neg (nI_ge (by omega) (by omega)), x_isLive g gl gx v r (by omega), qb_s]
      simp only [fnd]
      cases hq : lvm C W um q with
      | true => rw [b2i_t, if_neg (by decide)]; rfl
      | false => rw [b2i_f, if_pos rfl, qn_s, nI_1, ih (n - 1) (q + 1) (by omega) (by omega)]; rfl
  unfold fX8_oldest
  rw [e2, qn_s, key (h - t) N t (by have := v.2.2.1; omega) (by have := v.2.2.2.1; omega)]
