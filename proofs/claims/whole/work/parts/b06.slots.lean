/-! ===== SLOTS, in both ===== -/
theorem fnd_add (P : Nat → Bool) : ∀ a b q, fnd P (a + b) q = if fnd P a q < q + a then fnd P a q else fnd P b (q + a)
  | 0, b, q => by
    have e : fnd P 0 q = q := rfl
    rw [e, Nat.zero_add, Nat.add_zero, if_neg (by omega)]
  | a + 1, b, q => by
    have h := fnd_add P a b (q + 1)
    have e1 : fnd P (a + 1 + b) q = if P q = true then q else fnd P (a + b) (q + 1) := by
      rw [show a + 1 + b = (a + b) + 1 by omega]; rfl
    have e2 : fnd P (a + 1) q = if P q = true then q else fnd P a (q + 1) := rfl
    rw [e1, e2]
    by_cases c : P q = true
    · rw [if_pos c, if_pos c, if_pos (by omega)]
    · rw [if_neg c, if_neg c, h, show q + 1 + a = q + (a + 1) by omega]
theorem fnd_1 (P : Nat → Bool) (k q : Nat) : fnd P (k + 1) q = if P q = true then q else fnd P k (q + 1) := rfl
/-- a found SLOT, as the class and the reference tell it -/
def slX (m f : Nat) : Int32 := if f < m then nI f else -1
def slM (d m f : Nat) : Int32 := if f < m then nI (48 * d + f) else -1
def sP (A : Nat → Nat → Nat) (nm : Nat → Int64) (d : Nat) (v : Int64) (j : Nat) : Bool := decide (A 14 (48 * d + j) ≠ 0) && decide (nm (48 * d + j) = v)
def sF (A : Nat → Nat → Nat) (d : Nat) (j : Nat) : Bool := decide (A 14 (48 * d + j) = 0)
theorem x_blockAt {B T S C W Ls na hb : Nat} {um : q_St} {D K : Nat → Nat → Int64} {dd : Nat → Bool} {A : Nat → Nat → Nat} {nm : Nat → Int64} {L : Nat → Nat} {N : Nat} {ux : q_St} (x : Xr B T S C W Ls na hb um D K dd A nm L ux) {d i : Nat} (hd : d < 64) (hk : A 5 d = 2) (hi : i < 12) : fX3_blockAt L N (nI d) (nI i) ux = some (nI (if i < A 8 d then A 13 (12 * d + i) else 0), ux) := by
  have m := ((x.2.2.1.2.1 d hd).2.2.1 hk).1 i hi
  unfold fX3_blockAt fX4_sectorOf
  rw [qb_s, show (4 : Int32) + nI i = nI (4 + i) from nI_add 4 i, x_hlf x hd (by omega), qb_s, m]
/-- the BLOCKS of a DIRECTORY -/
theorem dirB {B T S C W Ls na hb : Nat} {um : q_St} {D K : Nat → Nat → Int64} {dd : Nat → Bool} {A : Nat → Nat → Nat} {nm : Nat → Int64} {L : Nat → Nat} {ux : q_St} (x : Xr B T S C W Ls na hb um D K dd A nm L ux) {d i : Nat} (hd : d < 64) (hk : A 5 d = 2) (hi : i < A 8 d) : (na + 64 ≤ A 13 (12 * d + i) ∧ A 13 (12 * d + i) < Ls ∧ A 17 (A 13 (12 * d + i)) = 1) ∧ ∀ s, s < 4 → (A 14 (48 * d + (4 * i + s)) = 0 → K (A 13 (12 * d + i)) s = 0) ∧ (A 14 (48 * d + (4 * i + s)) ≠ 0 → K (A 13 (12 * d + i)) s = nm (48 * d + (4 * i + s)) ∧ sH (K (A 13 (12 * d + i))) (16 + s) = A 14 (48 * d + (4 * i + s)) ∧ nm (48 * d + (4 * i + s)) ≠ 0) := by
  obtain ⟨-, -, rx, tw⟩ := x
  have h8 := (tw.1.1 d hd).2.2.2.2.2.1
  have h0 := (tw.1.2.2.1 d hd hk).2.2 i hi
  have ht : tl A W d (1102 + i) = A 13 (12 * d + i) := by
    unfold tl
    rw [if_neg (by omega), if_pos hk, if_pos (by omega), show 1102 + i - 1102 = i by omega]
  have h1 := tw.2.2.1.2.1 d (1102 + i) hd (by rw [ht]; exact h0)
  have h2 := (rx.2.2 d (1102 + i) hd (by rw [ht]; exact h0)).2.2.2.2 hk
  rw [ht] at h1 h2
  rw [show 1102 + i - 1102 = i by omega] at h2
  refine ⟨h1, fun s hs => ⟨fun z => ?_, fun z => ?_⟩⟩
  · exact (h2 s hs).1 (by rw [Nat.add_assoc]; exact z)
  · have := (h2 s hs).2 (by rw [Nat.add_assoc]; exact z)
    rw [Nat.add_assoc] at this
    exact ⟨this.1, this.2, (tw.2.2.2.1 _ (by omega) z).2.2.2.2.1.1⟩
theorem x_seekG {B T S C W Ls na hb : Nat} {um : q_St} {D K : Nat → Nat → Int64} {dd : Nat → Bool} {A : Nat → Nat → Nat} {nm : Nat → Int64} {L : Nat → Nat} {N : Nat} {ux : q_St} (x : Xr B T S C W Ls na hb um D K dd A nm L ux) (hN : 300 ≤ N) {d : Nat} (hd : d < 64) (hk : A 5 d = 2) {v : Int64} {P : Nat → Bool} (hP : ∀ i s, i < A 8 d → s < 4 → (K (A 13 (12 * d + i)) s = v ↔ P (4 * i + s) = true)) : fX3_seek L N (nI d) v ux = some (slX (4 * A 8 d) (fnd P (4 * A 8 d) 0), ux) := by
  obtain ⟨⟨g, gl, hna⟩, s, rx, tw⟩ := id x
  have h8 := (tw.1.1 d hd).2.2.2.2.2.1
  have hl := g.l
  have inner : ∀ (ih3 : Int32 → Int64 → Int32 → q_St → Option (Int32 × q_St)) (i : Nat), i < A 8 d → ∀ (k s n : Nat), s + k = 4 → k < n → q_lp (fX3_seek_b29 L N ih3) (fun _ _ _ _ _ _ => none) n (nI d) v (nI i) (nI (A 13 (12 * d + i))) (nI s) ux = if fnd P k (4 * i + s) < 4 * i + 4 then some (nI (fnd P k (4 * i + s)), ux) else ih3 (nI d) v (nI (i + 1)) ux := by
    intro ih3 i hi k
    obtain ⟨hb1, hb2⟩ := dirB x hd hk hi
    induction k with
    | zero =>
      intro s n h1 h2
      rw [lp_1 _ _ (by omega), fX3_seek_b29, if_pos (show (4 : Int32) ≤ nI s from nI_le (a := 4) (by omega) (by omega)), qn_s, nI_1, if_neg (show ¬ fnd P 0 (4 * i + s) < 4 * i + 4 by show ¬ 4 * i + s < 4 * i + 4; omega)]
    | succ k ih =>
      intro s n h1 h2
      rw [lp_1 _ _ (by omega), fX3_seek_b29, if_neg (show ¬ (4 : Int32) ≤ nI s from nI_ge (a := s) (b := 4) (by omega) (by omega)), x_word g gl ‹_› hb1.2.1 (by omega), qb_s, fnd_1]
      by_cases c : P (4 * i + s) = true
      · rw [if_pos ((lg_cmp_eq _ _).mpr ((hP i s hi (by omega)).mpr c)), if_pos c, if_pos (by omega), show (4 : Int32) * nI i = nI (4 * i) from pk_mul 4 _, nI_add]
      · rw [if_neg (fun z => c ((hP i s hi (by omega)).mp ((lg_cmp_eq _ _).mp z))), if_neg c, qn_s, nI_1, ih (s + 1) (n - 1) (by omega) (by omega)]
        rfl
  have outer : ∀ (k i n : Nat), i + k = 12 → k < n → i ≤ A 8 d → q_lp (fX3_seek_b3 L N) (fun _ _ _ _ => none) n (nI d) v (nI i) ux = some (slX (4 * A 8 d) (fnd P (4 * A 8 d - 4 * i) (4 * i)), ux) := by
    intro k
    induction k with
    | zero =>
      intro i n h1 h2 h3
      rw [lp_1 _ _ (by omega), fX3_seek_b3, if_pos (show (12 : Int32) ≤ nI i from nI_le (a := 12) (by omega) (by omega))]
      have : 4 * A 8 d - 4 * i = 0 := by omega
      rw [this]
      unfold slX
      rw [if_neg (show ¬ fnd P 0 (4 * i) < 4 * A 8 d by show ¬ 4 * i < 4 * A 8 d; omega)]
    | succ k ih =>
      intro i n h1 h2 h3
      rw [lp_1 (fX3_seek_b3 L N) _ (n := n) (by omega), fX3_seek_b3, if_neg (show ¬ (12 : Int32) ≤ nI i from nI_ge (a := i) (b := 12) (by omega) (by omega)), x_blockAt x hd hk (by omega), qb_s]
      by_cases c : i < A 8 d
      · obtain ⟨hb1, hb2⟩ := dirB x hd hk c
        rw [if_pos c, if_neg (nI_ne0 (by omega) (by omega)), show (0 : Int32) = nI 0 from rfl, inner _ i c 4 0 N (by omega) (by omega)]
        have hs : 4 * A 8 d - 4 * i = 4 + (4 * A 8 d - 4 * (i + 1)) := by omega
        have hf := fnd_in P 4 (4 * i)
        rw [hs, fnd_add, Nat.add_zero]
        by_cases c2 : fnd P 4 (4 * i) < 4 * i + 4
        · rw [if_pos c2, if_pos c2]
          unfold slX
          rw [if_pos (by omega)]
        · rw [if_neg c2, if_neg c2, ih (i + 1) (n - 1) (by omega) (by omega) (by omega)]
          rfl
      · have e : 4 * A 8 d - 4 * i = 0 := by omega
        rw [if_neg c, if_pos (show nI 0 = (0 : Int32) from rfl), e]
        unfold slX
        rw [if_neg (show ¬ fnd P 0 (4 * i) < 4 * A 8 d by show ¬ 4 * i < 4 * A 8 d; omega)]
  unfold fX3_seek
  exact outer 12 0 N (by omega) (by omega) (Nat.zero_le _)
theorem x_seek {B T S C W Ls na hb : Nat} {um : q_St} {D K : Nat → Nat → Int64} {dd : Nat → Bool} {A : Nat → Nat → Nat} {nm : Nat → Int64} {L : Nat → Nat} {N : Nat} {ux : q_St} (x : Xr B T S C W Ls na hb um D K dd A nm L ux) (hN : 300 ≤ N) {d : Nat} (hd : d < 64) (hk : A 5 d = 2) {v : Int64} (hv : v ≠ 0) : fX3_seek L N (nI d) v ux = some (slX (4 * A 8 d) (fnd (sP A nm d v) (4 * A 8 d) 0), ux) := by
  refine x_seekG x hN hd hk (fun i s hi hs => ?_)
  obtain ⟨h1, h2⟩ := (dirB x hd hk hi).2 s hs
  unfold sP
  by_cases c : A 14 (48 * d + (4 * i + s)) = 0
  · rw [h1 c]
    simp [c, Ne.symm hv]
  · rw [(h2 c).1]
    simp [c]
theorem x_seek0 {B T S C W Ls na hb : Nat} {um : q_St} {D K : Nat → Nat → Int64} {dd : Nat → Bool} {A : Nat → Nat → Nat} {nm : Nat → Int64} {L : Nat → Nat} {N : Nat} {ux : q_St} (x : Xr B T S C W Ls na hb um D K dd A nm L ux) (hN : 300 ≤ N) {d : Nat} (hd : d < 64) (hk : A 5 d = 2) : fX3_seek L N (nI d) 0 ux = some (slX (4 * A 8 d) (fnd (sF A d) (4 * A 8 d) 0), ux) := by
  refine x_seekG x hN hd hk (fun i s hi hs => ?_)
  obtain ⟨h1, h2⟩ := (dirB x hd hk hi).2 s hs
  unfold sF
  by_cases c : A 14 (48 * d + (4 * i + s)) = 0
  · rw [h1 c]
    simp [c]
  · rw [(h2 c).1]
    simp [c, (h2 c).2.2]
/-- what is in a SLOT -/
theorem x_nodeAt {B T S C W Ls na hb : Nat} {um : q_St} {D K : Nat → Nat → Int64} {dd : Nat → Bool} {A : Nat → Nat → Nat} {nm : Nat → Int64} {L : Nat → Nat} {N : Nat} {ux : q_St} (x : Xr B T S C W Ls na hb um D K dd A nm L ux) {d j : Nat} (hd : d < 64) (hk : A 5 d = 2) (hj : j < 4 * A 8 d) (h14 : A 14 (48 * d + j) ≠ 0) : fX3_nodeAt L N (nI d) (nI j) ux = some (nI (A 14 (48 * d + j)), ux) := by
  obtain ⟨⟨g, gl, hna⟩, s, rx, tw⟩ := id x
  have h8 := (tw.1.1 d hd).2.2.2.2.2.1
  have hl := g.l
  have hm := Nat.mod_lt j (show 0 < 4 by decide)
  have hi : j / 4 < A 8 d := by omega
  obtain ⟨hb1, hb2⟩ := dirB x hd hk hi
  have e : 4 * (j / 4) + j % 4 = j := by omega
  have h2 := (hb2 (j % 4) hm).2 (by rw [e]; exact h14)
  rw [e] at h2
  unfold fX3_nodeAt
  rw [show nI j / (4 : Int32) = nI (j / 4) from pk_div (d := 4) (by omega) (by decide) (by decide), x_blockAt x hd hk (by omega), qb_s, if_pos hi, show nI (j / 4) * (4 : Int32) = nI (j / 4 * 4) from pk_mul _ 4, pk_sub (by omega), show j - j / 4 * 4 = j % 4 by omega, show (16 : Int32) + nI (j % 4) = nI (16 + j % 4) from nI_add 16 _, x_half g gl s hb1.2.1 (by omega), qb_s]
  unfold kH
  rw [if_neg (by omega)]
  exact congrArg (fun z => some (nI z, ux)) h2.2.1
theorem x_nameAt {B T S C W Ls na hb : Nat} {um : q_St} {D K : Nat → Nat → Int64} {dd : Nat → Bool} {A : Nat → Nat → Nat} {nm : Nat → Int64} {L : Nat → Nat} {N : Nat} {ux : q_St} (x : Xr B T S C W Ls na hb um D K dd A nm L ux) {d j : Nat} (hd : d < 64) (hk : A 5 d = 2) (hj : j < 48) : fX3_nameAt L N (nI d) (nI j) ux = some (if j < 4 * A 8 d ∧ A 14 (48 * d + j) ≠ 0 then nm (48 * d + j) else 0, ux) := by
  obtain ⟨⟨g, gl, hna⟩, s, rx, tw⟩ := id x
  have h8 := (tw.1.1 d hd).2.2.2.2.2.1
  have hl := g.l
  have hm := Nat.mod_lt j (show 0 < 4 by decide)
  unfold fX3_nameAt
  rw [show nI j / (4 : Int32) = nI (j / 4) from pk_div (d := 4) (by omega) (by decide) (by decide), x_blockAt x hd hk (by omega), qb_s]
  by_cases hi : j / 4 < A 8 d
  · obtain ⟨hb1, hb2⟩ := dirB x hd hk hi
    have e : 4 * (j / 4) + j % 4 = j := by omega
    obtain ⟨h1, h2⟩ := hb2 (j % 4) hm
    rw [e] at h1 h2
    rw [if_pos hi, if_neg (nI_ne0 (by omega) (by omega)), show nI (j / 4) * (4 : Int32) = nI (j / 4 * 4) from pk_mul _ 4, pk_sub (by omega), show j - j / 4 * 4 = j % 4 by omega, x_word g gl s hb1.2.1 (by omega), qb_s]
    by_cases c : A 14 (48 * d + j) = 0
    · rw [h1 c, if_neg (fun z => z.2 c)]
    · rw [(h2 c).1, if_pos ⟨by omega, c⟩]
  · rw [if_neg hi, if_pos (show nI 0 = (0 : Int32) from rfl), if_neg (by omega)]
theorem x_nameCount {B T S C W Ls na hb : Nat} {um : q_St} {D K : Nat → Nat → Int64} {dd : Nat → Bool} {A : Nat → Nat → Nat} {nm : Nat → Int64} {L : Nat → Nat} {N : Nat} {ux : q_St} (x : Xr B T S C W Ls na hb um D K dd A nm L ux) (hN : 300 ≤ N) {d : Nat} (hd : d < 64) (hk : A 5 d = 2) : fX3_nameCount L N (nI d) ux = some (nI (cq (fun j => !sF A d j) (4 * A 8 d) 0), ux) := by
  obtain ⟨⟨g, gl, hna⟩, s, rx, tw⟩ := id x
  have h8 := (tw.1.1 d hd).2.2.2.2.2.1
  have tail : ∀ (k j n acc : Nat), j + k = 48 → k < n → 4 * A 8 d ≤ j → q_lp (fX3_nameCount_b4 L N) (fun _ _ _ _ => none) n (nI d) (nI acc) (nI j) ux = some (nI acc, ux) := by
    intro k
    induction k with
    | zero =>
      intro j n acc h1 h2 h3
      rw [lp_1 _ _ (by omega), fX3_nameCount_b4, if_pos (show (48 : Int32) ≤ nI j from nI_le (a := 48) (by omega) (by omega))]
    | succ k ih =>
      intro j n acc h1 h2 h3
      rw [lp_1 _ _ (by omega), fX3_nameCount_b4, if_neg (show ¬ (48 : Int32) ≤ nI j from nI_ge (a := j) (b := 48) (by omega) (by omega)), x_nameAt x hd hk (by omega), qb_s, show (if j < 4 * A 8 d ∧ A 14 (48 * d + j) ≠ 0 then nm (48 * d + j) else 0) = 0 from if_neg (by omega), if_pos ((lg_cmp_eq 0 0).mpr rfl)]
      unfold fX3_nameCount_b24
      rw [qn_s, nI_1]
      exact ih (j + 1) (n - 1) acc (by omega) (by omega) (by omega)
  have key : ∀ (k j n acc : Nat), j + k = 4 * A 8 d → k + 49 < n + 4 * A 8 d → acc ≤ j → q_lp (fX3_nameCount_b4 L N) (fun _ _ _ _ => none) n (nI d) (nI acc) (nI j) ux = some (nI (acc + cq (fun j => !sF A d j) k j), ux) := by
    intro k
    induction k with
    | zero =>
      intro j n acc h1 h2 h3
      exact tail (48 - j) j n acc (by omega) (by omega) (by omega)
    | succ k ih =>
      intro j n acc h1 h2 h3
      have e1 : cq (fun j => !sF A d j) (k + 1) j = (if (!sF A d j) = true then 1 else 0) + cq (fun j => !sF A d j) k (j + 1) := rfl
      rw [lp_1 _ _ (by omega), fX3_nameCount_b4, if_neg (show ¬ (48 : Int32) ≤ nI j from nI_ge (a := j) (b := 48) (by omega) (by omega)), x_nameAt x hd hk (by omega), qb_s, e1]
      unfold fX3_nameCount_b24
      by_cases c : A 14 (48 * d + j) = 0
      · have hs : sF A d j = true := by unfold sF; exact decide_eq_true c
        rw [show (if j < 4 * A 8 d ∧ A 14 (48 * d + j) ≠ 0 then nm (48 * d + j) else 0) = 0 from if_neg (fun z => z.2 c), if_pos ((lg_cmp_eq 0 0).mpr rfl), qn_s, nI_1, ih (j + 1) (n - 1) acc (by omega) (by omega) (by omega), hs]
        simp
      · have hs : sF A d j = false := by unfold sF; exact decide_eq_false c
        have hnz := (tw.2.2.2.1 (48 * d + j) (by omega) c).2.2.2.2.1.1
        rw [show (if j < 4 * A 8 d ∧ A 14 (48 * d + j) ≠ 0 then nm (48 * d + j) else 0) = nm (48 * d + j) from if_pos ⟨by omega, c⟩, if_neg (fun z => hnz ((lg_cmp_eq _ _).mp z)), qn_s, nI_1, qn_s, nI_1, ih (j + 1) (n - 1) (acc + 1) (by omega) (by omega) (by omega), hs]
        simp
        congr 1
        omega
  unfold fX3_nameCount
  have := key (4 * A 8 d) 0 N 0 (by omega) (by omega) (by omega)
  rw [Nat.zero_add] at this
  exact this
/-- the reference -/
theorem m_slots4 {Ls : Nat} {A : Nat → Nat → Nat} {nm : Nat → Int64} {N : Nat} {um : q_St} (r : RM Ls A nm (q_a um) (q_j um 0)) {d : Nat} (hd : d < 64) : fX11_slots N (nI d) um = some (nI (4 * A 8 d), um) := by
  unfold fX11_slots
  rw [qr_n hd (by decide), r.r7 (by decide) hd, show (4 : Int32) * nI (A 8 d) = nI (4 * A 8 d) from pk_mul 4 _]
theorem i0_m1 {v : Nat} (h : v < 2 ^ 31) : i0 v = -1 ↔ v = 0 := by
  unfold i0
  by_cases c : v = 0
  · rw [if_pos c]; exact ⟨fun _ => c, fun _ => rfl⟩
  · rw [if_neg c]; exact ⟨fun z => absurd z (m1_ne v h), fun z => absurd z c⟩
theorem m_slotOf {Ls : Nat} {A : Nat → Nat → Nat} {nm : Nat → Int64} {N : Nat} {um : q_St} (r : RM Ls A nm (q_a um) (q_j um 0)) (hN : 300 ≤ N) {d : Nat} (hd : d < 64) (h8 : A 8 d ≤ 12) (h14 : ∀ j, j < 3072 → A 14 j ≠ 0 → A 14 j < 64) {v : Int64} : fX11_slotOf N (nI d) v um = some (slM d (4 * A 8 d) (fnd (sP A nm d v) (4 * A 8 d) 0), um) := by
  have key : ∀ (k j n : Nat), j + k = 4 * A 8 d → k < n → q_lp (fX11_slotOf_b6 N) (fun _ _ _ _ => none) n (nI d) v (nI (48 * d + j)) um = some (slM d (4 * A 8 d) (fnd (sP A nm d v) k j), um) := by
    intro k
    induction k with
    | zero =>
      intro j n h1 h2
      rw [lp_1 _ _ (by omega), fX11_slotOf_b6, m_slots4 r hd, qb_s, show (48 : Int32) * nI d = nI (48 * d) from pk_mul 48 _, nI_add, if_pos (nI_le (by omega) (by omega))]
      unfold slM
      rw [if_neg (show ¬ fnd (sP A nm d v) 0 j < 4 * A 8 d by show ¬ j < 4 * A 8 d; omega)]
    | succ k ih =>
      intro j n h1 h2
      obtain ⟨q1, q2⟩ := r.2.2.2.2.2.1 (48 * d + j) (by omega)
      have ihh := ih (j + 1) (n - 1) (by omega) (by omega)
      rw [show 48 * d + (j + 1) = 48 * d + j + 1 by omega] at ihh
      rw [lp_1 _ _ (by omega), fX11_slotOf_b6, m_slots4 r hd, qb_s, show (48 : Int32) * nI d = nI (48 * d) from pk_mul 48 _, nI_add, if_neg (nI_ge (by omega) (by omega)), qr_n (by omega) (by omega), q1, fnd_1]
      unfold fX11_slotOf_b47
      by_cases c : A 14 (48 * d + j) = 0
      · have hs : ¬ sP A nm d v j = true := by unfold sP; simp [c]
        rw [if_pos ((i0_m1 (by omega)).mpr c), qn_s, nI_1, if_neg hs]
        exact ihh
      · have h64 := h14 (48 * d + j) (by omega) c
        rw [if_neg (fun z => c ((i0_m1 (by omega)).mp z)), qr_n (by omega) (by omega), q2 c]
        by_cases c2 : nm (48 * d + j) = v
        · have hs : sP A nm d v j = true := by unfold sP; simp [c, c2]
          rw [if_pos ((lg_cmp_eq _ _).mpr c2), if_pos hs]
          unfold slM
          rw [if_pos (by omega)]
        · have hs : ¬ sP A nm d v j = true := by unfold sP; simp [c2]
          rw [if_neg (fun z => c2 ((lg_cmp_eq _ _).mp z)), qn_s, nI_1, if_neg hs]
          exact ihh
  unfold fX11_slotOf
  rw [show (48 : Int32) * nI d = nI (48 * d) from pk_mul 48 _, qn_s]
  exact key (4 * A 8 d) 0 N (by omega) (by omega)
theorem m_names {Ls : Nat} {A : Nat → Nat → Nat} {nm : Nat → Int64} {N : Nat} {um : q_St} (r : RM Ls A nm (q_a um) (q_j um 0)) (hN : 300 ≤ N) {d : Nat} (hd : d < 64) (h8 : A 8 d ≤ 12) (h14 : ∀ j, j < 3072 → A 14 j ≠ 0 → A 14 j < 64) : fX11_names N (nI d) um = some (nI (cq (fun j => !sF A d j) (4 * A 8 d) 0), um) := by
  have key : ∀ (k j n acc : Nat), j + k = 4 * A 8 d → k < n → acc ≤ j → q_lp (fX11_names_b7 N) (fun _ _ _ _ => none) n (nI d) (nI acc) (nI (48 * d + j)) um = some (nI (acc + cq (fun j => !sF A d j) k j), um) := by
    intro k
    induction k with
    | zero =>
      intro j n acc h1 h2 h3
      rw [lp_1 _ _ (by omega), fX11_names_b7, m_slots4 r hd, qb_s, show (48 : Int32) * nI d = nI (48 * d) from pk_mul 48 _, nI_add, if_pos (nI_le (by omega) (by omega))]
      rfl
    | succ k ih =>
      intro j n acc h1 h2 h3
      have e1 : cq (fun j => !sF A d j) (k + 1) j = (if (!sF A d j) = true then 1 else 0) + cq (fun j => !sF A d j) k (j + 1) := rfl
      obtain ⟨q1, q2⟩ := r.2.2.2.2.2.1 (48 * d + j) (by omega)
      rw [lp_1 _ _ (by omega), fX11_names_b7, m_slots4 r hd, qb_s, show (48 : Int32) * nI d = nI (48 * d) from pk_mul 48 _, nI_add, if_neg (nI_ge (by omega) (by omega)), qr_n (by omega) (by omega), q1, e1]
      unfold fX11_names_b37
      by_cases c : A 14 (48 * d + j) = 0
      · have hs : sF A d j = true := by unfold sF; exact decide_eq_true c
        rw [if_pos ((i0_m1 (by omega)).mpr c), qn_s, i32_add0, qn_s, nI_1, show 48 * d + j + 1 = 48 * d + (j + 1) by omega, ih (j + 1) (n - 1) acc (by omega) (by omega) (by omega), hs]
        simp
      · have h64 := h14 (48 * d + j) (by omega) c
        have hs : sF A d j = false := by unfold sF; exact decide_eq_false c
        rw [if_neg (fun z => c ((i0_m1 (by omega)).mp z)), qn_s, nI_1, qn_s, nI_1, show 48 * d + j + 1 = 48 * d + (j + 1) by omega, ih (j + 1) (n - 1) (acc + 1) (by omega) (by omega) (by omega), hs]
        simp
        congr 1
        omega
  unfold fX11_names
  rw [show (48 : Int32) * nI d = nI (48 * d) from pk_mul 48 _, qn_s]
  have := key (4 * A 8 d) 0 N 0 (by omega) (by omega) (by omega)
  rw [Nat.zero_add] at this
  exact this
