/-! ===== small words on shingles, copies, and what stays ===== -/
theorem shl_at (W S : Nat) (f : Nat → Int32) (x : Nat) (bad : Int32) : shl W S f x bad x = bad := by unfold shl; exact up_s
theorem shl_out {W S : Nat} {f : Nat → Int32} {x j : Nat} {bad : Int32} (h : j ≠ x) (h2 : ¬ (x / 8 * 8 + 8 ≤ j ∧ j < min (x / W * W + W) (x / 8 * 8 + 8 + 8 * S))) : shl W S f x bad j = f j := by
  unfold shl
  rw [up_n h]
  unfold stl
  rw [if_neg h2]
/-- below, and in the same track, all stays but the place itself -/
theorem shl_keep {W S : Nat} {f : Nat → Int32} {x j : Nat} {bad : Int32} (h : j ≠ x) (h2 : j < x / 8 * 8 + 8) : shl W S f x bad j = f j := shl_out h (by omega)
/-- outside of the band all stays -/
theorem shl_far {W S : Nat} {f : Nat → Int32} {x j : Nat} {bad : Int32} (h : x / W * W + W ≤ j) (hw : 0 < W) : shl W S f x bad j = f j := by
  have h1 := Nat.div_add_mod x W
  have h2 := Nat.mod_lt x hw
  rw [Nat.mul_comm] at h1
  exact shl_out (by omega) (fun q => by have := Nat.lt_of_lt_of_le q.2 (Nat.min_le_left _ _); omega)
theorem shl_scr {B T S C W Ls : Nat} (g : Geo B T S C W Ls) {f f2 : Nat → Int32} {i : Nat} {bad : Int32} (hi : i < W) (h : ∀ j, j < W → f (Ls + j) = f2 j) : ∀ j, j < W → shl W S f (Ls + i) bad (Ls + j) = shl W S f2 i bad j := by
  have hw := g.w
  obtain ⟨a, b, c, d, e, e2⟩ := id g
  have h8 : Ls = 8 * (B * T) := by rw [e2, e, Nat.mul_left_comm]
  have hd : (Ls + i) / W = B := by rw [e2, Nat.mul_comm B W, Nat.mul_add_div (by omega), Nat.div_eq_of_lt hi]; rfl
  have hd0 : i / W = 0 := Nat.div_eq_of_lt hi
  intro j hj
  unfold shl upd stl
  by_cases c1 : j = i
  · rw [if_pos (by omega), if_pos c1]
  · rw [if_neg (by omega), if_neg c1, hd, hd0, ← e2, h j hj]
    have q : (Ls + i) / 8 * 8 + 8 = Ls + (i / 8 * 8 + 8) := by omega
    rw [q]
    have e3 : (Ls + (i / 8 * 8 + 8) ≤ Ls + j ∧ Ls + j < min (Ls + W) (Ls + (i / 8 * 8 + 8) + 8 * S)) ↔ (i / 8 * 8 + 8 ≤ j ∧ j < min (0 * W + W) (i / 8 * 8 + 8 + 8 * S)) := by
      rw [Nat.lt_min, Nat.lt_min]; omega
    by_cases c2 : i / 8 * 8 + 8 ≤ j ∧ j < min (0 * W + W) (i / 8 * 8 + 8 + 8 * S)
    · rw [if_pos (e3.mpr c2), if_pos c2]
    · rw [if_neg (fun q => c2 (e3.mp q)), if_neg c2]
theorem cpy8_at (f : Nat → Int64) (src d w : Nat) (hw : w < 8) : cpy8 f src (d * 8) (d * 8 + w) = f (src + w) := by
  unfold cpy8 va_cpy
  rw [if_pos (by omega)]
  congr 1
  omega
theorem cpy8_ne (f : Nat → Int64) (src : Nat) {d s w : Nat} (hw : w < 8) (h : s ≠ d) : cpy8 f src (d * 8) (s * 8 + w) = f (s * 8 + w) := by
  unfold cpy8 va_cpy
  rw [if_neg (by omega)]
theorem kR_keep {T : Nat} {cl : Cl} {sm : Option Nat} {ux um vx vm : q_St} (h : kR T cl sm ux um) (h1 : ∀ k, 16 ≤ k → k ≤ 20 → q_i vx k = q_i ux k) (h2 : ∀ k, 19 ≤ k → k ≤ 24 → q_i vm k = q_i um k) : kR T cl sm vx vm := by
  unfold kR at h ⊢
  rw [h1 16 (by decide) (by decide), h1 17 (by decide) (by decide), h1 18 (by decide) (by decide), h1 19 (by decide) (by decide), h1 20 (by decide) (by decide), h2 19 (by decide) (by decide), h2 20 (by decide) (by decide), h2 21 (by decide) (by decide), h2 22 (by decide) (by decide), h2 23 (by decide) (by decide), h2 24 (by decide) (by decide)]
  exact h
