/-! ===== block, byteAt ===== -/

theorem ino {o : Int32} {m : Nat} (hm : m < 2 ^ 31) (h1 : ¬ o < 0) (h2 : o < nI m) : ∃ n, n < m ∧ o = nI n := i_nat h1 h2 hm
theorem tl_p {A : Nat → Nat → Nat} {W n p : Nat} (h1 : A 5 n = 1) (hp : p < 1068) : tl A W n p = A 9 (1068 * n + p) := by
  unfold tl
  rw [if_pos h1, if_pos hp]
theorem tl_i {A : Nat → Nat → Nat} {W n i : Nat} (h1 : A 5 n = 1) (hi : i < 34) : tl A W n (1068 + i) = A 10 (34 * n + i) := by
  unfold tl
  rw [if_pos h1, if_neg (by omega), if_pos (by omega), show 1068 + i - 1068 = i by omega]
theorem x_hk {B T S C W Ls na hb : Nat} {um : q_St} {D K : Nat → Nat → Int64} {dd : Nat → Bool} {A : Nat → Nat → Nat} {nm : Nat → Int64} {L : Nat → Nat} {N : Nat} {ux : q_St} (x : Xr B T S C W Ls na hb um D K dd A nm L ux) {y i : Nat} (hy : y < Ls) (hi : i < 32) : fX6_half L N (nI y) (nI i) ux = some (nI (if y = 0 then 0 else sH (K y) i), ux) := by
  obtain ⟨⟨g, gl, hna⟩, s, -⟩ := x
  rw [x_half g gl s hy hi]
  rfl
theorem Xr.idx {B T S C W Ls na hb : Nat} {um : q_St} {D K : Nat → Nat → Int64} {dd : Nat → Bool} {A : Nat → Nat → Nat} {nm : Nat → Int64} {L : Nat → Nat} {ux : q_St} (x : Xr B T S C W Ls na hb um D K dd A nm L ux) {n i : Nat} (hn : n < 64) (h1 : A 5 n = 1) (hi : i < 34) : A 10 (34 * n + i) < Ls ∧ (A 10 (34 * n + i) ≠ 0 → mRole A nm n (1068 + i) (A 10 (34 * n + i)) (K (A 10 (34 * n + i)))) := by
  have hl := x.1.1.l
  have e := tl_i (W := W) h1 hi
  by_cases c : A 10 (34 * n + i) = 0
  · exact ⟨by omega, fun z => absurd c z⟩
  · have t3 := x.2.2.2.2.2.1.2.1 n (1068 + i) hn (by rw [e]; exact c)
    have r := x.2.2.1.2.2 n (1068 + i) hn (by rw [e]; exact c)
    rw [e] at t3 r
    exact ⟨t3.2.1, fun _ => r⟩
theorem Xr.pie {B T S C W Ls na hb : Nat} {um : q_St} {D K : Nat → Nat → Int64} {dd : Nat → Bool} {A : Nat → Nat → Nat} {nm : Nat → Int64} {L : Nat → Nat} {ux : q_St} (x : Xr B T S C W Ls na hb um D K dd A nm L ux) {n p : Nat} (hn : n < 64) (h1 : A 5 n = 1) (hp : p < 1068) : A 9 (1068 * n + p) < Ls ∧ (A 9 (1068 * n + p) ≠ 0 → mRole A nm n p (A 9 (1068 * n + p)) (K (A 9 (1068 * n + p)))) := by
  have hl := x.1.1.l
  have e := tl_p (W := W) h1 hp
  by_cases c : A 9 (1068 * n + p) = 0
  · exact ⟨by omega, fun z => absurd c z⟩
  · have t3 := x.2.2.2.2.2.1.2.1 n p hn (by rw [e]; exact c)
    have r := x.2.2.1.2.2 n p hn (by rw [e]; exact c)
    rw [e] at t3 r
    exact ⟨t3.2.1, fun _ => r⟩
theorem x_near {B T S C W Ls na hb : Nat} {um : q_St} {D K : Nat → Nat → Int64} {dd : Nat → Bool} {A : Nat → Nat → Nat} {nm : Nat → Int64} {L : Nat → Nat} {N : Nat} {ux : q_St} (x : Xr B T S C W Ls na hb um D K dd A nm L ux) {n i : Nat} (hn : n < 64) (h1 : A 5 n = 1) (hi : i < 32) : fX6_half L N (nI (A 10 (34 * n))) (nI i) ux = some (nI (A 9 (1068 * n + (12 + i))), ux) := by
  obtain ⟨b, r⟩ := x.idx hn h1 (i := 0) (by decide)
  rw [Nat.add_zero] at b r
  rw [x_hk x b hi]
  by_cases c : A 10 (34 * n) = 0
  · rw [if_pos c]
    have z : A 9 (1068 * n + (12 + i)) = 0 := by
      by_cases c9 : A 9 (1068 * n + (12 + i)) = 0
      · exact c9
      · have := (x.2.2.2.2.1.2 n hn h1).2.1 (12 + i) (by omega) (by omega) c9
        unfold ixo at this
        rw [if_pos (by omega)] at this
        exact absurd c this
    rw [z]
  · rw [if_neg c]
    have := (r c).2.1 h1 rfl i hi
    rw [this, show 1068 * n + 12 + i = 1068 * n + (12 + i) by omega]
theorem x_farIndex {B T S C W Ls na hb : Nat} {um : q_St} {D K : Nat → Nat → Int64} {dd : Nat → Bool} {A : Nat → Nat → Nat} {nm : Nat → Int64} {L : Nat → Nat} {N : Nat} {ux : q_St} (x : Xr B T S C W Ls na hb um D K dd A nm L ux) {n i : Nat} (hn : n < 64) (h1 : A 5 n = 1) (hi : i < 32) : fX0_farIndex L N (nI n) (nI i) ux = some (nI (A 10 (34 * n + (2 + i))), ux) := by
  have mn := ((x.2.2.1.2.1 n hn).2.2.2.1 h1).2.2
  obtain ⟨b, r⟩ := x.idx hn h1 (i := 1) (by decide)
  unfold fX0_farIndex fX4_sectorOf
  rw [if_neg (nI_pos (by omega)), if_pos (show nI i < 32 from nI_lt (b := 32) hi (by decide)), qb_s, show (17 : Int32) = nI 17 from rfl, x_hlf x hn (by decide), qb_s, mn, x_hk x b hi, qb_s]
  by_cases c : A 10 (34 * n + 1) = 0
  · rw [if_pos c]
    have z : A 10 (34 * n + (2 + i)) = 0 := by
      by_cases c9 : A 10 (34 * n + (2 + i)) = 0
      · exact c9
      · exact absurd c ((x.2.2.2.2.1.2 n hn h1).2.2.1 (2 + i) (by omega) (by omega) c9)
    rw [z]
  · rw [if_neg c]
    have := (r c).2.2.1 h1 rfl i hi
    rw [this, show 34 * n + 2 + i = 34 * n + (2 + i) by omega]
theorem x_far {B T S C W Ls na hb : Nat} {um : q_St} {D K : Nat → Nat → Int64} {dd : Nat → Bool} {A : Nat → Nat → Nat} {nm : Nat → Int64} {L : Nat → Nat} {N : Nat} {ux : q_St} (x : Xr B T S C W Ls na hb um D K dd A nm L ux) {n i j : Nat} (hn : n < 64) (h1 : A 5 n = 1) (hi : i < 32) (hj : j < 32) : fX6_half L N (nI (A 10 (34 * n + (2 + i)))) (nI j) ux = some (nI (A 9 (1068 * n + (44 + 32 * i + j))), ux) := by
  obtain ⟨b, r⟩ := x.idx hn h1 (i := 2 + i) (by omega)
  rw [x_hk x b hj]
  by_cases c : A 10 (34 * n + (2 + i)) = 0
  · rw [if_pos c]
    have z : A 9 (1068 * n + (44 + 32 * i + j)) = 0 := by
      by_cases c9 : A 9 (1068 * n + (44 + 32 * i + j)) = 0
      · exact c9
      · have := (x.2.2.2.2.1.2 n hn h1).2.1 (44 + 32 * i + j) (by omega) (by omega) c9
        unfold ixo at this
        rw [if_neg (by omega), show (44 + 32 * i + j - 44) / 32 = i by omega] at this
        exact absurd c this
    rw [z]
  · rw [if_neg c]
    have := (r c).2.2.2.1 h1 (by omega) j hj
    rw [this, show 1068 * n + 44 + 32 * (1068 + (2 + i) - 1070) + j = 1068 * n + (44 + 32 * i + j) by omega]
theorem x_pieceBlock {B T S C W Ls na hb : Nat} {um : q_St} {D K : Nat → Nat → Int64} {dd : Nat → Bool} {A : Nat → Nat → Nat} {nm : Nat → Int64} {L : Nat → Nat} {N : Nat} {ux : q_St} (x : Xr B T S C W Ls na hb um D K dd A nm L ux) {n p : Nat} (hn : n < 64) (h1 : A 5 n = 1) (hp : p < 1068) : fX0_pieceBlock L N (nI n) (nI p) ux = some (nI (A 9 (1068 * n + p)), ux) := by
  have mn := (x.2.2.1.2.1 n hn).2.2.2.1 h1
  unfold fX0_pieceBlock fX4_sectorOf
  rw [qb_s, if_neg (nI_pos (by omega)), if_pos (show nI p < 1068 from nI_lt (b := 1068) hp (by decide))]
  by_cases c1 : p < 12
  · rw [if_neg (show ¬ (12 : Int32) ≤ nI p from nI_ge (b := 12) c1 (by decide)), show (4 : Int32) + nI p = nI (4 + p) from nI_add 4 p, x_hlf x hn (by omega), qb_s, mn.1 p c1]
  · rw [if_pos (show (12 : Int32) ≤ nI p from nI_le (a := 12) (by omega) (by omega))]
    by_cases c2 : p < 44
    · rw [if_neg (show ¬ (44 : Int32) ≤ nI p from nI_ge (b := 44) c2 (by decide)), show (16 : Int32) = nI 16 from rfl, x_hlf x hn (by decide), qb_s, mn.2.1, show nI p - 12 = nI (p - 12) from pk_sub (b := 12) (by omega), x_near x hn h1 (by omega), qb_s, show 12 + (p - 12) = p by omega]
    · rw [if_pos (show (44 : Int32) ≤ nI p from nI_le (a := 44) (by omega) (by omega)), qn_s, show nI p - 44 = nI (p - 44) from pk_sub (b := 44) (by omega), show (32 : Int32) = nI 32 from rfl, rem_n (by omega) (by decide) (by decide), pk_div (by omega) (by decide) (by decide), x_farIndex x hn h1 (by omega), qb_s, x_far x hn h1 (by omega) (by omega), qb_s, show 44 + 32 * ((p - 44) / 32) + (p - 44) % 32 = p by omega]
