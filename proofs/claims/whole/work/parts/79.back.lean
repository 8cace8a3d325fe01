/-! ===== BACK, in both ===== -/
theorem shl_congr {W S : Nat} {f f2 : Nat → Int32} {x j : Nat} {bad : Int32} (h : f j = f2 j) : shl W S f x bad j = shl W S f2 x bad j := by
  unfold shl upd stl
  rw [h]
theorem spt_t {C W Ls t b lim tr x x0 : Nat} {um : q_St} (hW : 0 < W) (hx : x < Ls) (h0 : x0 < Ls) (hb : x0 / W = b) : spt C W Ls t (some (b, lim, true, tr)) um x ≠ x0 := by
  have hm := Nat.mod_lt x hW
  unfold spt
  split
  · omega
  · show (if b = x / W then Ls + x % W else x) ≠ x0
    split
    · omega
    · rename_i h
      intro e
      rw [e] at h
      exact h hb.symm
theorem l_back1 {B T S C W Ls h t b lim tr i : Nat} {sm : Option Nat} {L : Nat → Nat} {N : Nat} {ux um : q_St} (g : Geo B T S C W Ls) (gl : gL B C W Ls L) (hN : 300 ≤ N) (ht : tr < T) (hi : i < 8) (v : vU B T S C W Ls h t (some (b, lim, true, tr)) sm (8 * tr + i) ux um) :
    (∃ vx vm, fX2_writeShingle_12 L N (nI (b * W + (8 * tr + i))) (nI ((Ls + (8 * tr + i)) * 8)) ux = some (0, vx) ∧ fX11_writeBand N (nI b) (nI tr) (nI i) um = some (0, vm) ∧ vU B T S C W Ls h t (some (b, lim, true, tr)) sm (8 * tr) vx vm ∧ q_i vx 7 = 0 ∧ q_a vm 4 = q_a um 4 ∧ ∀ x w, x < Ls → w < 8 → dsk C W Ls t (some (b, lim, true, tr)) vx vm x w = dsk C W Ls t (some (b, lim, true, tr)) ux um x w) ∨
    (∃ vx vm, fX2_writeShingle_12 L N (nI (b * W + (8 * tr + i))) (nI ((Ls + (8 * tr + i)) * 8)) ux = some (1, vx) ∧ fX11_writeBand N (nI b) (nI tr) (nI i) um = some (1, vm) ∧ vU B T S C W Ls h t (some (b, lim, true, tr)) sm (8 * tr + (i + 1)) vx vm ∧ q_i vx 7 = q_i ux 7 ∧ q_a vm 4 = q_a um 4 ∧ ∀ x w, x < Ls → w < 8 → dsk C W Ls t (some (b, lim, true, tr)) vx vm x w = dsk C W Ls t (some (b, lim, true, tr)) ux um x w) := by
  have hw := g.w
  have hl := g.l
  obtain ⟨a1, a2, a3, a4, a5, a6⟩ := id g
  obtain ⟨⟨gx, gm⟩, vw, vr, cr, lr, kr, vc, e1, e2, e3, e4⟩ := id v
  have hb : b < B := e3 b lim true tr rfl
  have hi0 : 8 * tr + i < W := by omega
  have hib := in_band hb hi0
  have hx0 : b * W + (8 * tr + i) < Ls := by rw [a6]; exact hib.1
  have hX := x_shingle12 (N := N) g gl gx hN (x := b * W + (8 * tr + i)) (at_ := (Ls + (8 * tr + i)) * 8) (by omega) (by omega)
  have hM := m_writeBand (N := N) g gm hN hb ht hi
  rw [Nat.add_assoc] at hM
  have h8 : b * W = 8 * (b * T) := by rw [a5, Nat.mul_left_comm]
  have hend : (b * W + (8 * tr + i)) / W * W + W ≤ Ls := by
    rw [hib.2, a6]
    have : (b + 1) * W ≤ B * W := Nat.mul_le_mul_right _ hb
    rw [Nat.add_mul, Nat.one_mul] at this
    exact this
  have farS : ∀ (bad : Int32) (j : Nat), shl W S (q_a ux 0) (b * W + (8 * tr + i)) bad (Ls + j) = q_a ux 0 (Ls + j) := fun bad j => shl_far (by omega) (by omega)
  have other : ∀ (bad : Int32) (x : Nat), ¬ b = x / W → shl W S (q_a ux 0) (b * W + (8 * tr + i)) bad x = q_a ux 0 x := by
    intro bad x hbx
    rcases Nat.lt_or_ge x (b * W) with q | q
    · exact shl_keep (by omega) (by omega)
    · rcases Nat.lt_or_ge x (b * W + W) with q2 | q2
      · exfalso
        have := (in_band (W := W) hb (show x - b * W < W by omega)).2
        rw [show b * W + (x - b * W) = x by omega] at this
        exact hbx this.symm
      · exact shl_far (by rw [hib.2]; exact q2) (by omega)
  have keepB : ∀ (bad : Int32) (j : Nat), j < 8 * tr + i → shl W S (q_a ux 0) (b * W + (8 * tr + i)) bad (b * W + j) = q_a ux 0 (b * W + j) := fun bad j hj => shl_keep (by omega) (by omega)
  obtain ⟨q1, q2, q3, q4⟩ := vc.2 b lim true tr rfl
  have nlhom : ∀ (bad : Int32) (x : Nat), x < Ls → lvx W t um x = false → sm ≠ some (x / W) → shl W S (q_a ux 0) (b * W + (8 * tr + i)) bad (hom W Ls (some (b, lim, true, tr)) x) = 0 := by
    intro bad x hx h1 h2
    have r := vc.1 x hx h1 h2
    show shl W S (q_a ux 0) (b * W + (8 * tr + i)) bad (if b = x / W then Ls + x % W else x) = 0
    have r : nl ux (if b = x / W then Ls + x % W else x) := r
    by_cases hbx : b = x / W
    · rw [if_pos hbx] at r ⊢
      exact (farS bad _).trans r
    · rw [if_neg hbx] at r ⊢
      exact (other bad x hbx).trans r
  rcases l_spend (L := L) (N := N) cr.2.1 with ⟨s1, s2⟩ | ⟨c, s1, s2⟩
  · left
    refine ⟨_, _, hX.1 s1, hM.1 s2, ⟨⟨gx, gm⟩, vw, vr, ?_, ⟨?_, ?_⟩, kr, ⟨?_, ?_⟩, e1, e2, e3, e4⟩, rfl, rfl, fun x w hx hw8 => rfl⟩
    · exact ⟨rfl, rfl, cr.2.2.1, cr.2.2.2.1, cr.2.2.2.2.1, cr.2.2.2.2.2.1, cr.2.2.2.2.2.2.1, cr.2.2.2.2.2.2.2.1, cr.2.2.2.2.2.2.2.2⟩
    · intro x hx
      exact shl_congr (lr.1 x hx)
    · intro j hj
      exact (farS 1 j).trans (lr.2 j hj)
    · exact nlhom 1
    · intro b' lim' sf tr' he
      cases he
      refine ⟨q1, q2, fun j hj hp => ?_, fun _ j hj hp => ?_⟩
      · obtain ⟨r1, r2⟩ := q3 j hj (Or.inl rfl)
        exact ⟨(farS 1 j).trans r1, r2⟩
      · obtain ⟨r1, r2⟩ := q4 rfl j hj (by omega)
        exact ⟨(keepB 1 j (by omega)).trans r1, r2⟩
  · right
    have hX2 := hX.2 c s1
    rw [if_pos hx0] at hX2
    have dk : ∀ x w, x < Ls → w < 8 → cpy8 (q_j ux 0) ((Ls + (8 * tr + i)) * 8) ((b * W + (8 * tr + i)) * 8) (spt C W Ls t (some (b, lim, true, tr)) um x * 8 + w) = q_j ux 0 (spt C W Ls t (some (b, lim, true, tr)) um x * 8 + w) := by
      intro x w hx hw8
      exact cpy8_ne _ _ hw8 (spt_t (by omega) hx hx0 hib.2)
    refine ⟨_, _, hX2, hM.2 c s2, ⟨⟨gx, gm⟩, vw, vr, ?_, ⟨?_, ?_⟩, kr, ⟨?_, ?_⟩, e1, e2, e3, e4⟩, rfl, rfl, fun x w hx hw8 => dk x w hx hw8⟩
    · refine ⟨cr.1, rfl, cr.2.2.1, ?_, cr.2.2.2.2.1, cr.2.2.2.2.2.1, cr.2.2.2.2.2.2.1, cr.2.2.2.2.2.2.2.1, cr.2.2.2.2.2.2.2.2⟩
      show q_i ux 10 + 1 = q_i um 12 + 1
      rw [cr.2.2.2.1]
    · intro x hx
      exact shl_congr (lr.1 x hx)
    · intro j hj
      exact (farS 0 j).trans (lr.2 j hj)
    · exact nlhom 0
    · intro b' lim' sf tr' he
      cases he
      refine ⟨q1, q2, fun j hj hp => ?_, fun _ j hj hp => ?_⟩
      · obtain ⟨r1, r2⟩ := q3 j hj (Or.inl rfl)
        refine ⟨(farS 0 j).trans r1, fun hlt w hw8 => ?_⟩
        have hxj : b * W + j < Ls := by rw [a6]; exact (in_band hb hj).1
        show cpy8 (q_j ux 0) _ ((b * W + (8 * tr + i)) * 8) ((Ls + j) * 8 + w) = cpy8 (q_j ux 0) _ ((b * W + (8 * tr + i)) * 8) (spt C W Ls t (some (b, lim, true, tr)) um (b * W + j) * 8 + w)
        rw [dk _ w hxj hw8, cpy8_ne _ _ hw8 (by omega)]
        exact r2 hlt w hw8
      · by_cases hji : j = 8 * tr + i
        · subst hji
          refine ⟨shl_at _ _ _ _ _, fun w hw8 => ?_⟩
          show cpy8 (q_j ux 0) ((Ls + (8 * tr + i)) * 8) ((b * W + (8 * tr + i)) * 8) ((b * W + (8 * tr + i)) * 8 + w) = cpy8 (q_j ux 0) ((Ls + (8 * tr + i)) * 8) ((b * W + (8 * tr + i)) * 8) ((Ls + (8 * tr + i)) * 8 + w)
          rw [cpy8_at _ _ _ _ hw8, cpy8_ne _ _ hw8 (by omega)]
        · obtain ⟨r1, r2⟩ := q4 rfl j hj (by omega)
          refine ⟨(keepB 0 j (by omega)).trans r1, fun w hw8 => ?_⟩
          have hne : b * W + j ≠ b * W + (8 * tr + i) := by omega
          show cpy8 (q_j ux 0) _ ((b * W + (8 * tr + i)) * 8) ((b * W + j) * 8 + w) = cpy8 (q_j ux 0) _ ((b * W + (8 * tr + i)) * 8) ((Ls + j) * 8 + w)
          rw [cpy8_ne _ _ hw8 hne, cpy8_ne _ _ hw8 (by omega)]
          exact r2 w hw8
