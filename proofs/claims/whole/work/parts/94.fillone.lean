/-! ===== STREAMING: one sector, in both ===== -/
theorem spt_o {C W Ls t x x0 b : Nat} {cl : Cl} {um : q_St} (hx : ¬ x / W = b) (h0 : x0 < Ls) (hb : x0 / W = b) : spt C W Ls t cl um x ≠ x0 := by
  have hne : x ≠ x0 := fun e => hx (by rw [e]; exact hb)
  unfold spt
  split
  · omega
  · unfold hom
    split
    · split
      · omega
      · exact hne
    · exact hne
theorem va8_at (f h : Nat → Int64) (src d w : Nat) (hw : w < 8) : va_cpy f h src (d * 8) 8 (d * 8 + w) = f (src + w) := by
  unfold va_cpy
  rw [if_pos (by omega)]
  congr 1
  omega
theorem va8_ne (f h : Nat → Int64) (src : Nat) {d s w : Nat} (hw : w < 8) (hs : s ≠ d) : va_cpy f h src (d * 8) 8 (s * 8 + w) = h (s * 8 + w) := by
  unfold va_cpy
  rw [if_neg (by omega)]
theorem l_fill1 {B T S C W Ls h t b tr i : Nat} {cl : Cl} {p : Nat} {L : Nat → Nat} {N : Nat} {ux um : q_St} (g : Geo B T S C W Ls) (gl : gL B C W Ls L) (hN : 300 ≤ N) (ht : tr < T) (hi : i < 8) (v : vU B T S C W Ls h t cl (some b) p ux um) :
    (∃ vx vm, fX2_writeShingle_18 L N (nI (b * W + (8 * tr + i))) 0 ux = some (0, vx) ∧ fX11_writeBand N (nI b) (nI tr) (nI i) um = some (0, vm) ∧ vU B T S C W Ls h t cl (some b) p vx vm ∧ q_i vx 7 = 0 ∧ q_a vm 4 = q_a um 4 ∧ ∀ x w, x < Ls → w < 8 → ¬ x / W = b → dsk C W Ls t cl vx vm x w = dsk C W Ls t cl ux um x w) ∨
    (∃ vx vm, fX2_writeShingle_18 L N (nI (b * W + (8 * tr + i))) 0 ux = some (1, vx) ∧ fX11_writeBand N (nI b) (nI tr) (nI i) um = some (1, vm) ∧ vU B T S C W Ls h t cl (some b) p vx vm ∧ q_i vx 7 = q_i ux 7 ∧ q_a vm 4 = q_a um 4 ∧ (∀ x w, x < Ls → w < 8 → ¬ x / W = b → dsk C W Ls t cl vx vm x w = dsk C W Ls t cl ux um x w) ∧
      (∀ j, j < 8 * tr + i → q_a vx 0 (b * W + j) = q_a ux 0 (b * W + j) ∧ ∀ w, w < 8 → sec vx (b * W + j) w = sec ux (b * W + j) w) ∧ nl vx (b * W + (8 * tr + i)) ∧ (∀ w, w < 8 → sec vx (b * W + (8 * tr + i)) w = q_j ux 1 w)) := by
  have hw := g.w
  have hl := g.l
  obtain ⟨a1, a2, a3, a4, a5, a6⟩ := id g
  obtain ⟨⟨gx, gm⟩, vw, vr, cr, lr, kr, vc, e1, e2, e3, e4⟩ := id v
  have hb : b < B := e4 b rfl
  have hi0 : 8 * tr + i < W := by omega
  have hib := in_band hb hi0
  have hx0 : b * W + (8 * tr + i) < Ls := by rw [a6]; exact hib.1
  have hX := x_shingle18 (N := N) g gl gx hN hx0
  have hM := m_writeBand (N := N) g gm hN hb ht hi
  rw [Nat.add_assoc] at hM
  have h8 : b * W = 8 * (b * T) := by rw [a5, Nat.mul_left_comm]
  have hend : (b * W + (8 * tr + i)) / W * W + W ≤ Ls := by
    rw [hib.2, a6]
    have : (b + 1) * W ≤ B * W := Nat.mul_le_mul_right _ hb
    rw [Nat.add_mul, Nat.one_mul] at this
    exact this
  have farS : ∀ (bad : Int32) (j : Nat), shl W S (q_a ux 0) (b * W + (8 * tr + i)) bad (Ls + j) = q_a ux 0 (Ls + j) := fun bad j => shl_far (by omega) (by omega)
  have other : ∀ (bad : Int32) (x : Nat), ¬ b = x / W → shl W S (q_a ux 0) (b * W + (8 * tr + i)) bad x = q_a ux 0 x := by
    intro bad x hbx
    rcases Nat.lt_or_ge x (b * W) with q | q
    · exact shl_keep (by omega) (by omega)
    · rcases Nat.lt_or_ge x (b * W + W) with q2 | q2
      · exfalso
        have := (in_band (W := W) hb (show x - b * W < W by omega)).2
        rw [show b * W + (x - b * W) = x by omega] at this
        exact hbx this.symm
      · exact shl_far (by rw [hib.2]; exact q2) (by omega)
  have keepB : ∀ (bad : Int32) (j : Nat), j < 8 * tr + i → shl W S (q_a ux 0) (b * W + (8 * tr + i)) bad (b * W + j) = q_a ux 0 (b * W + j) := fun bad j hj => shl_keep (by omega) (by omega)
  have nlhom : ∀ (bad : Int32) (x : Nat), x < Ls → lvx W t um x = false → (some b : Option Nat) ≠ some (x / W) → shl W S (q_a ux 0) (b * W + (8 * tr + i)) bad (hom W Ls cl x) = 0 := by
    intro bad x hx h1 h2
    have r := vc.1 x hx h1 h2
    have hbx : ¬ b = x / W := fun e => h2 (by rw [e])
    unfold hom at r ⊢
    split at r
    · split at r
      · rename_i q
        rw [if_pos q]
        exact (farS bad _).trans r
      · rename_i q
        rw [if_neg q]
        exact (other bad x hbx).trans r
    · exact (other bad x hbx).trans r
  have nlB : ∀ (bad : Int32) (b' j : Nat), b' < B → j < W → (some b : Option Nat) ≠ some b' → shl W S (q_a ux 0) (b * W + (8 * tr + i)) bad (b' * W + j) = q_a ux 0 (b' * W + j) := by
    intro bad b' j hb' hj hne
    refine other bad _ ?_
    rw [(in_band hb' hj).2]
    exact fun e => hne (by rw [e])
  rcases l_spend (L := L) (N := N) cr.2.1 with ⟨s1, s2⟩ | ⟨c, s1, s2⟩
  · left
    refine ⟨_, _, hX.1 s1, hM.1 s2, ⟨⟨gx, gm⟩, vw, vr, ?_, ⟨?_, ?_⟩, kr, ⟨nlhom 1, ?_⟩, e1, e2, e3, e4⟩, rfl, rfl, fun x w hx hw8 _ => rfl⟩
    · exact ⟨rfl, rfl, cr.2.2.1, cr.2.2.2.1, cr.2.2.2.2.1, cr.2.2.2.2.2.1, cr.2.2.2.2.2.2.1, cr.2.2.2.2.2.2.2.1, cr.2.2.2.2.2.2.2.2⟩
    · intro x hx
      exact shl_congr (lr.1 x hx)
    · intro j hj
      exact (farS 1 j).trans (lr.2 j hj)
    · intro b' lim' sf tr' he
      obtain ⟨q1, q2, q3, q4⟩ := vc.2 b' lim' sf tr' he
      refine ⟨q1, q2, fun j hj hp => ?_, fun hsf j hj hp => ?_⟩
      · obtain ⟨r1, r2⟩ := q3 j hj hp
        exact ⟨(farS 1 j).trans r1, r2⟩
      · obtain ⟨r1, r2⟩ := q4 hsf j hj hp
        exact ⟨(nlB 1 b' j (e3 b' lim' sf tr' he) hj q1.2).trans r1, r2⟩
  · right
    have dk : ∀ x w, x < Ls → w < 8 → ¬ x / W = b → va_cpy (q_j ux 1) (q_j ux 0) 0 ((b * W + (8 * tr + i)) * 8) 8 (spt C W Ls t cl um x * 8 + w) = q_j ux 0 (spt C W Ls t cl um x * 8 + w) := by
      intro x w hx hw8 hxb
      exact va8_ne _ _ _ hw8 (spt_o hxb hx0 hib.2)
    refine ⟨_, _, hX.2 c s1, hM.2 c s2, ⟨⟨gx, gm⟩, vw, vr, ?_, ⟨?_, ?_⟩, kr, ⟨nlhom 0, ?_⟩, e1, e2, e3, e4⟩, rfl, rfl, fun x w hx hw8 hxb => dk x w hx hw8 hxb, fun j hj => ⟨keepB 0 j hj, fun w hw8 => ?_⟩, shl_at _ _ _ _ _, fun w hw8 => ?_⟩
    · refine ⟨cr.1, rfl, cr.2.2.1, ?_, cr.2.2.2.2.1, cr.2.2.2.2.2.1, cr.2.2.2.2.2.2.1, cr.2.2.2.2.2.2.2.1, cr.2.2.2.2.2.2.2.2⟩
      show q_i ux 10 + 1 = q_i um 12 + 1
      rw [cr.2.2.2.1]
    · intro x hx
      exact shl_congr (lr.1 x hx)
    · intro j hj
      exact (farS 0 j).trans (lr.2 j hj)
    · intro b' lim' sf tr' he
      obtain ⟨q1, q2, q3, q4⟩ := vc.2 b' lim' sf tr' he
      have hb' := e3 b' lim' sf tr' he
      have hbb : ¬ b' = b := fun e => q1.2 (by rw [e])
      refine ⟨q1, q2, fun j hj hp => ?_, fun hsf j hj hp => ?_⟩
      · obtain ⟨r1, r2⟩ := q3 j hj hp
        refine ⟨(farS 0 j).trans r1, fun hlt w hw8 => ?_⟩
        have hxj : b' * W + j < Ls := by rw [a6]; exact (in_band hb' hj).1
        have hxb : ¬ (b' * W + j) / W = b := by rw [(in_band hb' hj).2]; exact hbb
        show va_cpy (q_j ux 1) (q_j ux 0) 0 ((b * W + (8 * tr + i)) * 8) 8 ((Ls + j) * 8 + w) = va_cpy (q_j ux 1) (q_j ux 0) 0 ((b * W + (8 * tr + i)) * 8) 8 (spt C W Ls t cl um (b' * W + j) * 8 + w)
        rw [dk _ w hxj hw8 hxb, va8_ne _ _ _ hw8 (by omega)]
        exact r2 hlt w hw8
      · obtain ⟨r1, r2⟩ := q4 hsf j hj hp
        refine ⟨(nlB 0 b' j hb' hj q1.2).trans r1, fun w hw8 => ?_⟩
        have hne : b' * W + j ≠ b * W + (8 * tr + i) := fun e => hbb (by rw [← (in_band hb' hj).2, e, hib.2])
        show va_cpy (q_j ux 1) (q_j ux 0) 0 ((b * W + (8 * tr + i)) * 8) 8 ((b' * W + j) * 8 + w) = va_cpy (q_j ux 1) (q_j ux 0) 0 ((b * W + (8 * tr + i)) * 8) 8 ((Ls + j) * 8 + w)
        rw [va8_ne _ _ _ hw8 hne, va8_ne _ _ _ hw8 (by omega)]
        exact r2 w hw8
    · exact va8_ne _ _ _ hw8 (by omega)
    · have := va8_at (q_j ux 1) (q_j ux 0) 0 (b * W + (8 * tr + i)) w hw8
      rw [Nat.zero_add] at this
      exact this
