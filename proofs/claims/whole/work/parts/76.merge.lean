/-! ===== one sector into SCRATCH (MERGE), in both ===== -/
theorem hom_f {W Ls b lim tr x : Nat} : hom W Ls (some (b, lim, false, tr)) x = x := rfl
theorem spt_lt {B T S C W Ls h t : Nat} {cl : Cl} {um : q_St} (g : Geo B T S C W Ls) {x : Nat} (hx : x < Ls) : spt C W Ls t cl um x < Ls + W + C := by
  have hw := g.w
  obtain ⟨a, b, c, d, e, f⟩ := id g
  have h1 := Nat.mod_lt (lat um x) (show 0 < C by omega)
  have h2 := Nat.mod_lt x (show 0 < W by omega)
  unfold spt
  split
  · omega
  · unfold hom
    split
    · split <;> omega
    · omega
theorem spt_f {C W Ls t b lim tr x : Nat} {um : q_St} (hx : x < Ls) : spt C W Ls t (some (b, lim, false, tr)) um x < Ls ∨ Ls + W ≤ spt C W Ls t (some (b, lim, false, tr)) um x := by
  unfold spt
  split
  · right; omega
  · left; exact hx
theorem in_band {B W b i : Nat} (hb : b < B) (hi : i < W) : b * W + i < B * W ∧ (b * W + i) / W = b := by
  have h1 : (b + 1) * W ≤ B * W := Nat.mul_le_mul_right _ hb
  have h2 : (b + 1) * W = b * W + W := by rw [Nat.add_mul, Nat.one_mul]
  refine ⟨by omega, ?_⟩
  rw [Nat.mul_comm, Nat.mul_add_div (by omega), Nat.div_eq_of_lt hi]
  rfl
theorem l_merge1 {B T S C W Ls h t b lim tr i : Nat} {sm : Option Nat} {L : Nat → Nat} {N : Nat} {ux um : q_St} (g : Geo B T S C W Ls) (gl : gL B C W Ls L) (hN : 300 ≤ N) (ht : tr < T) (hi : i < 8) (v : vU B T S C W Ls h t (some (b, lim, false, tr)) sm (8 * tr + i) ux um) :
    (∃ vx vm, fX2_writeShingle_12 L N (nI (Ls + (8 * tr + i))) (nI (spt C W Ls t (some (b, lim, false, tr)) um (b * W + (8 * tr + i)) * 8)) ux = some (0, vx) ∧ fX11_writeScratch N (nI tr) (nI i) um = some (0, vm) ∧ vU B T S C W Ls h t (some (b, lim, false, tr)) sm (8 * tr) vx vm ∧ q_i vx 7 = 0 ∧ q_a vm 4 = q_a um 4 ∧ ∀ x w, x < Ls → w < 8 → dsk C W Ls t (some (b, lim, false, tr)) vx vm x w = dsk C W Ls t (some (b, lim, false, tr)) ux um x w) ∨
    (∃ vx vm, fX2_writeShingle_12 L N (nI (Ls + (8 * tr + i))) (nI (spt C W Ls t (some (b, lim, false, tr)) um (b * W + (8 * tr + i)) * 8)) ux = some (1, vx) ∧ fX11_writeScratch N (nI tr) (nI i) um = some (1, vm) ∧ vU B T S C W Ls h t (some (b, lim, false, tr)) sm (8 * tr + (i + 1)) vx vm ∧ q_i vx 7 = q_i ux 7 ∧ q_a vm 4 = q_a um 4 ∧ ∀ x w, x < Ls → w < 8 → dsk C W Ls t (some (b, lim, false, tr)) vx vm x w = dsk C W Ls t (some (b, lim, false, tr)) ux um x w) := by
  have hw := g.w
  have hl := g.l
  obtain ⟨a1, a2, a3, a4, a5, a6⟩ := id g
  obtain ⟨⟨gx, gm⟩, vw, vr, cr, lr, kr, vc, e1, e2, e3, e4⟩ := id v
  have hb : b < B := e3 b lim false tr rfl
  have hi0 : 8 * tr + i < W := by omega
  have hx0 : b * W + (8 * tr + i) < Ls := by rw [a6]; exact (in_band hb hi0).1
  have hs := spt_lt (h := h) (t := t) (cl := some (b, lim, false, tr)) (um := um) g hx0
  have hX := x_shingle12 (N := N) g gl gx hN (x := Ls + (8 * tr + i)) (at_ := spt C W Ls t (some (b, lim, false, tr)) um (b * W + (8 * tr + i)) * 8) (by omega) (by omega)
  have hM := m_writeScratch (N := N) g gm hN ht hi
  have hls8 : Ls = 8 * (B * T) := by rw [a6, a5, Nat.mul_left_comm]
  have keepX : ∀ (bad : Int32) (j : Nat), j < Ls → shl W S (q_a ux 0) (Ls + (8 * tr + i)) bad j = q_a ux 0 j := fun bad j hj => shl_keep (by omega) (by omega)
  have keepS : ∀ (bad : Int32) (j : Nat), j < 8 * tr + i → shl W S (q_a ux 0) (Ls + (8 * tr + i)) bad (Ls + j) = q_a ux 0 (Ls + j) := fun bad j hj => shl_keep (by omega) (by omega)
  have scr : ∀ (bad : Int32) (j : Nat), j < W → shl W S (q_a ux 0) (Ls + (8 * tr + i)) bad (Ls + j) = shl W S (q_a um 1) (8 * tr + i) bad j := fun bad => shl_scr g hi0 lr.2
  rcases l_spend (L := L) (N := N) cr.2.1 with ⟨s1, s2⟩ | ⟨c, s1, s2⟩
  · left
    refine ⟨_, _, hX.1 s1, hM.1 s2, ⟨⟨gx, gm⟩, vw, vr, ?_, ⟨?_, ?_⟩, ?_, ⟨?_, ?_⟩, e1, e2, e3, e4⟩, rfl, rfl, fun x w hx hw8 => rfl⟩
    · exact ⟨rfl, rfl, cr.2.2.1, cr.2.2.2.1, cr.2.2.2.2.1, cr.2.2.2.2.2.1, cr.2.2.2.2.2.2.1, cr.2.2.2.2.2.2.2.1, cr.2.2.2.2.2.2.2.2⟩
    · intro x hx
      exact (keepX 1 x hx).trans (lr.1 x hx)
    · exact scr 1
    · exact kr
    · intro x hx h1 h2
      exact (keepX 1 x hx).trans (vc.1 x hx h1 h2)
    · intro b' lim' sf tr' he
      cases he
      obtain ⟨q1, q2, q3, q4⟩ := vc.2 b lim false tr rfl
      refine ⟨q1, q2, fun j hj hp => ?_, fun h => absurd h (by decide)⟩
      have hj2 : j < 8 * tr := by
        rcases hp with hp | hp
        · exact absurd hp (by decide)
        · exact hp
      obtain ⟨r1, r2⟩ := q3 j hj (Or.inr (by omega))
      exact ⟨(keepS 1 j (by omega)).trans r1, r2⟩
  · right
    have hX2 := hX.2 c s1
    rw [if_neg (by omega)] at hX2
    have dk : ∀ x w, x < Ls → w < 8 → cpy8 (q_j ux 0) (spt C W Ls t (some (b, lim, false, tr)) um (b * W + (8 * tr + i)) * 8) ((Ls + (8 * tr + i)) * 8) (spt C W Ls t (some (b, lim, false, tr)) um x * 8 + w) = q_j ux 0 (spt C W Ls t (some (b, lim, false, tr)) um x * 8 + w) := by
      intro x w hx hw8
      have := spt_f (C := C) (W := W) (t := t) (b := b) (lim := lim) (tr := tr) (um := um) hx
      exact cpy8_ne _ _ hw8 (by omega)
    refine ⟨_, _, hX2, hM.2 c s2, ⟨⟨gx, gm⟩, vw, vr, ?_, ⟨?_, ?_⟩, ?_, ⟨?_, ?_⟩, e1, e2, e3, e4⟩, rfl, rfl, fun x w hx hw8 => dk x w hx hw8⟩
    · refine ⟨cr.1, rfl, cr.2.2.1, cr.2.2.2.1, ?_, cr.2.2.2.2.2.1, cr.2.2.2.2.2.2.1, cr.2.2.2.2.2.2.2.1, cr.2.2.2.2.2.2.2.2⟩
      show q_i ux 11 + 1 = q_i um 13 + 1
      rw [cr.2.2.2.2.1]
    · intro x hx
      exact (keepX 0 x hx).trans (lr.1 x hx)
    · exact scr 0
    · exact kr
    · intro x hx h1 h2
      exact (keepX 0 x hx).trans (vc.1 x hx h1 h2)
    · intro b' lim' sf tr' he
      cases he
      obtain ⟨q1, q2, q3, q4⟩ := vc.2 b lim false tr rfl
      refine ⟨q1, q2, fun j hj hp => ?_, fun h => absurd h (by decide)⟩
      have hj2 : j < 8 * tr + (i + 1) := by
        rcases hp with hp | hp
        · exact absurd hp (by decide)
        · exact hp
      by_cases hji : j = 8 * tr + i
      · subst hji
        refine ⟨shl_at _ _ _ _ _, fun _ w hw8 => ?_⟩
        show cpy8 (q_j ux 0) _ ((Ls + (8 * tr + i)) * 8) ((Ls + (8 * tr + i)) * 8 + w) = cpy8 (q_j ux 0) _ ((Ls + (8 * tr + i)) * 8) (spt C W Ls t (some (b, lim, false, tr)) um (b * W + (8 * tr + i)) * 8 + w)
        rw [cpy8_at _ _ _ _ hw8, dk _ w hx0 hw8]
      · obtain ⟨r1, r2⟩ := q3 j hj (Or.inr (by omega))
        refine ⟨(keepS 0 j (by omega)).trans r1, fun hlt w hw8 => ?_⟩
        have hxj : b * W + j < Ls := by rw [a6]; exact (in_band hb hj).1
        show cpy8 (q_j ux 0) _ ((Ls + (8 * tr + i)) * 8) ((Ls + j) * 8 + w) = cpy8 (q_j ux 0) _ ((Ls + (8 * tr + i)) * 8) (spt C W Ls t (some (b, lim, false, tr)) um (b * W + j) * 8 + w)
        rw [dk _ w hxj hw8, cpy8_ne _ _ hw8 (by omega)]
        exact r2 hlt w hw8
