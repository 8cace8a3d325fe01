/-! ===== the class begins a NODE, adds a SLOT ===== -/
def bgW (k w m one : Nat) : Int64 := (Int32.toInt64 ((nI k ||| (nI w <<< (8 &&& 31))) ||| (nI m <<< (16 &&& 31)))) ||| (q_lshl (Int32.toInt64 (nI one)) 24)
theorem bg_u : ∀ (k : Fin 5) (w : Fin 16) (m : Fin 64), uN (bgW k.1 w.1 m.1 1) = k.1 + 256 * w.1 + 65536 * m.1 + 16777216 ∧ uN (bgW k.1 w.1 m.1 0) = k.1 + 256 * w.1 + 65536 * m.1 := by decide +kernel
theorem x_begin {B T S C W Ls na hb n k w m : Nat} {um : q_St} {D K : Nat → Nat → Int64} {dd : Nat → Bool} {L : Nat → Nat} {N : Nat} {ux : q_St} (g : Geo B T S C W Ls) (gl : gL B C W Ls L) (hN : 300 ≤ N) (hna : na = 80 + (Ls + 511) / 512) (s : XS B T S C W Ls hb um D K dd ux) (hn : n < 64) (hk : k ≤ 4) : ∃ vx, fX4_begin L N (nI n) (nI k) (nI w) (nI m) ux = some ((), vx) ∧ XS B T S C W Ls hb um D (setW (updD K (na + n) (fun _ => 0)) (na + n) 0 (bgW k w m (if k = 1 ∨ k = 3 then 1 else 0))) (setb dd (na + n) true) vx := by
  have hl := g.l
  have e30 : q_i ux 30 = nI na := by rw [s.1.gx.2.2.2.2.2.2.2.2.2.2.2.1, hna]
  obtain ⟨u1, a1, a2⟩ := x_clear (N := N) g gl hN s (x := na + n) (by omega)
  have e31 : q_i u1 30 = nI na := by rw [a2.1.gx.2.2.2.2.2.2.2.2.2.2.2.1, hna]
  obtain ⟨u2, b1, b2⟩ := x_setWord (N := N) (v := bgW k w m (if k = 1 ∨ k = 3 then 1 else 0)) g gl a2 (x := na + n) (w := 0) (by omega) (by omega)
  rw [setb_id setb_s] at b2
  refine ⟨u2, ?_, b2⟩
  have core : ∀ one : Nat, one = (if k = 1 ∨ k = 3 then 1 else 0) → fX4_begin_b15 L N (nI n) (nI k) (nI w) (nI m) (nI one) ux = some ((), u2) := by
    intro one h1
    have b1' : fX6_setWord L N (nI (na + n)) 0 (bgW k w m one) u1 = some ((), u2) := by rw [h1]; exact b1
    unfold fX4_begin_b15
    rw [e30, nI_add, a1, qb_s, e31, nI_add]
    unfold bgW at b1'
    rw [b1', qb_s]
  unfold fX4_begin fX4_begin_b10
  by_cases c1 : k = 1
  · rw [if_pos (by rw [c1]; rfl)]
    exact core 1 (by rw [if_pos (Or.inl c1)])
  · rw [if_neg (show ¬ nI k = 1 from nI_k (b := 1) hk (by decide) c1)]
    by_cases c3 : k = 3
    · rw [if_pos (by rw [c3]; rfl)]
      exact core 1 (by rw [if_pos (Or.inr c3)])
    · rw [if_neg (show ¬ nI k = 3 from nI_k (b := 3) hk (by decide) c3)]
      exact core 0 (by rw [if_neg (by omega)])
/-- a DIRECTORY as the class holds it -/
def DirR (Ls na d : Nat) (A : Nat → Nat → Nat) (nm : Nat → Int64) (K : Nat → Nat → Int64) : Prop := (d < 64 ∧ A 8 d ≤ 12) ∧ (∀ k, k < 12 → sH (K (na + d)) (4 + k) = if k < A 8 d then A 13 (12 * d + k) else 0) ∧ (∀ i, i < A 8 d → (na + 64 ≤ A 13 (12 * d + i) ∧ A 13 (12 * d + i) < Ls) ∧ ∀ s, s < 4 → (A 14 (48 * d + (4 * i + s)) = 0 → K (A 13 (12 * d + i)) s = 0) ∧ (A 14 (48 * d + (4 * i + s)) ≠ 0 → K (A 13 (12 * d + i)) s = nm (48 * d + (4 * i + s)) ∧ nm (48 * d + (4 * i + s)) ≠ 0))
theorem Xr.dir {B T S C W Ls na hb : Nat} {um : q_St} {D K : Nat → Nat → Int64} {dd : Nat → Bool} {A : Nat → Nat → Nat} {nm : Nat → Int64} {L : Nat → Nat} {ux : q_St} (x : Xr B T S C W Ls na hb um D K dd A nm L ux) {d : Nat} (hd : d < 64) (hk : A 5 d = 2) : DirR Ls na d A nm K := by
  refine ⟨⟨hd, x.t8 hd⟩, ((x.2.2.1.2.1 d hd).2.2.1 hk).1, fun i hi => ?_⟩
  obtain ⟨h1, h2⟩ := dirB x hd hk hi
  exact ⟨⟨h1.1, h1.2.1⟩, fun s hs => ⟨(h2 s hs).1, fun z => ⟨((h2 s hs).2 z).1, ((h2 s hs).2 z).2.2⟩⟩⟩
theorem DirR_K {Ls na d : Nat} {A : Nat → Nat → Nat} {nm : Nat → Int64} {K K2 : Nat → Nat → Int64} (r : DirR Ls na d A nm K) (h : ∀ y w, (y = na + d ∨ na + 64 ≤ y) → K2 y w = K y w) : DirR Ls na d A nm K2 := by
  obtain ⟨r1, r2, r3⟩ := r
  have e : K2 (na + d) = K (na + d) := by funext w; exact h _ _ (Or.inl rfl)
  refine ⟨r1, by rw [e]; exact r2, fun i hi => ?_⟩
  obtain ⟨q1, q2⟩ := r3 i hi
  have e2 : K2 (A 13 (12 * d + i)) = K (A 13 (12 * d + i)) := by funext w; exact h _ _ (Or.inr q1.1)
  rw [e2]
  exact ⟨q1, q2⟩
theorem y_blockAt {B T S C W Ls na hb d i : Nat} {um : q_St} {D K : Nat → Nat → Int64} {dd : Nat → Bool} {A : Nat → Nat → Nat} {nm : Nat → Int64} {L : Nat → Nat} {N : Nat} {ux : q_St} (g : Geo B T S C W Ls) (gl : gL B C W Ls L) (hna : na = 80 + (Ls + 511) / 512) (s : XS B T S C W Ls hb um D K dd ux) (r : DirR Ls na d A nm K) (hi : i < 12) : fX3_blockAt L N (nI d) (nI i) ux = some (nI (if i < A 8 d then A 13 (12 * d + i) else 0), ux) := by
  have hl := g.l
  have hd := r.1.1
  have e30 : q_i ux 30 = nI na := by rw [s.1.gx.2.2.2.2.2.2.2.2.2.2.2.1, hna]
  have h := x_half (N := N) g gl s (x := na + d) (i := 4 + i) (by omega) (by omega)
  unfold fX3_blockAt fX4_sectorOf
  rw [qb_s, e30, nI_add, show (4 : Int32) + nI i = nI (4 + i) from nI_add 4 i, h, qb_s]
  unfold kH
  rw [if_neg (by omega)]
  exact congrArg (fun z => some (nI z, ux)) (r.2.1 i hi)
theorem y_seek0 {B T S C W Ls na hb d : Nat} {um : q_St} {D K : Nat → Nat → Int64} {dd : Nat → Bool} {A : Nat → Nat → Nat} {nm : Nat → Int64} {L : Nat → Nat} {N : Nat} {ux : q_St} (g : Geo B T S C W Ls) (gl : gL B C W Ls L) (hN : 300 ≤ N) (hna : na = 80 + (Ls + 511) / 512) (s : XS B T S C W Ls hb um D K dd ux) (r : DirR Ls na d A nm K) : fX3_seek L N (nI d) 0 ux = some (slX (4 * A 8 d) (fnd (sF A d) (4 * A 8 d) 0), ux) := by
  have hl := g.l
  have hd := r.1.1
  have h8 := r.1.2
  have hP : ∀ i q, i < A 8 d → q < 4 → (K (A 13 (12 * d + i)) q = 0 ↔ sF A d (4 * i + q) = true) := by
    intro i q hi hq
    obtain ⟨h1, h2⟩ := (r.2.2 i hi).2 q hq
    unfold sF
    by_cases c : A 14 (48 * d + (4 * i + q)) = 0
    · rw [h1 c]; simp [c]
    · rw [(h2 c).1]; simp [c, (h2 c).2]
  have inner : ∀ (ih3 : Int32 → Int64 → Int32 → q_St → Option (Int32 × q_St)) (i : Nat), i < A 8 d → ∀ (k q n : Nat), q + k = 4 → k < n → q_lp (fX3_seek_b29 L N ih3) (fun _ _ _ _ _ _ => none) n (nI d) 0 (nI i) (nI (A 13 (12 * d + i))) (nI q) ux = if fnd (sF A d) k (4 * i + q) < 4 * i + 4 then some (nI (fnd (sF A d) k (4 * i + q)), ux) else ih3 (nI d) 0 (nI (i + 1)) ux := by
    intro ih3 i hi k
    have hb1 := (r.2.2 i hi).1
    induction k with
    | zero =>
      intro q n h1 h2
      rw [lp_1 _ _ (by omega), fX3_seek_b29, if_pos (show (4 : Int32) ≤ nI q from nI_le (a := 4) (by omega) (by omega)), qn_s, nI_1, if_neg (show ¬ fnd (sF A d) 0 (4 * i + q) < 4 * i + 4 by show ¬ 4 * i + q < 4 * i + 4; omega)]
    | succ k ih =>
      intro q n h1 h2
      rw [lp_1 _ _ (by omega), fX3_seek_b29, if_neg (show ¬ (4 : Int32) ≤ nI q from nI_ge (a := q) (b := 4) (by omega) (by omega)), x_word g gl s hb1.2 (by omega), qb_s, fnd_1]
      by_cases c : sF A d (4 * i + q) = true
      · rw [if_pos ((lg_cmp_eq _ _).mpr ((hP i q hi (by omega)).mpr c)), if_pos c, if_pos (by omega), show (4 : Int32) * nI i = nI (4 * i) from pk_mul 4 _, nI_add]
      · rw [if_neg (fun z => c ((hP i q hi (by omega)).mp ((lg_cmp_eq _ _).mp z))), if_neg c, qn_s, nI_1, ih (q + 1) (n - 1) (by omega) (by omega)]
        rfl
  have outer : ∀ (k i n : Nat), i + k = 12 → k < n → i ≤ A 8 d → q_lp (fX3_seek_b3 L N) (fun _ _ _ _ => none) n (nI d) 0 (nI i) ux = some (slX (4 * A 8 d) (fnd (sF A d) (4 * A 8 d - 4 * i) (4 * i)), ux) := by
    intro k
    induction k with
    | zero =>
      intro i n h1 h2 h3
      rw [lp_1 _ _ (by omega), fX3_seek_b3, if_pos (show (12 : Int32) ≤ nI i from nI_le (a := 12) (by omega) (by omega))]
      have : 4 * A 8 d - 4 * i = 0 := by omega
      rw [this]
      unfold slX
      rw [if_neg (show ¬ fnd (sF A d) 0 (4 * i) < 4 * A 8 d by show ¬ 4 * i < 4 * A 8 d; omega)]
    | succ k ih =>
      intro i n h1 h2 h3
      rw [lp_1 (fX3_seek_b3 L N) _ (n := n) (by omega), fX3_seek_b3, if_neg (show ¬ (12 : Int32) ≤ nI i from nI_ge (a := i) (b := 12) (by omega) (by omega)), y_blockAt g gl hna s r (by omega), qb_s]
      by_cases c : i < A 8 d
      · have hb1 := (r.2.2 i c).1
        rw [if_pos c, if_neg (nI_ne0 (by omega) (by omega))]
        have inn := inner (q_lp (fX3_seek_b3 L N) (fun _ _ _ _ => none) (n - 1)) i c 4 0 N (by omega) (by omega)
        have inn : q_lp (fX3_seek_b29 L N (q_lp (fX3_seek_b3 L N) (fun _ _ _ _ => none) (n - 1))) (fun _ _ _ _ _ _ => none) N (nI d) 0 (nI i) (nI (A 13 (12 * d + i))) 0 ux = _ := inn
        rw [inn]
        have hs : 4 * A 8 d - 4 * i = 4 + (4 * A 8 d - 4 * (i + 1)) := by omega
        have hf := fnd_in (sF A d) 4 (4 * i)
        rw [hs, fnd_add, Nat.add_zero]
        by_cases c2 : fnd (sF A d) 4 (4 * i) < 4 * i + 4
        · rw [if_pos c2, if_pos c2]
          unfold slX
          rw [if_pos (by omega)]
        · rw [if_neg c2, if_neg c2, ih (i + 1) (n - 1) (by omega) (by omega) (by omega)]
          rfl
      · have e : 4 * A 8 d - 4 * i = 0 := by omega
        rw [if_neg c, if_pos (show nI 0 = (0 : Int32) from rfl), e]
        unfold slX
        rw [if_neg (show ¬ fnd (sF A d) 0 (4 * i) < 4 * A 8 d by show ¬ 4 * i < 4 * A 8 d; omega)]
  unfold fX3_seek
  exact outer 12 0 N (by omega) (by omega) (Nat.zero_le _)
theorem y_fillSlot {B T S C W Ls hb x q nd : Nat} {um : q_St} {D K : Nat → Nat → Int64} {dd : Nat → Bool} {L : Nat → Nat} {N : Nat} {ux : q_St} {v : Int64} (g : Geo B T S C W Ls) (gl : gL B C W Ls L) (s : XS B T S C W Ls hb um D K dd ux) (hx : x < Ls) (hq : q < 4) : ∃ vx, fX3_fillSlot L N (nI x) (nI q) v (nI nd) ux = some ((), vx) ∧ XS B T S C W Ls hb um D (fsK K x q v nd) (setb dd x true) vx := by
  obtain ⟨u1, a1, a2⟩ := x_setWord (N := N) (v := v) g gl s hx (show q < 8 by omega)
  obtain ⟨u2, b1, b2⟩ := x_setHalf (N := N) (n := nd) g gl a2 hx (show 16 + q < 32 by omega)
  rw [setb_id setb_s] at b2
  refine ⟨u2, ?_, b2⟩
  unfold fX3_fillSlot
  rw [a1, qb_s, show (16 : Int32) + nI q = nI (16 + q) from nI_add 16 q, b1, qb_s]
/-- a SLOT is free -/
theorem y_addF {B T S C W Ls na hb d f nd : Nat} {um : q_St} {D K : Nat → Nat → Int64} {dd : Nat → Bool} {A : Nat → Nat → Nat} {nm : Nat → Int64} {L : Nat → Nat} {N : Nat} {ux : q_St} {v : Int64} (g : Geo B T S C W Ls) (gl : gL B C W Ls L) (hN : 300 ≤ N) (hna : na = 80 + (Ls + 511) / 512) (s : XS B T S C W Ls hb um D K dd ux) (r : DirR Ls na d A nm K) (hf : fnd (sF A d) (4 * A 8 d) 0 = f) (hfm : f < 4 * A 8 d) : ∃ vx, fX3_add L N (nI d) v (nI nd) ux = some ((), vx) ∧ XS B T S C W Ls hb um D (fsK K (A 13 (12 * d + f / 4)) (f % 4) v nd) (setb dd (A 13 (12 * d + f / 4)) true) vx := by
  have hl := g.l
  have h8 := r.1.2
  have hb1 := (r.2.2 (f / 4) (by omega)).1
  obtain ⟨vx, a1, a2⟩ := y_fillSlot (N := N) (v := v) (nd := nd) g gl s hb1.2 (show f % 4 < 4 by omega)
  refine ⟨vx, ?_, a2⟩
  unfold fX3_add
  rw [y_seek0 g gl hN hna s r, qb_s, hf]
  unfold slX
  rw [if_pos hfm, if_neg (m1_ne f (by omega)), show nI f / (4 : Int32) = nI (f / 4) from pk_div (d := 4) (by omega) (by decide) (by decide), y_blockAt g gl hna s r (by omega), qb_s, if_pos (by omega), show nI (f / 4) * (4 : Int32) = nI (f / 4 * 4) from pk_mul _ 4, pk_sub (by omega), show f - f / 4 * 4 = f % 4 by omega, a1, qb_s]
/-- no SLOT is free: a BLOCK more -/
theorem y_addN {B T S C W Ls na hb d y nd : Nat} {um : q_St} {D K : Nat → Nat → Int64} {dd : Nat → Bool} {A : Nat → Nat → Nat} {nm : Nat → Int64} {L : Nat → Nat} {N : Nat} {ux : q_St} {v : Int64} (g : Geo B T S C W Ls) (gl : gL B C W Ls L) (hN : 300 ≤ N) (hna : na = 80 + (Ls + 511) / 512) (s : XS B T S C W Ls hb um D K dd ux) (r : DirR Ls na d A nm K) (hno : fnd (sF A d) (4 * A 8 d) 0 = 4 * A 8 d) (h8 : A 8 d < 12) (mm : mMap Ls A K) (h17 : ∀ x, A 17 x ≤ 1) (hyL : y < Ls) (hy0 : A 17 y = 0) (hlo : ∀ x, x < y → A 17 x = 1) :
    ∃ vx w, fX3_add L N (nI d) v (nI nd) ux = some ((), vx) ∧ XS B T S C W Ls hb um D (fsK (setH (updD (setW K (80 + y / 512) (y % 512 / 64) w) y (fun _ => 0)) (na + d) (4 + A 8 d) y) y 0 v nd) (setb (setb (setb (setb dd (80 + y / 512) true) y true) (na + d) true) y true) vx ∧ ∀ i, i < 64 → bt w i = if i = y % 64 then true else bt (K (80 + y / 512) (y % 512 / 64)) i := by
  have hl := g.l
  have hd := r.1.1
  obtain ⟨u1, w, a1, a2, a3⟩ := x_takeBlank (N := N) g gl hN s mm h17 hyL hy0 hlo
  obtain ⟨u2, b1, b2⟩ := x_setHalf (N := N) (n := y) g gl a2 (x := na + d) (i := 4 + A 8 d) (by omega) (by omega)
  obtain ⟨u3, c1, c2⟩ := y_fillSlot (N := N) (v := v) (nd := nd) g gl b2 hyL (show 0 < 4 by decide)
  refine ⟨u3, w, ?_, c2, a3⟩
  have e30 : q_i u1 30 = nI na := by rw [a2.1.gx.2.2.2.2.2.2.2.2.2.2.2.1, hna]
  have c1 : fX3_fillSlot L N (nI y) 0 v (nI nd) u2 = some ((), u3) := c1
  have key : ∀ (k i n : Nat), i + k = A 8 d → k < n → q_lp (fX3_add_b38 L N) (fun _ _ _ _ _ => none) n (nI d) v (nI nd) (nI i) ux = some ((), u3) := by
    intro k
    induction k with
    | zero =>
      intro i n h1 h2
      have : i = A 8 d := by omega
      subst this
      rw [lp_1 _ _ (by omega), fX3_add_b38, if_neg (show ¬ (12 : Int32) ≤ nI (A 8 d) from nI_ge (a := A 8 d) (b := 12) (by omega) (by omega)), y_blockAt g gl hna s r (by omega), qb_s, show (if A 8 d < A 8 d then A 13 (12 * d + A 8 d) else 0) = 0 from if_neg (by omega), if_pos (show nI 0 = (0 : Int32) from rfl), a1, qb_s]
      unfold fX4_sectorOf
      rw [qb_s, e30, nI_add, show (4 : Int32) + nI (A 8 d) = nI (4 + A 8 d) from nI_add 4 _, b1, qb_s, c1, qb_s]
    | succ k ih =>
      intro i n h1 h2
      have hb1 := (r.2.2 i (by omega)).1
      rw [lp_1 _ _ (by omega), fX3_add_b38, if_neg (show ¬ (12 : Int32) ≤ nI i from nI_ge (a := i) (b := 12) (by omega) (by omega)), y_blockAt g gl hna s r (by omega), qb_s, show (if i < A 8 d then A 13 (12 * d + i) else 0) = A 13 (12 * d + i) from if_pos (by omega), if_neg (nI_ne0 (by omega) (by omega)), qn_s, nI_1]
      exact ih (i + 1) (n - 1) (by omega) (by omega)
  unfold fX3_add
  rw [y_seek0 g gl hN hna s r, qb_s, hno]
  rw [if_pos ((slX_no (by omega)).mpr (by omega))]
  exact key (A 8 d) 0 N (by omega) (by omega)
