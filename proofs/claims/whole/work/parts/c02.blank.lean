/-! ===== the lowest free BLOCK is taken: the class ===== -/
/-- the lowest free BLOCK is taken: the class -/
def fre (A : Nat → Nat → Nat) (x : Nat) : Bool := decide (A 17 x = 0)
def tbS (L : Nat → Nat) (N Ls : Nat) (ih2 : Int32 → q_St → Option (Int32 × q_St)) (w : Int64) (i : Nat) (ux : q_St) : Option (Int32 × q_St) :=
  if lg_cmp (w ^^^ (-1)) 0 = 0 then fX5_takeBlank_b106 L N ih2 (nI i) ux
  else if nI Ls ≤ nI (64 * i + popN (((w ^^^ (-1)) &&& (-(w ^^^ (-1)))) - 1)) then fX5_takeBlank_b106 L N ih2 (nI i) ux
  else q_bnd (fX6_setWord L N (nI (80 + i / 8)) (nI (i % 8)) (((w ^^^ (-1)) ^^^ (-1)) ||| ((w ^^^ (-1)) &&& (-(w ^^^ (-1))))) ux) (fun _ u12 => q_bnd (fX6_clear L N (nI (64 * i + popN (((w ^^^ (-1)) &&& (-(w ^^^ (-1)))) - 1))) u12) (fun _ u15 => some (nI (64 * i + popN (((w ^^^ (-1)) &&& (-(w ^^^ (-1)))) - 1)), u15)))
theorem x_takeBlank {B T S C W Ls hb : Nat} {um : q_St} {D K : Nat → Nat → Int64} {dd : Nat → Bool} {A : Nat → Nat → Nat} {L : Nat → Nat} {N : Nat} {ux : q_St} (g : Geo B T S C W Ls) (gl : gL B C W Ls L) (hN : 300 ≤ N) (s : XS B T S C W Ls hb um D K dd ux) (mm : mMap Ls A K) (h17 : ∀ x, A 17 x ≤ 1) {f : Nat} (hf : f < Ls) (h0 : A 17 f = 0) (hlo : ∀ x, x < f → A 17 x = 1) :
    ∃ vx v, fX5_takeBlank L N ux = some (nI f, vx) ∧ XS B T S C W Ls hb um D (updD (setW K (80 + f / 512) (f % 512 / 64) v) f (fun _ => 0)) (setb (setb dd (80 + f / 512) true) f true) vx ∧ ∀ i, i < 64 → bt v i = if i = f % 64 then true else bt (K (80 + f / 512) (f % 512 / 64)) i := by
  have hl := g.l
  have gx := s.1.gx
  have step : ∀ i, i < (Ls + 63) / 64 → ∀ (ih2 : Int32 → q_St → Option (Int32 × q_St)), fX5_takeBlank_b2 L N ih2 (nI i) ux = tbS L N Ls ih2 (K (80 + i / 8) (i % 8)) i ux := by
    intro i hi ih2
    unfold tbS
    rw [fX5_takeBlank_b2, gx.2.2.2.2.2.2.2.2.1, if_neg (nI_ge (by omega) (by omega)), show nI i / (8 : Int32) = nI (i / 8) from pk_div (d := 8) (by omega) (by decide) (by decide), show (80 : Int32) + nI (i / 8) = nI (80 + i / 8) from nI_add 80 _, show nI (i / 8) * (8 : Int32) = nI (i / 8 * 8) from pk_mul _ 8, pk_sub (by omega), show i - i / 8 * 8 = i % 8 by omega, x_word g gl s (by omega) (by omega), qb_s, qn_s, qn_s, x_bitCount, qb_s, qn_s, show (64 : Int32) * nI i = nI (64 * i) from pk_mul 64 _, nI_add, gx.2.2.2.2.2.2.1]
  have wbit : ∀ i j, i < (Ls + 63) / 64 → j < 64 → bt (K (80 + i / 8) (i % 8)) j = (decide (64 * i + j < Ls) && decide (A 17 (64 * i + j) = 1)) := by
    intro i j hi hj
    have := mm (64 * i + j) (by omega)
    rw [show (64 * i + j) / 512 = i / 8 by omega, show (64 * i + j) % 512 / 64 = i % 8 by omega, show (64 * i + j) % 64 = j by omega] at this
    exact this
  have key : ∀ (k i n : Nat), i + k = f / 64 → k < n → q_lp (fX5_takeBlank_b2 L N) (fun _ _ => none) n (nI i) ux = q_lp (fX5_takeBlank_b2 L N) (fun _ _ => none) (n - k) (nI (f / 64)) ux := by
    intro k
    induction k with
    | zero =>
      intro i n h1 h2
      rw [show i = f / 64 by omega]
      rfl
    | succ k ih =>
      intro i n h1 h2
      have hz : (K (80 + i / 8) (i % 8)) ^^^ (-1) = 0 := by
        refine bt_ext (fun j hj => ?_)
        have h1 := hlo (64 * i + j) (by omega)
        have h2 : 64 * i + j < Ls := by omega
        rw [bt_not _ hj, wbit i j (by omega) hj, h1]
        unfold bt
        rw [uN_0, Nat.zero_testBit]
        simp [h2]
      rw [lp_1 (fX5_takeBlank_b2 L N) _ (n := n) (by omega), step i (by omega), tbS, if_pos ((lg_cmp_eq _ _).mpr hz)]
      unfold fX5_takeBlank_b106
      rw [qn_s, nI_1, ih (i + 1) (n - 1) (by omega) (by omega), show n - 1 - k = n - (k + 1) by omega]
  have hi : f / 64 < (Ls + 63) / 64 := by omega
  have hfm : 64 * (f / 64) + f % 64 = f := by omega
  obtain ⟨v4, hv4⟩ : ∃ q, q = (K (80 + f / 64 / 8) (f / 64 % 8)) ^^^ (-1) := ⟨_, rfl⟩
  have b4 : ∀ j, j < 64 → bt v4 j = !(decide (64 * (f / 64) + j < Ls) && decide (A 17 (64 * (f / 64) + j) = 1)) := by
    intro j hj
    rw [hv4, bt_not _ hj, wbit _ j hi hj]
  have hlow : uN (v4 &&& (-v4)) = 2 ^ (f % 64) := by
    refine low1 (by omega) ?_ (fun i hi2 => ?_)
    · rw [b4 _ (by omega), hfm, h0]
      simp
    · have h1 := hlo (64 * (f / 64) + i) (by omega)
      have h2 : 64 * (f / 64) + i < Ls := by omega
      rw [b4 _ (by omega), h1]
      simp [h2]
  have hpop : popN ((v4 &&& (-v4)) - 1) = f % 64 := pop_low (by omega) hlow
  have hne : ¬ v4 = 0 := by
    intro z
    have : bt v4 (f % 64) = true := by
      rw [b4 _ (by omega), hfm, h0]
      simp
    rw [z] at this
    unfold bt at this
    rw [uN_0, Nat.zero_testBit] at this
    cases this
  obtain ⟨vx, f1, f2⟩ := x_setWord (N := N) (v := (v4 ^^^ (-1)) ||| (v4 &&& (-v4))) g gl s (x := 80 + f / 64 / 8) (w := f / 64 % 8) (by omega) (by omega)
  obtain ⟨wx, g1, g2⟩ := x_clear (N := N) g gl hN f2 hf
  rw [show f / 64 / 8 = f / 512 by omega, show f / 64 % 8 = f % 512 / 64 by omega] at hv4 f1 f2 g2
  refine ⟨wx, (v4 ^^^ (-1)) ||| (v4 &&& (-v4)), ?_, g2, fun i hi2 => ?_⟩
  · unfold fX5_takeBlank
    have k0 : q_lp (fX5_takeBlank_b2 L N) (fun _ _ => none) N 0 ux = q_lp (fX5_takeBlank_b2 L N) (fun _ _ => none) (N - f / 64) (nI (f / 64)) ux := key (f / 64) 0 N (by omega) (by omega)
    rw [k0, lp_1 (fX5_takeBlank_b2 L N) _ (n := N - f / 64) (by omega), step _ hi, tbS]
    rw [show f / 64 / 8 = f / 512 by omega, show f / 64 % 8 = f % 512 / 64 by omega, ← hv4, if_neg (fun z => hne ((lg_cmp_eq _ _).mp z)), hpop, hfm, if_neg (nI_ge hf (by omega)), f1, qb_s, g1, qb_s]
  · rw [bt_or, bt_not _ hi2]
    have e1 : bt (v4 &&& (-v4)) i = decide (i = f % 64) := by unfold bt; rw [hlow, pow_bit]
    have e2 : bt v4 i = !bt (K (80 + f / 512) (f % 512 / 64)) i := by rw [hv4, bt_not _ hi2]
    rw [e1, e2]
    by_cases c : i = f % 64
    · simp [c]
    · simp [c]
