/-! ===== the class gives back the SECTORS of a FILE from a PIECE on ===== -/
theorem x_gbI {B T S C W Ls na hb n r0 sct h a : Nat} {um : q_St} {D K K1 : Nat → Nat → Int64} {dd dd1 P : Nat → Bool} {A : Nat → Nat → Nat} {L : Nat → Nat} {N : Nat} {ux : q_St} {f : Int32} (g : Geo B T S C W Ls) (gl : gL B C W Ls L) (hna : na = 80 + (Ls + 511) / 512) (hN : 300 ≤ N) (t3 : TW3 W Ls (na + 64) A) (hn : n < 64) (h1 : A 5 n = 1) (s : XS B T S C W Ls hb um D K1 dd1 ux) (b : GB A W na n Ls P K K1 dd dd1) (hr0 : r0 = 1068 ∨ (1070 ≤ r0 ∧ r0 < 1102)) (hP0 : P r0 = false) (hal : own r0 = true ∨ (tl A W n (trl r0) ≠ 0 ∧ P (trl r0) = false)) (hs : tel A W na n r0 = sct) (hh : hpl r0 = h) (fr : Nat → Nat) (hfr : ∀ j, j < 32 → ¬ own (fr j) = true ∧ trl (fr j) = r0 ∧ hpl (fr j) = j ∧ fr j < 1068) (hPc : ∀ j, j < 32 → P (fr j) = false) (hf : q_max f 0 = nI a) (h32 : f < 32 ↔ a < 32) :
    ∃ u K2 dd2 P2 c, fX0_giveBackIndex L N (nI sct) (nI h) f ux = some (nI c, u) ∧ XS B T S C W Ls hb um D K2 dd2 u ∧ GB A W na n Ls P2 K K2 dd dd2 ∧ (∀ r, P2 r = true ↔ P r = true ∨ (tl A W n r0 ≠ 0 ∧ ((∃ j, a ≤ j ∧ j < 32 ∧ r = fr j ∧ tl A W n r ≠ 0) ∨ (r = r0 ∧ a < 32 ∧ ∀ j, j < a → tl A W n (fr j) = 0)))) ∧ cnt P2 1400 = cnt P 1400 + c ∧ c ≤ 33 ∧ Fr [13, 22] [5] [2] ux u := by
  have hl := g.l
  have hrk : rk A n r0 := Or.inl ⟨h1, by omega⟩
  have hsct : sct ≠ 0 ∧ sct < Ls := by
    rw [← hs]
    unfold tel
    by_cases c : own r0 = true
    · rw [if_pos c]; omega
    · rw [if_neg c]
      rcases hal with z | ⟨z1, z2⟩
      · exact absurd z c
      · have := t3.2.1 n (trl r0) hn z1
        omega
  have val := b.2.2.1 r0 hrk hal
  rw [hs, hh, hP0, if_neg (by decide)] at val
  have hh32 : h < 32 := by rw [← hh]; exact hpl_lt (by omega)
  unfold fX0_giveBackIndex
  rw [Xs_half g gl s hsct.2 hsct.1 hh32, qb_s, val]
  by_cases c0 : tl A W n r0 = 0
  · rw [c0, if_pos (show nI 0 = (0 : Int32) from rfl)]
    exact ⟨ux, K1, dd1, P, 0, rfl, s, b, fun r => ⟨fun z => Or.inl z, fun z => z.elim id (fun w => absurd rfl w.1)⟩, (Nat.add_zero _).symm, by decide, Fr.rf _ _ _ _⟩
  · have hr := t3.2.1 n r0 hn c0
    rw [if_neg (nI_ne0 (by omega) (by omega))]
    by_cases c32 : a < 32
    · rw [if_pos (h32.mpr c32), hf]
      obtain ⟨u1, K2, dd2, P1, c1, a1, a2, a3, a4, a5, a6, a7⟩ := x_gbT (N := N) (a := a) (b := 32) (P0 := P) (sct := tl A W n r0) (K := K) (dd := dd) (um := um) (D := D) (hb := hb) g gl hna t3 hn fr (by decide) ⟨c0, hr.2.1⟩ (fun q q1 q2 => by
        obtain ⟨z1, z2, z3, z4⟩ := hfr q q2
        refine ⟨Or.inl ⟨h1, by omega⟩, ?_, z3, Or.inr ⟨z4, by rw [z2]; exact c0, by rw [z2]; exact hP0⟩, hPc q q2⟩
        unfold tel
        rw [if_neg z1, z2]) (32 - a) a N 0 P K1 dd1 ux (by omega) (by omega) (by omega) s b (fun r => ⟨fun z => Or.inl z, fun z => z.elim id (fun ⟨q', w1, w2, _⟩ => by omega)⟩) (Nat.add_zero _).symm (by omega)
      have hfi : ∀ j j', j < 32 → j' < 32 → fr j = fr j' → j = j' := by
        intro j j' z1 z2 z3
        have e1 := (hfr j z1).2.2.1
        have e2 := (hfr j' z2).2.2.1
        rw [z3, e2] at e1
        exact e1.symm
      have hP10 : P1 r0 = false := by
        cases hp : P1 r0 with
        | false => rfl
        | true =>
          rcases (a4 r0).mp hp with z | ⟨q', w1, w2, w3, w4⟩
          · rw [hP0] at z; cases z
          · have := (hfr q' w2).2.2.2
            omega
      have hal1 : own r0 = true ∨ (tl A W n (trl r0) ≠ 0 ∧ P1 (trl r0) = false) := by
        by_cases co : own r0 = true
        · exact Or.inl co
        · rcases hal with z | ⟨z1, z2⟩
          · exact Or.inl z
          · refine Or.inr ⟨z1, ?_⟩
            cases hp : P1 (trl r0) with
            | false => rfl
            | true =>
              rcases (a4 _).mp hp with z | ⟨q', w1, w2, w3, w4⟩
              · rw [z2] at z; cases z
              · have h5 := (hfr q' w2).2.2.2
                have h6 := trl_in co
                omega
      have hemp : (∀ j, j < 32 → P1 (fr j) = true ∨ tl A W n (fr j) = 0) ↔ ∀ j, j < a → tl A W n (fr j) = 0 := by
        constructor
        · intro z j hj
          rcases z j (by omega) with w | w
          · rcases (a4 _).mp w with w | ⟨q', w1, w2, w3, w4⟩
            · rw [hPc j (by omega)] at w; cases w
            · have := hfi j q' (by omega) w2 w3
              omega
          · exact w
        · intro z j hj
          by_cases cj : j < a
          · exact Or.inr (z j cj)
          · by_cases ct : tl A W n (fr j) = 0
            · exact Or.inr ct
            · exact Or.inl ((a4 _).mpr (Or.inr ⟨j, by omega, hj, rfl, ct⟩))
      have a1 : fX0_giveBackTold L N (nI (tl A W n r0)) (nI a) 32 ux = some (nI c1, u1) := a1
      rw [a1, qb_s]
      rcases x_gbE (N := N) (r0 := r0) g gl hna hN t3 hn h1 a2 a3 c0 (by omega) hP10 hal1 hs hh fr (fun j hj => ⟨(hfr j hj).1, (hfr j hj).2.1, (hfr j hj).2.2.1, by have := (hfr j hj).2.2.2; omega⟩) with ⟨e1, u2, K3, dd3, e2, e3, e4, e5⟩ | ⟨e1, e2⟩
      · rw [e2, qb_s, nI_1]
        refine ⟨u2, K3, dd3, setb P1 r0 true, c1 + 1, rfl, e3, e4, fun r => ?_, by rw [cnt_set (by omega) hP10, a5]; omega, by omega, a7.trans e5⟩
        rw [sbt, a4 r]
        constructor
        · rintro (z | (z | ⟨q', w1, w2, w3, w4⟩))
          · exact Or.inr ⟨c0, Or.inr ⟨z, c32, hemp.mp e1⟩⟩
          · exact Or.inl z
          · exact Or.inr ⟨c0, Or.inl ⟨q', w1, w2, w3, w4⟩⟩
        · rintro (z | ⟨-, (⟨q', w1, w2, w3, w4⟩ | ⟨z, -, -⟩)⟩)
          · exact Or.inr (Or.inl z)
          · exact Or.inr (Or.inr ⟨q', w1, w2, w3, w4⟩)
          · exact Or.inl z
      · rw [e2, qb_s, i32_add0]
        refine ⟨u1, K2, dd2, P1, c1, rfl, a2, a3, fun r => ?_, a5, by omega, a7⟩
        rw [a4 r]
        constructor
        · rintro (z | ⟨q', w1, w2, w3, w4⟩)
          · exact Or.inl z
          · exact Or.inr ⟨c0, Or.inl ⟨q', w1, w2, w3, w4⟩⟩
        · rintro (z | ⟨-, (⟨q', w1, w2, w3, w4⟩ | ⟨-, -, z⟩)⟩)
          · exact Or.inl z
          · exact Or.inr ⟨q', w1, w2, w3, w4⟩
          · exact absurd (hemp.mpr z) e1
    · rw [if_neg (fun z => c32 (h32.mp z))]
      refine ⟨ux, K1, dd1, P, 0, rfl, s, b, fun r => ⟨fun z => Or.inl z, fun z => z.elim id (fun w => ?_)⟩, (Nat.add_zero _).symm, by decide, Fr.rf _ _ _ _⟩
      rcases w.2 with ⟨j, j1, j2, -⟩ | ⟨-, z, -⟩
      · omega
      · exact absurd z c32
/-- what is given back of a FILE -/
def RI (A : Nat → Nat → Nat) (W n p r : Nat) : Prop := tl A W n r ≠ 0 ∧ ∀ q, 12 ≤ q → q < 1068 → q < p → trl q = r → tl A W n q = 0
def RR (A : Nat → Nat → Nat) (W n p r : Nat) : Prop := (r < 1068 ∧ p ≤ r ∧ tl A W n r ≠ 0) ∨ ((r = 1068 ∨ (1070 ≤ r ∧ r < 1102)) ∧ RI A W n p r) ∨ (r = 1069 ∧ tl A W n 1069 ≠ 0 ∧ ∀ i, i < 32 → tl A W n (1070 + i) ≠ 0 → RI A W n p (1070 + i))
/-- how PIECES and INDEXES of a FILE hang together -/
def FT (A : Nat → Nat → Nat) (W n : Nat) : Prop := (∀ q, 12 ≤ q → q < 1068 → tl A W n q ≠ 0 → tl A W n (trl q) ≠ 0) ∧ (∀ r, (r = 1068 ∨ (1070 ≤ r ∧ r < 1102)) → tl A W n r ≠ 0 → ∃ q, 12 ≤ q ∧ q < 1068 ∧ trl q = r ∧ tl A W n q ≠ 0) ∧ (∀ i, i < 32 → tl A W n (1070 + i) ≠ 0 → tl A W n 1069 ≠ 0) ∧ (tl A W n 1069 ≠ 0 → ∃ i, i < 32 ∧ tl A W n (1070 + i) ≠ 0)
theorem ixo_trl {q : Nat} (h1 : 12 ≤ q) (h2 : q < 1068) : 1068 + ixo q = trl q := by
  unfold ixo trl
  by_cases c : q < 44
  · rw [if_pos c, if_pos c]
  · rw [if_neg c, if_neg c, if_pos h2]
    omega
theorem FT_of {A : Nat → Nat → Nat} {W n : Nat} {pb : Nat → Nat} (t2 : TW2 pb A) (hn : n < 64) (h1 : A 5 n = 1) : FT A W n := by
  obtain ⟨-, q2, q3, q4, q5⟩ := t2.2 n hn h1
  have hp : ∀ q, q < 1068 → tl A W n q = A 9 (1068 * n + q) := fun q hq => tl_p h1 hq
  have hi : ∀ i, i < 34 → tl A W n (1068 + i) = A 10 (34 * n + i) := fun i hi => tl_i h1 hi
  refine ⟨fun q a1 a2 a3 => ?_, fun r a1 a2 => ?_, fun i a1 a2 => ?_, fun a1 => ?_⟩
  · rw [hp q a2] at a3
    have := q2 q a1 a2 a3
    have hx : ixo q < 34 := by unfold ixo; split <;> omega
    rw [← ixo_trl a1 a2, hi _ hx]
    exact this
  · have e : r = 1068 + (r - 1068) := by omega
    rw [e, hi _ (by omega)] at a2
    obtain ⟨q, z1, z2, z3, z4⟩ := q4 (r - 1068) (by omega) (by omega) a2
    exact ⟨q, z1, z2, by rw [← ixo_trl z1 z2, z3]; omega, by rw [hp q z2]; exact z4⟩
  · have e : 1070 + i = 1068 + (2 + i) := by omega
    rw [e, hi _ (by omega)] at a2
    have := q3 (2 + i) (by omega) (by omega) a2
    have e2 := hi 1 (by decide)
    rw [show 1068 + 1 = 1069 by rfl] at e2
    rw [e2]
    exact this
  · have e2 := hi 1 (by decide)
    rw [show 1068 + 1 = 1069 by rfl] at e2
    rw [e2] at a1
    obtain ⟨i, z1, z2, z3⟩ := q5 a1
    refine ⟨i - 2, by omega, ?_⟩
    rw [show 1070 + (i - 2) = 1068 + i by omega, hi i z2]
    exact z3
theorem fmx {x : Int32} {z : Int} (hx : x.toInt = z) (hz : z < 2 ^ 31) : q_max x 0 = nI z.toNat ∧ (x < 32 ↔ z.toNat < 32) := by
  have a0 : (0 : Int32).toInt = 0 := by decide
  have a32 : (32 : Int32).toInt = 32 := by decide
  constructor
  · unfold q_max
    by_cases c : x < 0
    · rw [if_pos c]
      rw [Int32.lt_iff_toInt_lt, hx, a0] at c
      rw [show z.toNat = 0 by omega]
      rfl
    · rw [if_neg c]
      rw [Int32.lt_iff_toInt_lt, hx, a0] at c
      refine Int32.toInt_inj.mp ?_
      rw [nI_toInt (by omega), hx]
      omega
  · rw [Int32.lt_iff_toInt_lt, hx, a32]
    omega
theorem x_gbF {B T S C W Ls na hb n p : Nat} {um : q_St} {D K : Nat → Nat → Int64} {dd : Nat → Bool} {A : Nat → Nat → Nat} {L : Nat → Nat} {N : Nat} {ux : q_St} (g : Geo B T S C W Ls) (gl : gL B C W Ls L) (hna : na = 80 + (Ls + 511) / 512) (hN : 300 ≤ N) (t3 : TW3 W Ls (na + 64) A) (ft : FT A W n) (hn : n < 64) (h1 : A 5 n = 1) (hp : p ≤ 1068) (s : XS B T S C W Ls hb um D K dd ux) (b : GB A W na n Ls (fun _ => false) K K dd dd) :
    ∃ u K2 dd2 P c, fX0_giveBackFrom L N (nI n) (nI p) ux = some (nI c, u) ∧ XS B T S C W Ls hb um D K2 dd2 u ∧ GB A W na n Ls P K K2 dd dd2 ∧ (∀ r, P r = true ↔ RR A W n p r) ∧ cnt P 1400 = c ∧ Fr [13, 22] [5] [2] ux u := by
  have hl := g.l
  have e30 : q_i ux 30 = nI na := by rw [s.1.gx.2.2.2.2.2.2.2.2.2.2.2.1, hna]
  obtain ⟨f1, f2, f3, f4⟩ := ft
  have emin : q_min (nI p) 12 = nI (min p 12) := by
    unfold q_min
    by_cases c : 12 < p
    · rw [if_pos (show (12 : Int32) < nI p from nI_lt (a := 12) c (by omega)), Nat.min_eq_right (by omega)]; rfl
    · rw [if_neg (show ¬ (12 : Int32) < nI p from nI_nlt (a := 12) (by omega) (by omega)), Nat.min_eq_left (by omega)]
  -- own pieces
  have own4 : ∀ q, 4 ≤ q → q < 16 → own (q - 4) = true := fun q q1 q2 => decide_eq_true (Or.inl (by omega))
  obtain ⟨u1, K1, dd1, P1, c1, a1, a2, a3, a4, a5, a6, a7⟩ := x_gbT (N := N) (a := 4 + min p 12) (b := 16) (P0 := fun _ => false) (sct := na + n) (K := K) (dd := dd) (um := um) (D := D) (hb := hb) g gl hna t3 hn (fun q => q - 4) (by decide) ⟨by omega, by omega⟩ (fun q q1 q2 => by
    refine ⟨Or.inl ⟨h1, by omega⟩, ?_, ?_, Or.inl (own4 q (by omega) q2), rfl⟩
    · unfold tel
      rw [if_pos (own4 q (by omega) q2)]
    · unfold hpl
      rw [if_pos (by omega)]
      omega) (16 - (4 + min p 12)) (4 + min p 12) N 0 (fun _ => false) K dd ux (by omega) (by omega) (by omega) s b (fun r => ⟨fun z => Or.inl z, fun z => z.elim id (fun ⟨q', w1, w2, _⟩ => by omega)⟩) (Nat.add_zero _).symm (by omega)
  have i1 : ∀ r, P1 r = true ↔ r < 12 ∧ p ≤ r ∧ tl A W n r ≠ 0 := by
    intro r
    rw [a4 r]
    constructor
    · rintro (z | ⟨q', w1, w2, w3, w4⟩)
      · cases z
      · exact ⟨by omega, by omega, w4⟩
    · rintro ⟨z1, z2, z3⟩
      exact Or.inr ⟨r + 4, by omega, by omega, by omega, z3⟩
  have P1f : ∀ r, 12 ≤ r → P1 r = false := by
    intro r hr
    cases hpr : P1 r with
    | false => rfl
    | true => have := ((i1 r).mp hpr).1; omega
  -- the first INDEX
  have o68 : own 1068 = true := by decide
  have o69 : own 1069 = true := by decide
  have t12 : (nI p - 12).toInt = (p : Int) - 12 := by
    have a12 : (12 : Int32).toInt = 12 := by decide
    rw [Int32.toInt_sub, nI_toInt (by omega), a12]
    exact Int.bmod_eq_of_le (by omega) (by omega)
  obtain ⟨m1, m2⟩ := fmx t12 (by omega)
  have on12 : ∀ j, j < 32 → ¬ own (12 + j) = true ∧ trl (12 + j) = 1068 ∧ hpl (12 + j) = j ∧ 12 + j < 1068 := by
    intro j hj
    refine ⟨fun z => ?_, ?_, ?_, by omega⟩
    · have := own_t z; omega
    · unfold trl; rw [if_pos (by omega)]
    · unfold hpl; rw [if_neg (by omega), if_pos (by omega)]; omega
  obtain ⟨u2, K2, dd2, P2, c2, b1, b2, b3, b4, b5, b6, b7⟩ := x_gbI (N := N) (r0 := 1068) (sct := na + n) (h := 16) (a := ((p : Int) - 12).toNat) (f := nI p - 12) g gl hna hN t3 hn h1 a2 a3 (Or.inl rfl) (P1f _ (by decide)) (Or.inl o68) (by unfold tel; rw [if_pos o68]) (by decide) (fun j => 12 + j) on12 (fun j hj => P1f _ (by omega)) m1 m2
  have ni : ∀ i, i ≤ 32 → (∀ r, P2 r = true → r < 44 ∨ r = 1068) := by
    intro i hi r hr
    rcases (b4 r).mp hr with z | ⟨z0, (⟨j, j1, j2, j3, j4⟩ | ⟨z, -, -⟩)⟩
    · have := ((i1 r).mp z).1; omega
    · omega
    · omega
  have i2 : ∀ r, P2 r = true ↔ (r < 44 ∧ p ≤ r ∧ tl A W n r ≠ 0) ∨ (r = 1068 ∧ RI A W n p r) := by
    intro r
    rw [b4 r, i1 r]
    constructor
    · rintro (⟨z1, z2, z3⟩ | ⟨z0, (⟨j, j1, j2, j3, j4⟩ | ⟨z1, z2, z3⟩)⟩)
      · exact Or.inl ⟨by omega, z2, z3⟩
      · exact Or.inl ⟨by omega, by omega, j4⟩
      · refine Or.inr ⟨z1, by rw [z1]; exact z0, fun q q1 q2 q3 q4 => ?_⟩
        have q44 : q < 44 := by
          rw [z1] at q4
          unfold trl at q4
          repeat' split at q4
          all_goals omega
        have := z3 (q - 12) (by omega)
        rw [show 12 + (q - 12) = q by omega] at this
        exact this
    · rintro (⟨z1, z2, z3⟩ | ⟨z1, z2, z3⟩)
      · by_cases c : r < 12
        · exact Or.inl ⟨c, z2, z3⟩
        · refine Or.inr ⟨?_, Or.inl ⟨r - 12, by omega, by omega, by omega, z3⟩⟩
          have := f1 r (by omega) (by omega) z3
          unfold trl at this
          rw [if_pos z1] at this
          exact this
      · rw [z1] at z2 z3
        have ha : ((p : Int) - 12).toNat < 32 := by
          rcases Nat.lt_or_ge ((p : Int) - 12).toNat 32 with q | q
          · exact q
          · exfalso
            obtain ⟨w, w1, w2, w3, w4⟩ := f2 1068 (Or.inl rfl) z2
            have q44 : w < 44 := by
              unfold trl at w3
              repeat' split at w3
              all_goals omega
            exact w4 (z3 w w1 w2 (by omega) w3)
        exact Or.inr ⟨z2, Or.inr ⟨z1, ha, fun j hj => z3 (12 + j) (by omega) (by omega) (by omega) (by unfold trl; rw [if_pos (by omega)])⟩⟩
  have P2f : ∀ r, 44 ≤ r → r ≠ 1068 → P2 r = false := by
    intro r h1 h2
    cases hpr : P2 r with
    | false => rfl
    | true => have := (i2 r).mp hpr; omega
  have v17 := b3.2.2.1 1069 (Or.inl ⟨h1, by decide⟩) (Or.inl o69)
  unfold tel at v17
  rw [if_pos o69, show hpl 1069 = 17 from by decide, P2f 1069 (by decide) (by decide), if_neg (by decide)] at v17
  have e30' : q_i ux 30 + nI n = nI (na + n) := by rw [e30, nI_add]
  have a1 : fX0_giveBackTold L N (nI (na + n)) (nI (4 + min p 12)) 16 ux = some (nI c1, u1) := a1
  have b1 : fX0_giveBackIndex L N (nI (na + n)) 16 (nI p - 12) u1 = some (nI c2, u2) := b1
  have hh : fX6_half L N (nI (na + n)) 17 u2 = some (nI (tl A W n 1069), u2) := by
    have := Xs_half (N := N) g gl b2 (y := na + n) (i := 17) (by omega) (by omega) (by decide)
    rw [v17] at this
    exact this
  have f12 : Fr [13, 22] [5] [2] ux u2 := a7.trans b7
  have c12 : cnt P2 1400 = c1 + c2 := by
    rw [b5, a5, cnt_no]
    omega
  unfold fX0_giveBackFrom fX4_sectorOf
  rw [qb_s, e30', emin, show (4 : Int32) + nI (min p 12) = nI (4 + min p 12) from nI_add 4 _, a1, qb_s, b1, qb_s, qn_s, nI_add, hh, qb_s]
  by_cases c0 : tl A W n 1069 = 0
  · rw [c0, if_pos (show nI 0 = (0 : Int32) from rfl)]
    refine ⟨u2, K2, dd2, P2, c1 + c2, rfl, b2, b3, fun r => ?_, c12, f12⟩
    have z70 : ∀ i, i < 32 → tl A W n (1070 + i) = 0 := by
      intro i hi
      by_cases z : tl A W n (1070 + i) = 0
      · exact z
      · exact absurd c0 (f3 i hi z)
    rw [i2 r]
    unfold RR
    constructor
    · rintro (⟨z1, z2, z3⟩ | ⟨z1, z2⟩)
      · exact Or.inl ⟨by omega, z2, z3⟩
      · exact Or.inr (Or.inl ⟨Or.inl z1, z2⟩)
    · rintro (⟨z1, z2, z3⟩ | ⟨(z1 | ⟨z0, z1⟩), z2⟩ | ⟨z1, z2, -⟩)
      · left
        refine ⟨?_, z2, z3⟩
        rcases Nat.lt_or_ge r 44 with q | q
        · exact q
        · exfalso
          have := f1 r (by omega) z1 z3
          unfold trl at this
          rw [if_neg (by omega), if_pos z1] at this
          exact this (z70 _ (by omega))
      · exact Or.inr ⟨z1, z2⟩
      · exfalso
        have := z70 (r - 1070) (by omega)
        rw [show 1070 + (r - 1070) = r by omega] at this
        exact z2.1 this
      · exact absurd c0 z2
  · have hr69 := t3.2.1 n 1069 hn c0
    rw [if_neg (nI_ne0 (by omega) (by omega))]
    have key : ∀ (k i m acc : Nat) (P3 : Nat → Bool) (K3 : Nat → Nat → Int64) (dd3 : Nat → Bool) (u3 : q_St), i + k = 32 → k < m → XS B T S C W Ls hb um D K3 dd3 u3 → GB A W na n Ls P3 K K3 dd dd3 → (∀ r, P3 r = true ↔ (r < 44 + 32 * i ∧ p ≤ r ∧ tl A W n r ≠ 0) ∨ ((r = 1068 ∨ (1070 ≤ r ∧ r < 1070 + i)) ∧ RI A W n p r)) → cnt P3 1400 = acc → acc ≤ 100 + 33 * i → Fr [13, 22] [5] [2] ux u3 →
        ∃ u K4 dd4 P c, q_lp (fX0_giveBackFrom_b65 L N) (fun _ _ _ _ _ _ => none) m (nI p) (nI (na + n)) (nI acc) (nI (tl A W n 1069)) (nI i) u3 = some (nI c, u) ∧ XS B T S C W Ls hb um D K4 dd4 u ∧ GB A W na n Ls P K K4 dd dd4 ∧ (∀ r, P r = true ↔ RR A W n p r) ∧ cnt P 1400 = c ∧ Fr [13, 22] [5] [2] ux u := by
      intro k
      induction k with
      | zero =>
        intro i m acc P3 K3 dd3 u3 z1 z2 z3 z4 z5 z6 z7 z8
        have : i = 32 := by omega
        subst this
        have P3f : P3 1069 = false := by
          cases hpr : P3 1069 with
          | false => rfl
          | true => have := (z5 1069).mp hpr; omega
        rw [lp_1 _ _ (by omega), fX0_giveBackFrom_b65, if_pos (show (32 : Int32) ≤ nI 32 by decide)]
        have pi : ∀ i, i < 32 → (P3 (1070 + i) = true ∨ tl A W n (1070 + i) = 0 ↔ (tl A W n (1070 + i) ≠ 0 → RI A W n p (1070 + i))) := by
          intro i hi
          constructor
          · rintro (w | w) w2
            · rcases (z5 _).mp w with w3 | w3
              · omega
              · exact w3.2
            · exact absurd w w2
          · intro w
            by_cases w2 : tl A W n (1070 + i) = 0
            · exact Or.inr w2
            · exact Or.inl ((z5 _).mpr (Or.inr ⟨Or.inr ⟨by omega, by omega⟩, w w2⟩))
        rcases x_gbE (N := N) (r0 := 1069) (sct := na + n) (h := 17) g gl hna hN t3 hn h1 z3 z4 c0 (by decide) P3f (Or.inl o69) (by unfold tel; rw [if_pos o69]) (by decide) (fun j => 1070 + j) (fun j hj => ⟨fun w => by have := own_t w; omega, by unfold trl; rw [if_neg (by omega), if_neg (by omega)], by unfold hpl; rw [if_neg (by omega), if_neg (by omega), if_neg (by omega), if_neg (by omega), if_neg (by omega), if_pos (by omega)]; omega, by omega⟩) with ⟨e1, u4, K4, dd4, e2, e3, e4, e5⟩ | ⟨e1, e2⟩
        · have e2 : fX0_giveBackEmpty L N (nI (na + n)) 17 u3 = some (1, u4) := e2
          rw [e2, qb_s, nI_1]
          refine ⟨u4, K4, dd4, setb P3 1069 true, acc + 1, rfl, e3, e4, fun r => ?_, by rw [cnt_set (by decide) P3f, z6], z8.trans e5⟩
          rw [sbt, z5 r]
          unfold RR
          constructor
          · rintro (w | (w | w))
            · exact Or.inr (Or.inr ⟨w, c0, fun i hi => (pi i hi).mp (e1 i hi)⟩)
            · exact Or.inl ⟨by omega, w.2⟩
            · exact Or.inr (Or.inl ⟨by omega, w.2⟩)
          · rintro (w | (w | w))
            · exact Or.inr (Or.inl ⟨by omega, w.2⟩)
            · exact Or.inr (Or.inr ⟨by omega, w.2⟩)
            · exact Or.inl w.1
        · have e2 : fX0_giveBackEmpty L N (nI (na + n)) 17 u3 = some (0, u3) := e2
          rw [e2, qb_s, i32_add0]
          refine ⟨u3, K3, dd3, P3, acc, rfl, z3, z4, fun r => ?_, z6, z8⟩
          rw [z5 r]
          unfold RR
          constructor
          · rintro (w | w)
            · exact Or.inl ⟨by omega, w.2⟩
            · exact Or.inr (Or.inl ⟨by omega, w.2⟩)
          · rintro (w | (w | w))
            · exact Or.inl ⟨by omega, w.2⟩
            · exact Or.inr ⟨by omega, w.2⟩
            · exact absurd (fun i hi => (pi i hi).mpr (w.2.2 i hi)) e1
      | succ k ih =>
        intro i m acc P3 K3 dd3 u3 z1 z2 z3 z4 z5 z6 z7 z8
        have P3f : ∀ r, 44 + 32 * i ≤ r → ¬ (r = 1068 ∨ (1070 ≤ r ∧ r < 1070 + i)) → P3 r = false := by
          intro r w1 w2
          cases hpr : P3 r with
          | false => rfl
          | true =>
            rcases (z5 r).mp hpr with w | w
            · omega
            · exact absurd w.1 w2
        have ni : ¬ own (1070 + i) = true := fun w => by have := own_t w; omega
        have ti : trl (1070 + i) = 1069 := by unfold trl; rw [if_neg (by omega), if_neg (by omega)]
        have tc : ((nI p - 44) - 32 * nI i).toInt = (p : Int) - 44 - 32 * i := by
          have a44 : (44 : Int32).toInt = 44 := by decide
          rw [show (32 : Int32) * nI i = nI (32 * i) from pk_mul 32 i, Int32.toInt_sub, Int32.toInt_sub, nI_toInt (by omega), nI_toInt (by omega), a44, Int.bmod_eq_of_le (n := (p : Int) - 44) (by omega) (by omega)]
          rw [Int.bmod_eq_of_le (by omega) (by omega)]
          omega
        obtain ⟨m1, m2⟩ := fmx tc (by omega)
        obtain ⟨u4, K4, dd4, P4, c4, d1, d2, d3, d4, d5, d6, d7⟩ := x_gbI (N := N) (r0 := 1070 + i) (sct := tl A W n 1069) (h := i) (a := ((p : Int) - 44 - 32 * i).toNat) (f := (nI p - 44) - 32 * nI i) g gl hna hN t3 hn h1 z3 z4 (Or.inr ⟨by omega, by omega⟩) (P3f _ (by omega) (by omega)) (Or.inr ⟨by rw [ti]; exact c0, by rw [ti]; exact P3f _ (by omega) (by omega)⟩) (by unfold tel; rw [if_neg ni, ti]) (by unfold hpl; rw [if_neg (by omega), if_neg (by omega), if_neg (by omega), if_neg (by omega), if_neg (by omega), if_pos (by omega)]; omega) (fun j => 44 + 32 * i + j) (fun j hj => ⟨fun w => by have := own_t w; omega, by unfold trl; rw [if_neg (by omega), if_pos (by omega)]; omega, by unfold hpl; rw [if_neg (by omega), if_neg (by omega), if_pos (by omega)]; omega, by omega⟩) (fun j hj => P3f _ (by omega) (by omega)) m1 m2
        have tq : ∀ q, 12 ≤ q → q < 1068 → (trl q = 1070 + i ↔ 44 + 32 * i ≤ q ∧ q < 44 + 32 * (i + 1)) := by
          intro q q1 q2
          unfold trl
          by_cases c : q < 44
          · rw [if_pos c]; omega
          · rw [if_neg c, if_pos q2]; omega
        have nx : ∀ r, P4 r = true ↔ (r < 44 + 32 * (i + 1) ∧ p ≤ r ∧ tl A W n r ≠ 0) ∨ ((r = 1068 ∨ (1070 ≤ r ∧ r < 1070 + (i + 1))) ∧ RI A W n p r) := by
          intro r
          rw [d4 r, z5 r]
          constructor
          · rintro ((w | w) | ⟨w0, (⟨j, j1, j2, j3, j4⟩ | ⟨w1, w2, w3⟩)⟩)
            · exact Or.inl ⟨by omega, w.2⟩
            · exact Or.inr ⟨by omega, w.2⟩
            · exact Or.inl ⟨by omega, by omega, j4⟩
            · refine Or.inr ⟨by omega, by rw [w1]; exact w0, fun q q1 q2 q3 q4 => ?_⟩
              rw [w1] at q4
              have q5 := (tq q q1 q2).mp q4
              have := w3 (q - (44 + 32 * i)) (by omega)
              rw [show 44 + 32 * i + (q - (44 + 32 * i)) = q by omega] at this
              exact this
          · rintro (⟨w1, w2, w3⟩ | ⟨w1, w2⟩)
            · by_cases c : r < 44 + 32 * i
              · exact Or.inl (Or.inl ⟨c, w2, w3⟩)
              · refine Or.inr ⟨?_, Or.inl ⟨r - (44 + 32 * i), by omega, by omega, by omega, w3⟩⟩
                have := f1 r (by omega) (by omega) w3
                rw [(tq r (by omega) (by omega)).mpr ⟨by omega, by omega⟩] at this
                exact this
            · by_cases c : r = 1070 + i
              · rw [c] at w2
                obtain ⟨w2, w3⟩ := w2
                refine Or.inr ⟨w2, Or.inr ⟨c, ?_, fun j hj => ?_⟩⟩
                · rcases Nat.lt_or_ge ((p : Int) - 44 - 32 * i).toNat 32 with q | q
                  · exact q
                  · exfalso
                    obtain ⟨y, y1, y2, y3, y4⟩ := f2 (1070 + i) (Or.inr ⟨by omega, by omega⟩) w2
                    have y5 := (tq y y1 y2).mp y3
                    exact y4 (w3 y y1 y2 (by omega) y3)
                · have j32 : j < 32 ∨ 32 ≤ j := by omega
                  rcases j32 with q | q
                  · exact w3 _ (by omega) (by omega) (by omega) ((tq _ (by omega) (by omega)).mpr ⟨by omega, by omega⟩)
                  · exfalso
                    obtain ⟨y, y1, y2, y3, y4⟩ := f2 (1070 + i) (Or.inr ⟨by omega, by omega⟩) w2
                    have y5 := (tq y y1 y2).mp y3
                    exact y4 (w3 y y1 y2 (by omega) y3)
              · exact Or.inl (Or.inr ⟨by omega, w2⟩)
        obtain ⟨u5, K5, dd5, P5, c5, g1, g2, g3, g4, g5, g6⟩ := ih (i + 1) (m - 1) (acc + c4) P4 K4 dd4 u4 (by omega) (by omega) d2 d3 nx (by rw [d5, z6]) (by omega) (z8.trans d7)
        refine ⟨u5, K5, dd5, P5, c5, ?_, g2, g3, g4, g5, g6⟩
        rw [lp_1 _ _ (by omega), fX0_giveBackFrom_b65, if_neg (show ¬ (32 : Int32) ≤ nI i from nI_ge (b := 32) (by omega) (by omega)), d1, qb_s, qn_s, nI_add, qn_s, nI_1]
        exact g1
    exact key 32 0 N (c1 + c2) P2 K2 dd2 u2 (by omega) (by omega) b2 b3 (fun r => by
      rw [i2 r]
      constructor
      · rintro (w | w)
        · exact Or.inl ⟨by omega, w.2⟩
        · exact Or.inr ⟨Or.inl w.1, w.2⟩
      · rintro (w | w)
        · exact Or.inl ⟨by omega, w.2⟩
        · refine Or.inr ⟨?_, w.2⟩
          rcases w.1 with w | w
          · exact w
          · omega) c12 (by omega) f12
