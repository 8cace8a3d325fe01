/-! ===== SAFE, in both ===== -/
theorem off_rec {B T S C W Ls h t : Nat} {cl : Cl} {sm : Option Nat} {p : Nat} {ux um : q_St} (v : vU B T S C W Ls h t cl sm p ux um) : vU B T S C W Ls h t cl sm p (q_si (q_si ux 8 (-1)) 7 0) (q_si (q_si um 10 (-1)) 9 0) := by
  obtain ⟨⟨gx, gm⟩, vw, vr, cr, lr, kr, vc, e1, e2, e3, e4⟩ := v
  refine ⟨⟨gx, gm⟩, vw, vr, ?_, lr, kR_keep kr (fun k h1 h2 => ?_) (fun k h1 h2 => ?_), vc, e1, e2, e3, e4⟩
  · exact ⟨rfl, rfl, cr.2.2.1, cr.2.2.2.1, cr.2.2.2.2.1, cr.2.2.2.2.2.1, cr.2.2.2.2.2.2.1, cr.2.2.2.2.2.2.2.1, cr.2.2.2.2.2.2.2.2⟩
  · rw [qi_ne (by omega), qi_ne (by omega)]
  · rw [qi_ne (by omega), qi_ne (by omega)]
theorem on_rec {ux um : q_St} {c : Int32} (cr : cR ux um) : cR (q_si (q_si ux 8 c) 12 (q_i ux 12 + 1)) (q_si (q_si um 10 c) 14 (q_i um 14 + 1)) := by
  refine ⟨cr.1, rfl, cr.2.2.1, cr.2.2.2.1, cr.2.2.2.2.1, ?_, cr.2.2.2.2.2.2.1, cr.2.2.2.2.2.2.2.1, cr.2.2.2.2.2.2.2.2⟩
  show q_i ux 12 + 1 = q_i um 14 + 1
  rw [cr.2.2.2.2.2.1]
theorem l_safe {B T S C W Ls h t b lim : Nat} {sm : Option Nat} {L : Nat → Nat} {N : Nat} {ux um : q_St} (g : Geo B T S C W Ls) (v : vU B T S C W Ls h t (some (b, lim, false, T)) sm (8 * T) ux um) :
    (∃ vx vm, fX8_becomeSafe L N ux = some (0, vx) ∧ fX11_record N um = some (0, vm) ∧ vU B T S C W Ls h t (some (b, lim, false, T)) sm (8 * T) vx vm ∧ q_i vx 7 = 0 ∧ q_a vm 4 = q_a um 4 ∧ ∀ x w, x < Ls → w < 8 → dsk C W Ls t (some (b, lim, false, T)) vx vm x w = dsk C W Ls t (some (b, lim, false, T)) ux um x w) ∨
    (∃ vx vm, fX8_becomeSafe L N ux = some (1, vx) ∧ fX11_record N um = some (1, vm) ∧ vU B T S C W Ls h t (some (b, lim, true, 0)) sm 0 vx (q_si (q_si (q_si vm 23 1) 21 5) 22 0) ∧ q_i vx 7 = q_i ux 7 ∧ q_a vm 4 = q_a um 4 ∧ ∀ x w, x < Ls → w < 8 → dsk C W Ls t (some (b, lim, true, 0)) vx (q_si (q_si (q_si vm 23 1) 21 5) 22 0) x w = dsk C W Ls t (some (b, lim, false, T)) ux um x w) := by
  have hw := g.w
  have hl := g.l
  obtain ⟨a1, a2, a3, a4, a5, a6⟩ := id g
  obtain ⟨⟨gx, gm⟩, vw, vr, cr, lr, ⟨k1, ks⟩, vc, e1, e2, e3, e4⟩ := id v
  obtain ⟨k2, k3, k4, k5, k6, k7, k8, k9, k10⟩ := k1
  have hb : b < B := e3 b lim false T rfl
  obtain ⟨q1, q2, q3, q4⟩ := vc.2 b lim false T rfl
  unfold fX8_becomeSafe
  rcases l_record (L := L) (N := N) cr.2.1 with ⟨s1, s2⟩ | ⟨c, s1, s2⟩
  · left
    rw [s1, s2, qb_s, if_pos rfl]
    exact ⟨_, _, rfl, rfl, off_rec v, rfl, rfl, fun _ _ _ _ => rfl⟩
  · right
    rw [s1, s2, qb_s, if_neg (by decide), qn_s, qn_s]
    have dk : ∀ x w, x < Ls → w < 8 → dsk C W Ls t (some (b, lim, true, 0)) ux um x w = dsk C W Ls t (some (b, lim, false, T)) ux um x w := by
      intro x w hx hw8
      unfold dsk spt
      cases hlv : lvx W t um x with
      | true => rfl
      | false =>
        rw [if_neg (by decide), if_neg (by decide), hom_f]
        show sec ux (if b = x / W then Ls + x % W else x) w = sec ux x w
        by_cases hbx : b = x / W
        · rw [if_pos hbx]
          have hm := Nat.mod_lt x (show 0 < W by omega)
          have hx2 : b * W + x % W = x := by
            have := Nat.div_add_mod x W
            rw [hbx, Nat.mul_comm]; exact this
          have r := q3 (x % W) hm (Or.inr (by omega))
          have hnl : ¬ nI lim ≤ q_a um 3 x := fun q => by
            have := q2 x hx hbx.symm q
            rw [hlv] at this
            exact absurd this (by decide)
          rw [hx2] at r
          have r2 := r.2 hnl w hw8
          unfold dsk spt at r2
          rw [hlv, if_neg (by decide), hom_f] at r2
          exact r2
        · rw [if_neg hbx]
    refine ⟨_, _, rfl, rfl, ⟨⟨gx, gm⟩, vw, vr, on_rec cr, lr, ⟨⟨k2, k3, k4, k5, rfl, rfl, rfl, Nat.zero_le _, ?_⟩, ks⟩, ⟨?_, ?_⟩, e1, e2, ?_, e4⟩, rfl, rfl, fun x w hx hw8 => dk x w hx hw8⟩
    · rw [if_pos (by omega)]
      exact ⟨rfl, rfl⟩
    · intro x hx h1 h2
      show nl ux (if b = x / W then Ls + x % W else x)
      by_cases hbx : b = x / W
      · rw [if_pos hbx]
        have hm := Nat.mod_lt x (show 0 < W by omega)
        exact (q3 (x % W) hm (Or.inr (by omega))).1
      · rw [if_neg hbx]
        exact vc.1 x hx h1 h2
    · intro b' lim' sf tr' he
      cases he
      refine ⟨q1, q2, fun j hj _ => ?_, fun _ j _ h => absurd h (Nat.not_lt_zero _)⟩
      obtain ⟨r1, r2⟩ := q3 j hj (Or.inr (by omega))
      refine ⟨r1, fun hlt w hw8 => ?_⟩
      have hxj : b * W + j < Ls := by rw [a6]; exact (in_band hb hj).1
      exact (r2 hlt w hw8).trans (dk _ w hxj hw8).symm
    · intro b' lim' sf tr' he
      cases he
      exact hb
