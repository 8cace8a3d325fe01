/-! ===== TAIL becomes OLDEST: nothing that is read changes ===== -/
theorem i_nlt {x y : Int32} : ¬ x < y ↔ y ≤ x := by
  rw [Int32.le_iff_toInt_le, Int32.lt_iff_toInt_lt]; omega
theorem lv_same {B T S C W Ls h t t2 : Nat} {cl : Cl} {sm : Option Nat} {p : Nat} {ux um : q_St} (v : vU B T S C W Ls h t cl sm p ux um) (h1 : t ≤ t2) (h2 : t2 ≤ h) (hno : ∀ q, t ≤ q → q < t2 → lvm C W um q = false) {x : Nat} (hx : x < Ls) : lvx W t2 um x = lvx W t um x := by
  obtain ⟨⟨gx, gm⟩, vw, vr, cr, lr, kr, vc, e1, e2, e3, e4⟩ := v
  have hh := vw.2.2.2.2.1
  rcases vw.2.2.2.2.2.2.1 x hx with q | ⟨q, hq, eq⟩
  · have n1 : ∀ s, s < 2 ^ 28 → ¬ nI s ≤ q_a um 3 x := by
      intro s hs q2
      rw [q] at q2
      exact (i_nlt.mpr q2) (m1_lt s (by omega))
    unfold lvx
    simp [n1 t (by omega), n1 t2 (by omega)]
  · unfold lvx
    rw [eq]
    by_cases c1 : t2 ≤ q
    · simp [nI_le c1 (by omega), nI_le (show t ≤ q by omega) (by omega)]
    · have n2 : ¬ nI t2 ≤ nI q := nI_ge (by omega) (by omega)
      by_cases c2 : t ≤ q
      · have hl := hno q c2 (by omega)
        have ho := e2 x hx q c2 hq eq
        unfold lvm at hl
        rw [ho, eq] at hl
        have n3 : ¬ q_a um 4 (x / W) ≤ nI q := by
          intro z
          have z2 := i_nlt.mpr z
          simp [z2] at hl
        simp [n2, n3]
      · have n3 : ¬ nI t ≤ nI q := nI_ge (by omega) (by omega)
        simp [n2, n3]
theorem dk_same {B T S C W Ls h t t2 : Nat} {cl : Cl} {sm : Option Nat} {p : Nat} {ux um : q_St} (v : vU B T S C W Ls h t cl sm p ux um) (h1 : t ≤ t2) (h2 : t2 ≤ h) (hno : ∀ q, t ≤ q → q < t2 → lvm C W um q = false) {x : Nat} (hx : x < Ls) (w : Nat) : dsk C W Ls t2 cl ux um x w = dsk C W Ls t cl ux um x w := by
  unfold dsk spt
  rw [lv_same v h1 h2 hno hx]
theorem mv_tail {B T S C W Ls h t t2 : Nat} {cl : Cl} {sm : Option Nat} {p : Nat} {ux um : q_St} (g : Geo B T S C W Ls) (v : vU B T S C W Ls h t cl sm p ux um) (h1 : t ≤ t2) (h2 : t2 ≤ h) (hno : ∀ q, t ≤ q → q < t2 → lvm C W um q = false) :
    vU B T S C W Ls h t2 cl sm p (q_si ux 15 (nI t2)) (q_si um 18 (nI t2)) ∧ ∀ x w, x < Ls → dsk C W Ls t2 cl (q_si ux 15 (nI t2)) (q_si um 18 (nI t2)) x w = dsk C W Ls t cl ux um x w := by
  refine ⟨?_, fun x w hx => dk_same v h1 h2 hno hx w⟩
  have a6 : Ls = B * W := g.2.2.2.2.2
  obtain ⟨⟨gx, gm⟩, vw, vr, cr, lr, kr, vc, e1, e2, e3, e4⟩ := id v
  refine ⟨⟨gx, gm⟩, ⟨vw.1, rfl, h2, by have := vw.2.2.2.1; omega, vw.2.2.2.2.1, vw.2.2.2.2.2.1, vw.2.2.2.2.2.2.1, vw.2.2.2.2.2.2.2⟩, ⟨vr.1, rfl, vr.2.2.1, vr.2.2.2.1, vr.2.2.2.2⟩, cr, lr, kR_keep kr (fun k q1 q2 => qi_ne (by omega)) (fun k q1 q2 => qi_ne (by omega)), ⟨?_, ?_⟩, fun q q1 q2 => e1 q (by omega) q2, fun x hx q q1 q2 => e2 x hx q (by omega) q2, e3, e4⟩
  · intro x hx q1 q2
    exact vc.1 x hx ((lv_same v h1 h2 hno hx).symm.trans q1) q2
  · intro b lim sf tr he
    obtain ⟨r1, r2, r3, r4⟩ := vc.2 b lim sf tr he
    refine ⟨r1, fun x hx q1 q2 => (lv_same v h1 h2 hno hx).trans (r2 x hx q1 q2), fun i hi q1 => ⟨(r3 i hi q1).1, fun q2 w hw => ?_⟩, r4⟩
    have hb := e3 b lim sf tr he
    have hx : b * W + i < Ls := by rw [a6]; exact (in_band hb hi).1
    exact ((r3 i hi q1).2 q2 w hw).trans (dk_same v h1 h2 hno hx w).symm
/-- what OLDEST is -/
theorem old_ok {B T S C W Ls h t : Nat} {um : q_St} (v : vW B C W Ls h t um) : t ≤ fnd (lvm C W um) (h - t) t ∧ fnd (lvm C W um) (h - t) t ≤ h ∧ ∀ q, t ≤ q → q < fnd (lvm C W um) (h - t) t → lvm C W um q = false := by
  have h1 := fnd_in (lvm C W um) (h - t) t
  have h2 := v.2.2.1
  exact ⟨h1.1, by omega, fun q q1 q2 => fnd_no _ _ _ q q1 q2⟩
