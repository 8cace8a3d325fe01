/-! ===== DONE and TRIM, in both ===== -/
theorem mark_done {B T S C W Ls h t b lim : Nat} {sm : Option Nat} {ux um : q_St} {c : Int32} (g : Geo B T S C W Ls) (v : vU B T S C W Ls h t (some (b, lim, true, T)) sm (8 * T) ux um) :
    vU B T S C W Ls h t none sm 0 (q_si (q_si (q_sa (q_si (q_si ux 8 c) 12 (q_i ux 12 + 1)) 1 (upd (q_a ux 1) b (nI lim))) 16 (-1)) 18 0) (q_si (q_si (q_sa (q_si (q_si um 10 c) 14 (q_i um 14 + 1)) 4 (upd (q_a um 4) b (nI lim))) 19 (-1)) 23 0) ∧
    ∀ x w, x < Ls → w < 8 → dsk C W Ls t none (q_si (q_si (q_sa (q_si (q_si ux 8 c) 12 (q_i ux 12 + 1)) 1 (upd (q_a ux 1) b (nI lim))) 16 (-1)) 18 0) (q_si (q_si (q_sa (q_si (q_si um 10 c) 14 (q_i um 14 + 1)) 4 (upd (q_a um 4) b (nI lim))) 19 (-1)) 23 0) x w = dsk C W Ls t (some (b, lim, true, T)) ux um x w := by
  have hw := g.w
  have hl := g.l
  obtain ⟨a1, a2, a3, a4, a5, a6⟩ := id g
  obtain ⟨⟨gx, gm⟩, vw, vr, cr, lr, ⟨k1, ks⟩, vc, e1, e2, e3, e4⟩ := id v
  have hb : b < B := e3 b lim true T rfl
  obtain ⟨⟨q1, q1b⟩, q2, q3, q4⟩ := vc.2 b lim true T rfl
  have hlim : lim < 2 ^ 28 := by have := vw.2.2.2.2.1; omega
  obtain ⟨um2, hum2⟩ : ∃ q, q = (q_si (q_si (q_sa (q_si (q_si um 10 c) 14 (q_i um 14 + 1)) 4 (upd (q_a um 4) b (nI lim))) 19 (-1)) 23 0) := ⟨_, rfl⟩
  have hlv : ∀ x, lvx W t um2 x = (decide (nI t ≤ q_a um 3 x) && decide (upd (q_a um 4) b (nI lim) (x / W) ≤ q_a um 3 x)) := by
    intro x; rw [hum2]; rfl
  have oth : ∀ x, ¬ b = x / W → lvx W t um2 x = lvx W t um x := by
    intro x hx
    rw [hlv, up_n (fun e => hx e.symm)]
    rfl
  have own : ∀ x, x < Ls → b = x / W → (lvx W t um2 x = true ↔ nI lim ≤ q_a um 3 x) := by
    intro x hx hbx
    rw [hlv, ← hbx, up_s]
    constructor
    · intro z
      simp at z
      exact z.2
    · intro z
      have := q2 x hx hbx.symm z
      unfold lvx at this
      simp at this
      simp [this.1, z]
  have hx2 : ∀ x, b = x / W → b * W + x % W = x := by
    intro x hbx
    have := Nat.div_add_mod x W
    rw [hbx, Nat.mul_comm]; exact this
  rw [← hum2]
  refine ⟨⟨⟨gx, by rw [hum2]; exact gm⟩, ?_, ?_, by rw [hum2]; exact on_rec cr, by rw [hum2]; exact lr, ⟨?_, ?_⟩, ⟨?_, (fun b' lim' sf tr' he => by cases he)⟩, by rw [hum2]; exact e1, by rw [hum2]; exact e2, (fun b' lim' sf tr' he => by cases he), e4⟩, ?_⟩
  · rw [hum2]
    refine ⟨vw.1, vw.2.1, vw.2.2.1, vw.2.2.2.1, vw.2.2.2.2.1, vw.2.2.2.2.2.1, vw.2.2.2.2.2.2.1, fun b' hb' => ?_⟩
    show ∃ k, k ≤ h ∧ upd (q_a um 4) b (nI lim) b' = nI k
    by_cases hbb : b' = b
    · rw [hbb, up_s]; exact ⟨lim, q1, rfl⟩
    · rw [up_n hbb]; exact vw.2.2.2.2.2.2.2 b' hb'
  · rw [hum2]
    refine ⟨vr.1, vr.2.1, vr.2.2.1, vr.2.2.2.1, fun b' hb' => ?_⟩
    show upd (q_a ux 1) b (nI lim) b' = upd (q_a um 4) b (nI lim) b'
    by_cases hbb : b' = b
    · rw [hbb, up_s, up_s]
    · rw [up_n hbb, up_n hbb]; exact vr.2.2.2.2 b' hb'
  · rw [hum2]; exact ⟨rfl, rfl, rfl, rfl⟩
  · rw [hum2]; exact ks
  · intro x hx h1 h2
    show nl ux x
    by_cases hbx : b = x / W
    · have hm := Nat.mod_lt x (show 0 < W by omega)
      have := (q4 rfl (x % W) hm (by omega)).1
      rw [hx2 x hbx] at this
      exact this
    · have r := vc.1 x hx ((oth x hbx).symm.trans h1) h2
      have r : nl ux (if b = x / W then Ls + x % W else x) := r
      rw [if_neg hbx] at r
      exact r
  · intro x w hx hw8
    have hlat : lat um2 x = lat um x := by rw [hum2]; rfl
    show sec ux (if lvx W t um2 x = true then Ls + W + lat um2 x % C else x) w = sec ux (if lvx W t um x = true then Ls + W + lat um x % C else (if b = x / W then Ls + x % W else x)) w
    rw [hlat]
    by_cases hbx : b = x / W
    · by_cases hlm : nI lim ≤ q_a um 3 x
      · rw [if_pos ((own x hx hbx).mpr hlm), if_pos (q2 x hx hbx.symm hlm)]
      · have hm := Nat.mod_lt x (show 0 < W by omega)
        have r := q3 (x % W) hm (Or.inl rfl)
        have r4 := q4 rfl (x % W) hm (by omega)
        rw [hx2 x hbx] at r r4
        rw [if_neg (fun z => hlm ((own x hx hbx).mp z)), r4.2 w hw8]
        exact r.2 hlm w hw8
    · rw [oth x hbx, if_neg hbx]
theorem l_done {B T S C W Ls h t b lim : Nat} {sm : Option Nat} {L : Nat → Nat} {N : Nat} {ux um : q_St} (g : Geo B T S C W Ls) (gl : gL B C W Ls L) (hN : 300 ≤ N) (v : vU B T S C W Ls h t (some (b, lim, true, T)) sm (8 * T) ux um) :
    (∃ vx vm, fX8_finish L N ux = some (0, vx) ∧ fX11_done N um = some (0, vm) ∧ vU B T S C W Ls h t (some (b, lim, true, T)) sm (8 * T) vx vm ∧ q_i vx 7 = 0 ∧ q_a vm 4 = q_a um 4 ∧ ∀ x w, x < Ls → w < 8 → dsk C W Ls t (some (b, lim, true, T)) vx vm x w = dsk C W Ls t (some (b, lim, true, T)) ux um x w) ∨
    (∃ t2 vx vm, fX8_finish L N ux = some (1, vx) ∧ fX11_done N um = some (1, vm) ∧ vU B T S C W Ls h t2 none sm 0 vx vm ∧ q_i vx 7 = q_i ux 7 ∧ q_a vm 4 = upd (q_a um 4) b (nI lim) ∧ ∀ x w, x < Ls → w < 8 → dsk C W Ls t2 none vx vm x w = dsk C W Ls t (some (b, lim, true, T)) ux um x w) := by
  have hw := g.w
  have hl := g.l
  obtain ⟨a1, a2, a3, a4, a5, a6⟩ := id g
  obtain ⟨⟨gx, gm⟩, vw, vr, cr, lr, ⟨k1, ks⟩, vc, e1, e2, e3, e4⟩ := id v
  obtain ⟨k2, k3, k4, k5, k6, k7, k8, k9, k10⟩ := k1
  have hb : b < B := e3 b lim true T rfl
  unfold fX8_finish fX11_done
  rw [k2, if_neg (nI_pos (by omega)), gl.2.2.1, if_neg (nI_ge hb (by omega))]
  rcases l_record (L := L) (N := N) cr.2.1 with ⟨s1, s2⟩ | ⟨c, s1, s2⟩
  · left
    rw [s1, s2, qb_s, qb_s, if_pos rfl, if_pos rfl]
    exact ⟨_, _, rfl, rfl, off_rec v, rfl, rfl, fun _ _ _ _ => rfl⟩
  · right
    obtain ⟨m1, m2⟩ := mark_done (c := c) g v
    obtain ⟨⟨gx2, gm2⟩, vw2, vr2, -⟩ := id m1
    have o := old_ok (T := T) (S := S) vw2
    have ox := x_oldest (N := N) g gl gx2 vw2 vr2 hN
    have om := m_oldest (N := N) g gm2 vw2 hN
    obtain ⟨n1, n2⟩ := mv_tail g m1 o.1 o.2.1 o.2.2
    rw [s1, s2, qb_s, qb_s, if_neg (by decide), if_neg (by decide)]
    rw [qi_ne (show (16 : Nat) ≠ 12 by decide), qi_ne (show (16 : Nat) ≠ 8 by decide), k2, qw_n hb (by omega), cl_n (by omega), qi_ne (show (17 : Nat) ≠ 12 by decide), qi_ne (show (17 : Nat) ≠ 8 by decide), k4, qn_s, qn_s]
    rw [qi_ne (show (19 : Nat) ≠ 14 by decide), qi_ne (show (19 : Nat) ≠ 10 by decide), k3, qw_n (by omega) (by omega), cl_n (by omega), qi_ne (show (20 : Nat) ≠ 14 by decide), qi_ne (show (20 : Nat) ≠ 10 by decide), k5, qn_s, qn_s]
    have ox2 : ∀ u, u = q_si (q_si (q_sa (q_si (q_si ux 8 c) 12 (q_i ux 12 + 1)) 1 (upd (q_a (q_si (q_si ux 8 c) 12 (q_i ux 12 + 1)) 1) b (nI lim))) 16 (-1)) 18 0 → fX8_oldest L N u = some (nI (fnd (lvm C W (q_si (q_si (q_sa (q_si (q_si um 10 c) 14 (q_i um 14 + 1)) 4 (upd (q_a um 4) b (nI lim))) 19 (-1)) 23 0)) (h - t) t), u) := fun u hu => by rw [hu]; exact ox
    have om2 : ∀ u, u = q_si (q_si (q_sa (q_si (q_si um 10 c) 14 (q_i um 14 + 1)) 4 (upd (q_a (q_si (q_si um 10 c) 14 (q_i um 14 + 1)) 4) b (nI lim))) 19 (-1)) 23 0 → fX11_oldest N u = some (nI (fnd (lvm C W (q_si (q_si (q_sa (q_si (q_si um 10 c) 14 (q_i um 14 + 1)) 4 (upd (q_a um 4) b (nI lim))) 19 (-1)) 23 0)) (h - t) t), u) := fun u hu => by rw [hu]; exact om
    rw [ox2 _ rfl, om2 _ rfl, qb_s, qb_s, qn_s, qn_s, qn_s, qn_s]
    obtain ⟨⟨gx3, gm3⟩, vw3, vr3, cr3, lr3, kr3, vc3, f1, f2, f3, f4⟩ := n1
    refine ⟨_, _, _, rfl, rfl, ⟨⟨gx3, gm3⟩, vw3, vr3, ?_, lr3, kR_keep kr3 (fun k h1 h2 => qi_ne (by omega)) (fun k h1 h2 => qi_ne (by omega)), vc3, f1, f2, f3, f4⟩, rfl, rfl, fun x w hx hw8 => (n2 x w hx).trans (m2 x w hx hw8)⟩
    refine ⟨cr3.1, cr3.2.1, cr3.2.2.1, cr3.2.2.2.1, cr3.2.2.2.2.1, cr3.2.2.2.2.2.1, ?_, cr3.2.2.2.2.2.2.2.1, cr3.2.2.2.2.2.2.2.2⟩
    show q_i ux 21 + 1 = q_i um 15 + 1
    rw [cr.2.2.2.2.2.2.1]
