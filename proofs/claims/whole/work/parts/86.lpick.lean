/-! ===== PICK, in both ===== -/
theorem vU_tally {B T S C W Ls h t : Nat} {cl : Cl} {sm : Option Nat} {p : Nat} {ux um : q_St} (f : Nat → Int32) (v : vU B T S C W Ls h t cl sm p ux um) : vU B T S C W Ls h t cl sm p (q_sa ux 4 f) um := v
theorem l_pick {B T S C W Ls h t : Nat} {sm : Option Nat} {p b : Nat} {L : Nat → Nat} {N : Nat} {ux um : q_St} (g : Geo B T S C W Ls) (gl : gL B C W Ls L) (hN : 300 ≤ N) (v : vU B T S C W Ls h t none sm p ux um) (hsm : sm = none) (hbest : (amx (lvn C W h t um) B).1 = some b) :
    (∃ vx vm, fX8_pick L N ux = some (0, vx) ∧ fX11_record N um = some (0, vm) ∧ vU B T S C W Ls h t none sm p vx vm ∧ q_i vx 7 = 0 ∧ q_a vm 4 = q_a um 4 ∧ ∀ x w, x < Ls → w < 8 → dsk C W Ls t none vx vm x w = dsk C W Ls t none ux um x w) ∨
    (∃ vx vm, fX8_pick L N ux = some (1, vx) ∧ fX11_record N um = some (1, vm) ∧ vU B T S C W Ls h t (some (b, h, false, 0)) sm 0 vx (q_si (q_si (q_si (q_si (q_si vm 19 (nI b)) 20 (nI h)) 21 3) 22 0) 23 0) ∧ q_i vx 7 = q_i ux 7 ∧ q_a vm 4 = q_a um 4 ∧ ∀ x w, x < Ls → w < 8 → dsk C W Ls t (some (b, h, false, 0)) vx (q_si (q_si (q_si (q_si (q_si vm 19 (nI b)) 20 (nI h)) 21 3) 22 0) 23 0) x w = dsk C W Ls t none ux um x w) := by
  have hw := g.w
  have hl := g.l
  obtain ⟨a1, a2, a3, a4, a5, a6⟩ := id g
  obtain ⟨⟨gx, gm⟩, vw, vr, cr, lr, ⟨k1, ks⟩, vc, e1, e2, e3, e4⟩ := id v
  obtain ⟨k2, k3, k4, k5⟩ := k1
  have hh := vw.2.2.2.2.1
  have h9 := vw.2.2.1
  have h10 := vw.2.2.2.1
  have eh : q_i ux 14 = nI h := vr.1.trans vw.1
  unfold fX8_pick
  rcases l_record (L := L) (N := N) cr.2.1 with ⟨s1, s2⟩ | ⟨c, s1, s2⟩
  · left
    rw [s1, s2, qb_s, if_pos rfl]
    exact ⟨_, _, rfl, rfl, off_rec v, rfl, rfl, fun _ _ _ _ => rfl⟩
  · right
    obtain ⟨f, hf1, hf2⟩ := x_fill17 (N := N) gl a1.2 hN (q_si (q_si ux 8 c) 12 (q_i ux 12 + 1))
    obtain ⟨f2, t1, t2⟩ := x_tally (N := N) (L := L) (ux := q_si (q_si ux 8 c) 12 (q_i ux 12 + 1)) (um := um) g gl gx vw vr (h - t) N t f (fun _ => 0) (by omega) (by omega) hf2 (fun _ => by omega)
    have hF : ∀ b, b < B → q_a (q_sa (q_si (q_si ux 8 c) 12 (q_i ux 12 + 1)) 4 f2) 4 b = nI (lvn C W h t um b) := by
      intro b hb
      rw [qa_eq, t2 b hb, Nat.zero_add]
      rfl
    have hF2 : ∀ b, lvn C W h t um b ≤ 256 := fun n => Nat.le_trans (cq_le _ _ _) (by omega)
    have hch := x_choose (N := N) gl a1.2 hF hF2 (B - 1) N 1 (by omega) (Nat.le_refl _) (by omega)
    have hx1 : xmx (lvn C W h t um) 1 = 0 := by
      show (if lvn C W h t um 0 < lvn C W h t um 0 then 0 else 0) = 0
      split <;> rfl
    rw [hx1] at hch
    have hbx : xmx (lvn C W h t um) B = b := by
      obtain ⟨n, rfl⟩ : ∃ n, B = n + 1 := ⟨B - 1, by omega⟩
      exact ((amx_xmx (lvn C W h t um) n).2.1 b hbest).1.symm
    have hbB : b < B := amx_lt _ B b hbest
    have et : q_i (q_sa (q_si (q_si ux 8 c) 12 (q_i ux 12 + 1)) 4 f) 15 = nI t := vr.2.1.trans vw.2.1
    rw [s1, s2, qb_s, if_neg (by decide), hf1, qb_s, qn_s, et, t1]
    have hch : q_lp (fX8_pick_b116 L N) (fun _ _ _ => none) N 0 1 (q_sa (q_si (q_si ux 8 c) 12 (q_i ux 12 + 1)) 4 f2) = some (1, q_si (q_si (q_si (q_sa (q_si (q_si ux 8 c) 12 (q_i ux 12 + 1)) 4 f2) 16 (nI (xmx (lvn C W h t um) B))) 17 (q_i (q_sa (q_si (q_si ux 8 c) 12 (q_i ux 12 + 1)) 4 f2) 14)) 19 0) := hch
    have e14 : q_i (q_sa (q_si (q_si ux 8 c) 12 (q_i ux 12 + 1)) 4 f2) 14 = nI h := eh
    rw [hch, hbx, e14]
    refine ⟨_, _, rfl, rfl, ⟨⟨gx, gm⟩, vw, vr, on_rec cr, lr, ⟨⟨rfl, rfl, rfl, rfl, k4, rfl, rfl, Nat.zero_le _, ?_⟩, ks⟩, ⟨vc.1, ?_⟩, e1, e2, ?_, e4⟩, rfl, rfl, fun _ _ _ _ => rfl⟩
    · rw [if_pos (by omega)]
      exact ⟨rfl, rfl⟩
    · intro b' lim' sf tr' he
      cases he
      refine ⟨⟨Nat.le_refl _, by rw [hsm]; exact fun z => by cases z⟩, fun x hx _ hlim => ?_, fun i _ hp => ?_, fun z => absurd z (by decide)⟩
      · exfalso
        rcases vw.2.2.2.2.2.2.1 x hx with q | ⟨q, hq, eq⟩
        · have hlim : nI h ≤ q_a um 3 x := hlim
          rw [q] at hlim
          exact (i_nlt.mpr hlim) (m1_lt h (by omega))
        · have hlim : nI h ≤ q_a um 3 x := hlim
          rw [eq] at hlim
          exact nI_ge hq (by omega) hlim
      · rcases hp with z | z
        · exact absurd z (by decide)
        · exact absurd z (Nat.not_lt_zero _)
    · intro b' lim' sf tr' he
      cases he
      exact hbB
