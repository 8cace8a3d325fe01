/-! ===== one STEP, in both ===== -/
/-- how a STEP that is done moves the cleaner -/
def trn (T C W B h t : Nat) (cl : Cl) (um : q_St) (t2 : Nat) (cl2 : Cl) (vm : q_St) : Prop :=
  (cl = none ∧ (amx (lvn C W h t um) B).1 = none ∧ cl2 = none ∧ t2 = t ∧ vm = um ∧ fnd (lvm C W um) (h - t) t - t < C / 4) ∨
  (cl = none ∧ cl2 = none ∧ t2 = fnd (lvm C W um) (h - t) t ∧ C / 4 ≤ t2 - t ∧ q_a vm 4 = q_a um 4) ∨
  (∃ b, cl = none ∧ (amx (lvn C W h t um) B).1 = some b ∧ cl2 = some (b, h, false, 0) ∧ t2 = t ∧ q_a vm 4 = q_a um 4) ∨
  (∃ b lim sf tr, cl = some (b, lim, sf, tr) ∧ tr < T ∧ cl2 = some (b, lim, sf, tr + 1) ∧ t2 = t ∧ q_a vm 4 = q_a um 4) ∨
  (∃ b lim, cl = some (b, lim, false, T) ∧ cl2 = some (b, lim, true, 0) ∧ t2 = t ∧ q_a vm 4 = q_a um 4) ∨
  (∃ b lim, cl = some (b, lim, true, T) ∧ cl2 = none ∧ q_a vm 4 = upd (q_a um 4) b (nI lim))
theorem l_step {B T S C W Ls h t : Nat} {cl : Cl} {sm : Option Nat} {L : Nat → Nat} {N : Nat} {ux um : q_St} (g : Geo B T S C W Ls) (gl : gL B C W Ls L) (hN : 300 ≤ N) (v : vU B T S C W Ls h t cl sm (prg cl) ux um) (hsm : cl = none → sm = none) :
    ∃ cl2 t2 vx vm r, fX8_step L N ux = some (r, vx) ∧ fX11_step N um = some (r, vm) ∧ vU B T S C W Ls h t2 cl2 sm (prg cl2) vx vm ∧ (∀ x w, x < Ls → w < 8 → dsk C W Ls t2 cl2 vx vm x w = dsk C W Ls t cl ux um x w) ∧ ((r = -99 ∧ q_i vx 7 = 0) ∨ (r = knd T C W h t cl um B ∧ q_i vx 7 = q_i ux 7 ∧ trn T C W B h t cl um t2 cl2 vm)) := by
  obtain ⟨n1, n2⟩ := l_nextKind (N := N) g gl hN v
  obtain ⟨a1, a2, a3, a4, a5, a6⟩ := id g
  obtain ⟨⟨gx, gm⟩, vw, vr, cr, lr, kr, vc, e1, e2, e3, e4⟩ := id v
  unfold fX8_step fX11_step
  rw [n1, n2, qb_s, qb_s]
  unfold fX8_step_b96 fX11_step_b71 fX11_step_b248
  cases cl with
  | none =>
    by_cases c1 : fnd (lvm C W um) (h - t) t - t < C / 4
    · cases hb : (amx (lvn C W h t um) B).1 with
      | none =>
        have hk : knd T C W h t none um B = 0 := by unfold knd; dsimp only; rw [if_pos c1, if_pos hb]
        rw [hk, if_neg (by decide), if_neg (by decide), if_neg (by decide), if_neg (by decide), if_neg (by decide), if_neg (by decide), if_neg (by decide)]
        rw [if_neg (by decide), if_neg (by decide), if_neg (by decide), if_neg (by decide), if_neg (by decide), if_neg (by decide), if_neg (by decide)]
        exact ⟨none, t, ux, um, 0, rfl, rfl, v, fun _ _ _ _ => rfl, Or.inr ⟨rfl, rfl, Or.inl ⟨rfl, hb, rfl, rfl, rfl, c1⟩⟩⟩
      | some b =>
        have hk : knd T C W h t none um B = 2 := by unfold knd; dsimp only; rw [if_pos c1, if_neg (by rw [hb]; exact fun z => by cases z)]
        rw [hk, if_neg (by decide), if_pos rfl, if_neg (by decide), if_pos rfl, m_fullest g gm vw hN, qb_s, hb]
        rcases l_pick (N := N) g gl hN v (hsm rfl) hb with ⟨vx, vm, f1, f2, f3, f4, f6, f5⟩ | ⟨vx, vm, f1, f2, f3, f4, f6, f5⟩
        · rw [f1, f2, qb_s, qb_s, if_pos rfl, if_pos rfl, if_pos rfl]
          exact ⟨none, t, vx, vm, -99, rfl, rfl, f3, f5, Or.inl ⟨rfl, f4⟩⟩
        · have eh : q_i (q_si vm 19 (bno (some b))) 17 = nI h := by
            rw [qi_ne (by decide)]
            exact f3.2.1.1
          rw [f1, f2, qb_s, qb_s, if_neg (by decide), if_neg (by decide), qn_s, eh, qn_s, qn_s, qn_s, qn_s, if_neg (by decide)]
          exact ⟨some (b, h, false, 0), t, vx, _, 2, rfl, rfl, f3, f5, Or.inr ⟨rfl, f4, Or.inr (Or.inr (Or.inl ⟨b, rfl, hb, rfl, rfl, f6⟩))⟩⟩
    · have hk : knd T C W h t none um B = 1 := by unfold knd; dsimp only; rw [if_neg c1]
      rw [hk, if_pos rfl, if_pos rfl, m_oldest g gm vw hN, qb_s]
      rcases l_trim (N := N) g gl hN v with ⟨vx, vm, f1, f2, f3, f4, f6, f5⟩ | ⟨vx, vm, f1, f2, f3, f4, f6, f5⟩
      · rw [f1, f2, qb_s, qb_s, if_pos rfl, if_pos rfl, si_self, qn_s, if_pos rfl]
        exact ⟨none, t, vx, vm, -99, rfl, rfl, f3, f5, Or.inl ⟨rfl, f4⟩⟩
      · rw [f1, f2, qb_s, qb_s, if_neg (by decide), if_neg (by decide), qn_s, if_neg (by decide)]
        exact ⟨none, _, vx, _, 1, rfl, rfl, f3, f5, Or.inr ⟨rfl, f4, Or.inr (Or.inl ⟨rfl, rfl, rfl, by omega, f6⟩)⟩⟩
  | some q =>
    obtain ⟨b, lim, sf, tr⟩ := q
    have hT := kr.1.2.2.2.2.2.2.2.1
    by_cases c1 : tr < T
    · cases sf with
      | false =>
        have hk : knd T C W h t (some (b, lim, false, tr)) um B = 3 := by unfold knd; dsimp only; rw [if_pos c1]; rfl
        rw [hk, if_neg (by decide), if_neg (by decide), if_pos rfl, if_neg (by decide), if_neg (by decide), if_pos rfl]
        unfold fX8_merge
        rcases l_mergeL (N := N) g gl hN c1 8 0 N N ux um (by omega) (by omega) (by omega) v with ⟨vx, vm, f1, f2, f3, f4, f6, f5⟩ | ⟨vx, vm, f1, f2, f3, f4, f6, f5⟩
        · rw [show (0 : Int32) = nI 0 from rfl, f1, f2, qb_s]
          exact ⟨some (b, lim, false, tr), t, vx, vm, -99, rfl, rfl, f3, f5, Or.inl ⟨rfl, f4⟩⟩
        · rw [show (0 : Int32) = nI 0 from rfl, f1, f2, qb_s]
          exact ⟨some (b, lim, false, tr + 1), t, vx, vm, 3, rfl, rfl, f3, f5, Or.inr ⟨rfl, f4, Or.inr (Or.inr (Or.inr (Or.inl ⟨b, lim, false, tr, rfl, c1, rfl, rfl, f6⟩)))⟩⟩
      | true =>
        have hk : knd T C W h t (some (b, lim, true, tr)) um B = 5 := by unfold knd; dsimp only; rw [if_pos c1]; rfl
        rw [hk, if_neg (by decide), if_neg (by decide), if_neg (by decide), if_neg (by decide), if_pos rfl, if_neg (by decide), if_neg (by decide), if_neg (by decide), if_neg (by decide), if_pos rfl]
        unfold fX8_bringBack
        rcases l_backL (N := N) g gl hN c1 8 0 N N ux um (by omega) (by omega) (by omega) v with ⟨vx, vm, f1, f2, f3, f4, f6, f5⟩ | ⟨vx, vm, f1, f2, f3, f4, f6, f5⟩
        · rw [show (0 : Int32) = nI 0 from rfl, f1, f2, qb_s]
          exact ⟨some (b, lim, true, tr), t, vx, vm, -99, rfl, rfl, f3, f5, Or.inl ⟨rfl, f4⟩⟩
        · rw [show (0 : Int32) = nI 0 from rfl, f1, f2, qb_s]
          exact ⟨some (b, lim, true, tr + 1), t, vx, vm, 5, rfl, rfl, f3, f5, Or.inr ⟨rfl, f4, Or.inr (Or.inr (Or.inr (Or.inl ⟨b, lim, true, tr, rfl, c1, rfl, rfl, f6⟩)))⟩⟩
    · have e : tr = T := by omega
      subst e
      cases sf with
      | false =>
        have hk : knd tr C W h t (some (b, lim, false, tr)) um B = 4 := by unfold knd; dsimp only; rw [if_neg c1]; rfl
        rw [hk, if_neg (by decide), if_neg (by decide), if_neg (by decide), if_pos rfl, if_neg (by decide), if_neg (by decide), if_neg (by decide), if_pos rfl]
        rcases l_safe (N := N) (L := L) g v with ⟨vx, vm, f1, f2, f3, f4, f6, f5⟩ | ⟨vx, vm, f1, f2, f3, f4, f6, f5⟩
        · rw [f1, f2, qb_s, qb_s, if_pos rfl, if_pos rfl, if_pos rfl]
          exact ⟨some (b, lim, false, tr), t, vx, vm, -99, rfl, rfl, f3, f5, Or.inl ⟨rfl, f4⟩⟩
        · rw [f1, f2, qb_s, qb_s, if_neg (by decide), if_neg (by decide), qn_s, qn_s, qn_s, if_neg (by decide)]
          exact ⟨some (b, lim, true, 0), t, vx, _, 4, rfl, rfl, f3, f5, Or.inr ⟨rfl, f4, Or.inr (Or.inr (Or.inr (Or.inr (Or.inl ⟨b, lim, rfl, rfl, rfl, f6⟩))))⟩⟩
      | true =>
        have hk : knd tr C W h t (some (b, lim, true, tr)) um B = 6 := by unfold knd; dsimp only; rw [if_neg c1]; rfl
        rw [hk, if_neg (by decide), if_neg (by decide), if_neg (by decide), if_neg (by decide), if_neg (by decide), if_pos rfl, if_neg (by decide), if_neg (by decide), if_neg (by decide), if_neg (by decide), if_neg (by decide), if_pos rfl]
        rcases l_done (N := N) g gl hN v with ⟨vx, vm, f1, f2, f3, f4, f6, f5⟩ | ⟨t2, vx, vm, f1, f2, f3, f4, f6, f5⟩
        · rw [f1, f2, qb_s, qb_s, if_pos rfl, if_pos rfl]
          exact ⟨some (b, lim, true, tr), t, vx, vm, -99, rfl, rfl, f3, f5, Or.inl ⟨rfl, f4⟩⟩
        · rw [f1, f2, qb_s, qb_s, if_neg (by decide), if_neg (by decide)]
          exact ⟨none, t2, vx, vm, 6, rfl, rfl, f3, f5, Or.inr ⟨rfl, f4, Or.inr (Or.inr (Or.inr (Or.inr (Or.inr ⟨b, lim, rfl, rfl, f6⟩))))⟩⟩
