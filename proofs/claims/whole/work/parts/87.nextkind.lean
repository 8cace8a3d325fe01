/-! ===== the KIND of the next STEP, in both ===== -/
theorem cq_pos (P : Nat → Bool) : ∀ k q q0, q ≤ q0 → q0 < q + k → P q0 = true → 0 < cq P k q
  | 0, q, q0, h1, h2, h3 => by omega
  | k + 1, q, q0, h1, h2, h3 => by
    simp only [cq]
    by_cases c : q0 = q
    · rw [← c, if_pos h3]; omega
    · have := cq_pos P k (q + 1) q0 (by omega) (by omega) h3
      omega
theorem cq_zero (P : Nat → Bool) : ∀ k q, (∀ i, q ≤ i → i < q + k → P i = false) → cq P k q = 0
  | 0, q, h => rfl
  | k + 1, q, h => by
    simp only [cq]
    rw [h q (Nat.le_refl _) (by omega), cq_zero P k (q + 1) (fun i h1 h2 => h i (by omega) (by omega))]
    rfl
theorem amx_ge (f : Nat → Nat) : ∀ n b, b < n → f b ≤ (amx f n).2
  | 0, b, h => by omega
  | n + 1, b, h => by
    have e1 : amx f (n + 1) = if (amx f n).2 < f n then (some n, f n) else amx f n := rfl
    rw [e1]
    by_cases c : b = n
    · subst c
      split
      · exact Nat.le_refl _
      · omega
    · have := amx_ge f n b (by omega)
      split
      · show f b ≤ f n; omega
      · exact this
theorem amx_no (f : Nat → Nat) : ∀ n, (amx f n).1 = none → (amx f n).2 = 0
  | 0, _ => rfl
  | n + 1, h => by
    have e1 : amx f (n + 1) = if (amx f n).2 < f n then (some n, f n) else amx f n := rfl
    rw [e1] at h ⊢
    split at h
    · cases h
    · rename_i c
      rw [if_neg c]
      exact amx_no f n h
theorem amx_all0 (f : Nat → Nat) : ∀ n, (∀ b, b < n → f b = 0) → (amx f n).1 = none
  | 0, _ => rfl
  | n + 1, h => by
    have e1 : amx f (n + 1) = if (amx f n).2 < f n then (some n, f n) else amx f n := rfl
    rw [e1, if_neg (by have := h n (by omega); omega)]
    exact amx_all0 f n (fun b hb => h b (by omega))
theorem old_full {B T S C W Ls h t : Nat} {um : q_St} (g : Geo B T S C W Ls) (v : vW B C W Ls h t um) : fnd (lvm C W um) (h - t) t = h ↔ (amx (lvn C W h t um) B).1 = none := by
  have hl := g.l
  obtain ⟨a1, a2, a3, a4, a5, a6⟩ := id g
  have h9 := v.2.2.1
  have o := fnd_in (lvm C W um) (h - t) t
  constructor
  · intro e
    apply amx_all0
    intro b _
    apply cq_zero
    intro i h1 h2
    have := fnd_no (lvm C W um) (h - t) t i h1 (by omega)
    simp [lvb, this]
  · intro e
    rcases Nat.lt_or_ge (fnd (lvm C W um) (h - t) t) h with q | q
    · exfalso
      have hy := fnd_yes (lvm C W um) (h - t) t (by omega)
      have ho := v.ho (by omega) hl.2 (fnd (lvm C W um) (h - t) t)
      have hbd := g.band ho.1
      have h1 := amx_ge (lvn C W h t um) B _ hbd
      have h2 := amx_no _ B e
      have h3 : 0 < lvn C W h t um (hol C um (fnd (lvm C W um) (h - t) t) / W) := by
        refine cq_pos _ _ _ (fnd (lvm C W um) (h - t) t) o.1 (by omega) ?_
        simp [lvb, hy]
      omega
    · omega
/-- the KIND, by number -/
def knd (T C W h t : Nat) (cl : Cl) (um : q_St) (B : Nat) : Int32 := match cl with
  | none => if fnd (lvm C W um) (h - t) t - t < C / 4 then (if (amx (lvn C W h t um) B).1 = none then 0 else 2) else 1
  | some (_, _, sf, tr) => if tr < T then (if sf = true then 5 else 3) else (if sf = true then 6 else 4)
theorem l_nextKind {B T S C W Ls h t : Nat} {cl : Cl} {sm : Option Nat} {p : Nat} {L : Nat → Nat} {N : Nat} {ux um : q_St} (g : Geo B T S C W Ls) (gl : gL B C W Ls L) (hN : 300 ≤ N) (v : vU B T S C W Ls h t cl sm p ux um) :
    fX8_nextKind L N ux = some (knd T C W h t cl um B, ux) ∧ fX11_nextKind N um = some (knd T C W h t cl um B, um) := by
  obtain ⟨a1, a2, a3, a4, a5, a6⟩ := id g
  obtain ⟨⟨gx, gm⟩, vw, vr, cr, lr, ⟨k1, ks⟩, vc, e1, e2, e3, e4⟩ := id v
  have hh := vw.2.2.2.2.1
  have h9 := vw.2.2.1
  have eh : q_i ux 14 = nI h := vr.1.trans vw.1
  have et : q_i ux 15 = nI t := vr.2.1.trans vw.2.1
  unfold fX8_nextKind fX11_nextKind knd
  cases cl with
  | none =>
    obtain ⟨k2, k3, k4, k5⟩ := k1
    have o := fnd_in (lvm C W um) (h - t) t
    have of := old_full g vw
    have ol : fnd (lvm C W um) (h - t) t ≤ h := by omega
    rw [if_pos k2, if_pos k3, x_oldest g gl gx vw vr hN, m_oldest g gm vw hN, qb_s, qb_s, et, vw.2.1, gx.2.2.2.2.2.1, gm.2.2.2.1, pk_sub o.1, show nI C / (4 : Int32) = nI (C / 4) from pk_div (d := 4) (by omega) (by decide) (by decide), eh, m_fullest g gm vw hN, qb_s]
    by_cases c1 : fnd (lvm C W um) (h - t) t - t < C / 4
    · rw [if_pos (nI_lt c1 (by omega)), if_pos (nI_lt c1 (by omega))]
      dsimp only
      rw [if_pos c1]
      cases hb : (amx (lvn C W h t um) B).1 with
      | none =>
        have e := of.mpr hb
        rw [if_pos (by rw [e]), if_pos (show bno none = -1 from rfl)]
        exact ⟨rfl, rfl⟩
      | some b =>
        have hbB := amx_lt _ B b hb
        have e : ¬ fnd (lvm C W um) (h - t) t = h := fun z => by rw [of.mp z] at hb; cases hb
        rw [if_neg (fun z => e (nI_inj (by omega) (by omega) z)), if_neg (show ¬ bno (some b) = -1 from m1_ne b (by omega))]
        exact ⟨rfl, rfl⟩
    · rw [if_neg (nI_nlt (by omega) (by omega)), if_neg (nI_nlt (by omega) (by omega))]
      dsimp only
      rw [if_neg c1]
      exact ⟨rfl, rfl⟩
  | some q =>
    obtain ⟨b, lim, sf, tr⟩ := q
    obtain ⟨k2, k3, k4, k5, k6, k7, k8, k9, k10⟩ := k1
    have hb : b < B := e3 b lim sf tr rfl
    dsimp only
    rw [k2, k3, if_neg (m1_ne b (by omega)), if_neg (m1_ne b (by omega)), gx.2.1, k8, k6]
    by_cases c1 : tr < T
    · rw [if_pos c1] at k10 ⊢
      rw [if_neg (nI_ge c1 (by omega)), k10.1]
      cases sf <;> exact ⟨rfl, rfl⟩
    · rw [if_neg c1] at k10 ⊢
      rw [if_pos (nI_le (by omega) (by omega)), k10.1]
      cases sf <;> exact ⟨rfl, rfl⟩
