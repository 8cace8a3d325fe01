/-! ===== the band with most live entries ===== -/
def amx (f : Nat → Nat) : Nat → Option Nat × Nat
  | 0 => (none, 0)
  | n + 1 => if (amx f n).2 < f n then (some n, f n) else amx f n
def xmx (f : Nat → Nat) : Nat → Nat
  | 0 => 0
  | n + 1 => if f (xmx f n) < f n then n else xmx f n
theorem amx_xmx (f : Nat → Nat) : ∀ n, (amx f (n + 1)).2 = f (xmx f (n + 1)) ∧ (∀ b, (amx f (n + 1)).1 = some b → b = xmx f (n + 1) ∧ 0 < f b) ∧ ((amx f (n + 1)).1 = none → f (xmx f (n + 1)) = 0)
  | 0 => by
    have e1 : amx f (0 + 1) = if 0 < f 0 then (some 0, f 0) else (none, 0) := rfl
    have e2 : xmx f (0 + 1) = 0 := by
      show (if f 0 < f 0 then 0 else 0) = 0
      split <;> rfl
    rw [e1, e2]
    by_cases c : 0 < f 0
    · rw [if_pos c]
      exact ⟨rfl, fun b h => by cases h; exact ⟨rfl, c⟩, fun h => by cases h⟩
    · rw [if_neg c]
      exact ⟨by show 0 = f 0; omega, (fun b h => by cases h), (fun _ => by omega)⟩
  | n + 1 => by
    obtain ⟨h1, h2, h3⟩ := amx_xmx f n
    have e1 : amx f (n + 1 + 1) = if (amx f (n + 1)).2 < f (n + 1) then (some (n + 1), f (n + 1)) else amx f (n + 1) := rfl
    have e2 : xmx f (n + 1 + 1) = if f (xmx f (n + 1)) < f (n + 1) then n + 1 else xmx f (n + 1) := rfl
    rw [e1, e2, h1]
    by_cases c : f (xmx f (n + 1)) < f (n + 1)
    · rw [if_pos c, if_pos c]
      exact ⟨rfl, fun b h => by cases h; exact ⟨rfl, by omega⟩, fun h => by cases h⟩
    · rw [if_neg c, if_neg c]
      exact ⟨h1, h2, h3⟩
theorem amx_le (f : Nat → Nat) (m : Nat) (h : ∀ n, f n ≤ m) : ∀ n, (amx f n).2 ≤ m
  | 0 => Nat.zero_le _
  | n + 1 => by
    have e1 : amx f (n + 1) = if (amx f n).2 < f n then (some n, f n) else amx f n := rfl
    rw [e1]
    split
    · exact h n
    · exact amx_le f m h n
theorem amx_lt (f : Nat → Nat) : ∀ n b, (amx f n).1 = some b → b < n
  | 0, b, h => by cases h
  | n + 1, b, h => by
    have e1 : amx f (n + 1) = if (amx f n).2 < f n then (some n, f n) else amx f n := rfl
    rw [e1] at h
    split at h
    · cases h; omega
    · have := amx_lt f n b h; omega
/-- live entries of a band -/
def lvn (C W h t : Nat) (um : q_St) (b : Nat) : Nat := cq (lvb C W um (some b)) (h - t) t
theorem m_fullest {B T S C W Ls h t : Nat} {um : q_St} {N : Nat} (g : Geo B T S C W Ls) (gm : gM B T S C W Ls um) (v : vW B C W Ls h t um) (hN : 300 ≤ N) : fX11_fullest N um = some (bno (amx (lvn C W h t um) B).1, um) := by
  obtain ⟨a1, a2, a3, a4, a5, a6⟩ := id g
  have h9 := v.2.2.1
  have h10 := v.2.2.2.1
  have hf : ∀ n, lvn C W h t um n ≤ 256 := fun n => Nat.le_trans (cq_le _ _ _) (by omega)
  have ha : ∀ n, (amx (lvn C W h t um) n).2 ≤ 256 := amx_le _ 256 hf
  have key : ∀ k n b, b + k = B → k < n → q_lp (fX11_fullest_b6 N) (fun _ _ _ _ => none) n (bno (amx (lvn C W h t um) b).1) (nI (amx (lvn C W h t um) b).2) (nI b) um = some (bno (amx (lvn C W h t um) B).1, um) := by
    intro k
    induction k with
    | zero =>
      intro n b h1 h2
      have : b = B := by omega
      rw [lp_1 _ _ (by omega), fX11_fullest_b6, gm.1, if_pos (nI_le (by omega) (by omega)), this]
    | succ k ih =>
      intro n b h1 h2
      have hlive := m_live (N := N) g gm v hN (some b) (fun k e => by cases e; omega)
      have hlive : fX11_live N (nI b) um = some (nI (lvn C W h t um b), um) := hlive
      have ihh := ih (n - 1) (b + 1) (by omega) (by omega)
      have e1 : amx (lvn C W h t um) (b + 1) = if (amx (lvn C W h t um) b).2 < lvn C W h t um b then (some b, lvn C W h t um b) else amx (lvn C W h t um) b := rfl
      have hfb := hf b
      have hab := ha b
      rw [lp_1 _ _ (by omega), fX11_fullest_b6, gm.1, if_neg (nI_ge (by omega) (by omega)), hlive, qb_s]
      unfold fX11_fullest_b32 fX11_fullest_b45
      simp only [qn_s]
      rw [nI_1]
      by_cases c : (amx (lvn C W h t um) b).2 < lvn C W h t um b
      · have nc : ¬ nI (lvn C W h t um b) ≤ nI (amx (lvn C W h t um) b).2 := nI_ge c (by omega)
        rw [e1, if_pos c] at ihh
        rw [if_neg nc, if_neg nc]
        exact ihh
      · have nc : nI (lvn C W h t um b) ≤ nI (amx (lvn C W h t um) b).2 := nI_le (by omega) (by omega)
        rw [e1, if_neg c] at ihh
        rw [if_pos nc, if_pos nc]
        exact ihh
  unfold fX11_fullest
  exact key B N 0 (by omega) (by omega)
