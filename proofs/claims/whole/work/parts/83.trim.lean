/-! ===== TRIM in both; how many entries are live ===== -/
theorem l_trim {B T S C W Ls h t : Nat} {sm : Option Nat} {p : Nat} {L : Nat → Nat} {N : Nat} {ux um : q_St} (g : Geo B T S C W Ls) (gl : gL B C W Ls L) (hN : 300 ≤ N) (v : vU B T S C W Ls h t none sm p ux um) :
    (∃ vx vm, fX8_trim L N ux = some (0, vx) ∧ fX11_record N um = some (0, vm) ∧ vU B T S C W Ls h t none sm p vx vm ∧ q_i vx 7 = 0 ∧ q_a vm 4 = q_a um 4 ∧ ∀ x w, x < Ls → w < 8 → dsk C W Ls t none vx vm x w = dsk C W Ls t none ux um x w) ∨
    (∃ vx vm, fX8_trim L N ux = some (1, vx) ∧ fX11_record N um = some (1, vm) ∧ vU B T S C W Ls h (fnd (lvm C W um) (h - t) t) none sm p vx (q_si vm 18 (nI (fnd (lvm C W um) (h - t) t))) ∧ q_i vx 7 = q_i ux 7 ∧ q_a vm 4 = q_a um 4 ∧ ∀ x w, x < Ls → w < 8 → dsk C W Ls (fnd (lvm C W um) (h - t) t) none vx (q_si vm 18 (nI (fnd (lvm C W um) (h - t) t))) x w = dsk C W Ls t none ux um x w) := by
  obtain ⟨⟨gx, gm⟩, vw, vr, cr, lr, kr, vc, e1, e2, e3, e4⟩ := id v
  unfold fX8_trim
  rcases l_record (L := L) (N := N) cr.2.1 with ⟨s1, s2⟩ | ⟨c, s1, s2⟩
  · left
    rw [s1, s2, qb_s, if_pos rfl]
    exact ⟨_, _, rfl, rfl, off_rec v, rfl, rfl, fun _ _ _ _ => rfl⟩
  · right
    have v2 : vU B T S C W Ls h t none sm p (q_si (q_si ux 8 c) 12 (q_i ux 12 + 1)) (q_si (q_si um 10 c) 14 (q_i um 14 + 1)) := ⟨⟨gx, gm⟩, vw, vr, on_rec cr, lr, kr, vc, e1, e2, e3, e4⟩
    have o := old_ok (T := T) (S := S) vw
    have ox := x_oldest (N := N) (L := L) (ux := q_si (q_si ux 8 c) 12 (q_i ux 12 + 1)) (um := q_si (q_si um 10 c) 14 (q_i um 14 + 1)) g gl gx vw vr hN
    obtain ⟨n1, n2⟩ := mv_tail g v2 o.1 o.2.1 o.2.2
    rw [s1, s2, qb_s, if_neg (by decide), ox, qb_s, qn_s]
    exact ⟨_, _, rfl, rfl, n1, rfl, rfl, fun x w hx _ => n2 x w hx⟩
/-- how many from q on -/
def cq (P : Nat → Bool) : Nat → Nat → Nat
  | 0, _ => 0
  | k + 1, q => (if P q = true then 1 else 0) + cq P k (q + 1)
theorem cq_le (P : Nat → Bool) : ∀ k q, cq P k q ≤ k
  | 0, q => Nat.le_refl _
  | k + 1, q => by
    have := cq_le P k (q + 1)
    simp only [cq]
    split <;> omega
/-- live, of a band or of all -/
def lvb (C W : Nat) (um : q_St) (b : Option Nat) (q : Nat) : Bool := lvm C W um q && (match b with
  | none => true
  | some k => decide (hol C um q / W = k))
def bno (b : Option Nat) : Int32 := match b with
  | none => -1
  | some k => nI k
theorem m_live {B T S C W Ls h t : Nat} {um : q_St} {N : Nat} (g : Geo B T S C W Ls) (gm : gM B T S C W Ls um) (v : vW B C W Ls h t um) (hN : 300 ≤ N) (b : Option Nat) (hb : ∀ k, b = some k → k < B) : fX11_live N (bno b) um = some (nI (cq (lvb C W um b) (h - t) t), um) := by
  have hw := g.w
  have hl := g.l
  obtain ⟨a1, a2, a3, a4, a5, a6⟩ := id g
  have hh := v.2.2.2.2.1
  have key : ∀ k n q acc, t ≤ q → q + k = h → k < n → acc + k < 2 ^ 28 → q_lp (fX11_live_b7 N) (fun _ _ _ _ => none) n (bno b) (nI acc) (nI q) um = some (nI (acc + cq (lvb C W um b) k q), um) := by
    intro k
    induction k with
    | zero =>
      intro n q acc h1 h2 h3 h4
      rw [lp_1 _ _ (by omega), fX11_live_b7, v.1, if_pos (nI_le (by omega) (by omega))]
      rfl
    | succ k ih =>
      intro n q acc h1 h2 h3 h4
      have y0 : q_lp (fX11_live_b7 N) (fun _ _ _ _ => none) (n - 1) (bno b) (nI acc + 0) (nI q + 1) um = some (nI (acc + cq (lvb C W um b) k (q + 1)), um) := by
        rw [i32_add0, nI_1]; exact ih (n - 1) (q + 1) acc (by omega) (by omega) (by omega) (by omega)
      have y1 : q_lp (fX11_live_b7 N) (fun _ _ _ _ => none) (n - 1) (bno b) (nI acc + 1) (nI q + 1) um = some (nI (acc + 1 + cq (lvb C W um b) k (q + 1)), um) := by
        rw [nI_1, nI_1]; exact ih (n - 1) (q + 1) (acc + 1) (by omega) (by omega) (by omega) (by omega)
      rw [lp_1 _ _ (by omega), fX11_live_b7, v.1, if_neg (nI_ge (by omega) (by omega)), m_isLive g gm v h1 (by omega), qb_s]
      unfold fX11_live_b52 fX11_live_b48 fX11_live_b53
      simp only [qn_s, cq]
      cases hq : lvm C W um q with
      | false =>
        have : lvb C W um b q = false := by simp [lvb, hq]
        rw [b2i_f, if_pos rfl, y0, this]
        simp
      | true =>
        rw [b2i_t, if_neg (by decide)]
        cases b with
        | none =>
          have : lvb C W um none q = true := by simp [lvb, hq]
          rw [if_pos (show bno none < 0 by decide), y1, this, if_pos rfl, Nat.add_assoc]
        | some b0 =>
          have hb0 := hb b0 rfl
          have ho := v.ho (by omega) hl.2 q
          have hm := Nat.mod_lt q (show 0 < C by omega)
          have hbd := g.band ho.1
          have hlb : lvb C W um (some b0) q = decide (hol C um q / W = b0) := by simp [lvb, hq]
          rw [if_neg (show ¬ bno (some b0) < 0 from nI_pos (by omega)), gm.2.2.2.1, gm.2.2.2.2.1, rem_n (by omega) (by omega) (by omega), qd_n (by omega) (by omega), qr_n (by omega) (by omega), ho.2, qd_n (by omega) (by omega), pk_div (by omega) (by omega) (by omega), hlb]
          by_cases hc : hol C um q / W = b0
          · rw [if_pos (show nI (hol C um q / W) = bno (some b0) by rw [hc]; rfl), y1, if_pos (by simp [hc]), Nat.add_assoc]
          · rw [if_neg (show ¬ nI (hol C um q / W) = bno (some b0) from fun z => hc (nI_inj (by omega) (by omega) z)), y0, if_neg (by simp [hc]), Nat.zero_add]
  unfold fX11_live
  have h9 := v.2.2.1
  have h10 := v.2.2.2.1
  rw [v.2.1, qn_s, show (0 : Int32) = nI 0 from rfl, key (h - t) N t 0 (Nat.le_refl _) (by omega) (by omega) (by omega), Nat.zero_add]
