/-! ===== a PIECE taken, in both ===== -/
def ndB (p1 p2 r : Nat) : Bool := decide ((p1 ≤ r ∧ r ≤ p2) ∨ (r = 1068 ∧ 12 ≤ p2 ∧ p1 < 44) ∨ (r = 1069 ∧ 44 ≤ p2) ∨ (1070 ≤ r ∧ r < 1102 ∧ 44 + 32 * (r - 1070) ≤ p2 ∧ p1 < 44 + 32 * (r - 1070) + 32))
def ST (W n : Nat) (nd : Nat → Bool) (Ax Am Ax' Am' : Nat → Nat → Nat) : Prop := (∀ r, tl Ax W n r ≠ 0 → tl Ax' W n r = tl Ax W n r) ∧ (∀ j, (Ax' 18 j = Ax 18 j ∧ Am' 18 j = Am 18 j) ∨ (Ax' 18 j = 0 ∧ Am' 18 j = 0 ∧ Ax 17 (j / 64) ≠ 1)) ∧ (∀ x, Ax 17 x = 1 → Ax' 17 x = 1) ∧ (∀ k, k ≠ 9 → k ≠ 10 → k ≠ 17 → k ≠ 18 → Ax' k = Ax k) ∧ (∀ j, j / 1068 ≠ n → Ax' 9 j = Ax 9 j) ∧ (∀ j, j / 34 ≠ n → Ax' 10 j = Ax 10 j) ∧ (∀ r, tl Ax' W n r ≠ 0 → tl Ax W n r ≠ 0 ∨ nd r = true)
theorem ST_rf {W n : Nat} {nd : Nat → Bool} {Ax Am : Nat → Nat → Nat} : ST W n nd Ax Am Ax Am := ⟨fun _ _ => rfl, fun _ => Or.inl ⟨rfl, rfl⟩, fun _ h => h, fun _ _ _ _ _ => rfl, fun _ _ => rfl, fun _ _ => rfl, fun _ h => Or.inl h⟩
theorem ST_tr {W n : Nat} {nd : Nat → Bool} {A1 B1 A2 B2 A3 B3 : Nat → Nat → Nat} (a : ST W n nd A1 B1 A2 B2) (b : ST W n nd A2 B2 A3 B3) : ST W n nd A1 B1 A3 B3 := by
  obtain ⟨a1, a2, a3, a4, a5, a6, a7⟩ := a
  obtain ⟨b1, b2, b3, b4, b5, b6, b7⟩ := b
  refine ⟨fun r h => ?_, fun j => ?_, fun x h => b3 x (a3 x h), fun k h1 h2 h3 h4 => (b4 k h1 h2 h3 h4).trans (a4 k h1 h2 h3 h4), fun j h => (b5 j h).trans (a5 j h), fun j h => (b6 j h).trans (a6 j h), fun r h => ?_⟩
  · have e := a1 r h
    rw [b1 r (by rw [e]; exact h), e]
  · rcases b2 j with ⟨q1, q2⟩ | ⟨q1, q2, q3⟩
    · rcases a2 j with ⟨p1, p2⟩ | ⟨p1, p2, p3⟩
      · exact Or.inl ⟨q1.trans p1, q2.trans p2⟩
      · exact Or.inr ⟨q1.trans p1, q2.trans p2, p3⟩
    · exact Or.inr ⟨q1, q2, fun z => q3 (a3 _ z)⟩
  · rcases b7 r h with q | q
    · exact a7 r q
    · exact Or.inr q
theorem ST_ad {W n r0 y : Nat} {nd : Nat → Bool} {Ax Am : Nat → Nat → Nat} (h1 : Ax 5 n = 1) (hr : r0 < 1102) (h0 : tl Ax W n r0 = 0) (hnd : nd r0 = true) (hy : Ax 17 y = 0) : ST W n nd Ax Am (adR Ax n r0 y) (adR Am n r0 y) := by
  have htl : ∀ r, tl (adR Ax n r0 y) W n r = if n = n ∧ r = r0 then y else tl Ax W n r := fun r => ad_tl h1 hr
  refine ⟨fun r h => ?_, fun j => ?_, fun x h => ?_, fun k h1 h2 h3 h4 => adR_k h1 h2 h3 h4, fun j h => ?_, fun j h => ?_, fun r h => ?_⟩
  · rw [htl, if_neg (fun z => h (by rw [z.2]; exact h0))]
  · rw [adR_18, adR_18]
    by_cases c : j / 64 = y
    · rw [if_pos c, if_pos c, c]
      exact Or.inr ⟨rfl, rfl, by omega⟩
    · rw [if_neg c, if_neg c]
      exact Or.inl ⟨rfl, rfl⟩
  · rw [adR_17]
    split
    · rfl
    · exact h
  · rw [adR_9, if_neg (fun z => h (by omega))]
  · rw [adR_10, if_neg (fun z => h (by omega))]
  · rw [htl] at h
    by_cases c : n = n ∧ r = r0
    · rw [c.2]; exact Or.inr hnd
    · rw [if_neg c] at h; exact Or.inl h
/-- the class: what is told, or is taken -/
theorem x_toldP {B T S C W Ls na hb n r0 : Nat} {um0 : q_St} {D : Nat → Nat → Int64} {Ak : Nat → Nat → Nat} {nm : Nat → Int64} {ux um : q_St} {dd0 nd : Nat → Bool} {Ax Am : Nat → Nat → Nat} {K : Nat → Nat → Int64} {dd dm : Nat → Bool} {WS : Nat → Prop} {u w : q_St} {L : Nat → Nat} {N : Nat} (g : Geo B T S C W Ls) (gl : gL B C W Ls L) (hna : na = 80 + (Ls + 511) / 512) (hn : n < 64) (ps : PS B T S C W Ls na hb n um0 D Ak nm ux um dd0 nd Ax Am K dd dm WS u w) (hr : r0 < 1102) (hal : own r0 = true ∨ tl Ax W n (trl r0) ≠ 0) : fX6_half L N (nI (tel Ax W na n r0)) (nI (hpl r0)) u = some (nI (tl Ax W n r0), u) ∧ tel Ax W na n r0 < Ls := by
  have hl := g.l
  obtain ⟨xs, ms, rm, rxf, t1, t3, -⟩ := ps
  have hs : tel Ax W na n r0 ≠ 0 ∧ tel Ax W na n r0 < Ls := by
    unfold tel
    by_cases c : own r0 = true
    · rw [if_pos c]; omega
    · rw [if_neg c]
      rcases hal with z | z
      · exact absurd z c
      · have := t3.2.1 n (trl r0) hn z
        omega
  refine ⟨?_, hs.2⟩
  rw [Xs_half g gl xs hs.2 hs.1 (hpl_lt (by omega)), rxf.2.2.1 r0 hr hal]
theorem l_told {B T S C W Ls na hb n r0 : Nat} {um0 : q_St} {D : Nat → Nat → Int64} {Ak : Nat → Nat → Nat} {nm : Nat → Int64} {ux um : q_St} {dd0 nd : Nat → Bool} {Ax Am : Nat → Nat → Nat} {K : Nat → Nat → Int64} {dd dm : Nat → Bool} {WS : Nat → Prop} {u w : q_St} {L : Nat → Nat} {N : Nat} (g : Geo B T S C W Ls) (gl : gL B C W Ls L) (hna : na = 80 + (Ls + 511) / 512) (hN : 3000 ≤ N) (gm : gM B T S C W Ls um) (hn : n < 64) (ps : PS B T S C W Ls na hb n um0 D Ak nm ux um dd0 nd Ax Am K dd dm WS u w) (hr : r0 < 1102) (hnd : nd r0 = true) (hal : own r0 = true ∨ (tl Ax W n (trl r0) ≠ 0 ∧ nd (trl r0) = true)) :
    (tl Ax W n r0 ≠ 0 ∧ fX0_takeTold L N (nI (tel Ax W na n r0)) (nI (hpl r0)) u = some (nI (tl Ax W n r0), u)) ∨
    (tl Ax W n r0 = 0 ∧ ∃ y u2 w1 w3 K2 dd2 dm2, y ≠ 0 ∧ y < Ls ∧ tl (adR Ax n r0 y) W n r0 = y ∧ fX0_takeTold L N (nI (tel Ax W na n r0)) (nI (hpl r0)) u = some (nI y, u2) ∧ fX11_takeBlock N (-1) w = some (nI y, w1) ∧ (own r0 = true → fX11_soilNode N (nI n) (q_sa w1 (rw9 r0) (upd (q_a w1 (rw9 r0)) (ix9 n r0) (nI y))) = some ((), w3)) ∧ (¬ own r0 = true → fX11_soil N (nI (tl Ax W n (trl r0))) (q_sa w1 (rw9 r0) (upd (q_a w1 (rw9 r0)) (ix9 n r0) (nI y))) = some ((), w3)) ∧ PS B T S C W Ls na hb n um0 D Ak nm ux um dd0 nd (adR Ax n r0 y) (adR Am n r0 y) K2 dd2 dm2 WS u2 w3 ∧ RM Ls (adR Am n r0 y) nm (q_a (q_sa w1 (rw9 r0) (upd (q_a w1 (rw9 r0)) (ix9 n r0) (nI y)))) (q_j (q_sa w1 (rw9 r0) (upd (q_a w1 (rw9 r0)) (ix9 n r0) (nI y))) 0) ∧ ST W n nd Ax Am (adR Ax n r0 y) (adR Am n r0 y)) := by
  have hl := g.l
  obtain ⟨hh, hL⟩ := x_toldP (N := N) g gl hna hn ps hr (by
    rcases hal with z | ⟨z, -⟩
    · exact Or.inl z
    · exact Or.inr z)
  have h1 := ps.2.2.2.2.2.2.1
  have t3 := ps.2.2.2.2.2.1
  unfold fX0_takeTold
  rw [hh, qb_s]
  by_cases c : tl Ax W n r0 = 0
  · right
    refine ⟨c, ?_⟩
    obtain ⟨y, u1, u2, w1, w3, K2, dd2, dm2, y0, yL, a1, a2, a3, a4, a5, a6, a7, a8⟩ := ad_op (N := N) g gl hna hN gm hn ps hr c hnd hal
    refine ⟨y, u2, w1, w3, K2, dd2, dm2, y0, yL, by rw [ad_tl h1 hr, if_pos ⟨rfl, rfl⟩], ?_, a3, a4, a5, a6, a8, ST_ad h1 hr c hnd a7⟩
    rw [c, if_pos (show nI 0 = (0 : Int32) from rfl), a1, qb_s, a2, qb_s]
  · left
    have := t3.2.1 n r0 hn c
    refine ⟨c, ?_⟩
    rw [if_neg (nI_ne0 (by omega) (by omega))]
theorem PS_r9 {B T S C W Ls na hb n : Nat} {um0 : q_St} {D : Nat → Nat → Int64} {Ak : Nat → Nat → Nat} {nm : Nat → Int64} {ux um : q_St} {dd0 nd : Nat → Bool} {Ax Am : Nat → Nat → Nat} {K : Nat → Nat → Int64} {dd dm : Nat → Bool} {WS : Nat → Prop} {u w : q_St} (ps : PS B T S C W Ls na hb n um0 D Ak nm ux um dd0 nd Ax Am K dd dm WS u w) (hn : n < 64) : (∀ q, q < 1068 → q_a w 9 (1068 * n + q) = i0 (tl Ax W n q)) ∧ (∀ i, i < 34 → q_a w 10 (34 * n + i) = i0 (tl Ax W n (1068 + i))) := by
  obtain ⟨xs, ms, rm, rxf, t1, t3, h1, hAm, -⟩ := ps
  refine ⟨fun q hq => ?_, fun i hi => ?_⟩
  · rw [rm.2.2.1 _ (by omega), hAm 9 (by decide), tl_p h1 hq]
  · rw [rm.2.1 _ (by omega), hAm 10 (by decide), tl_i h1 hi]
theorem l_piece {B T S C W Ls na hb n p p1 p2 : Nat} {um0 : q_St} {D : Nat → Nat → Int64} {Ak : Nat → Nat → Nat} {nm : Nat → Int64} {ux um : q_St} {dd0 : Nat → Bool} {Ax Am : Nat → Nat → Nat} {K : Nat → Nat → Int64} {dd dm : Nat → Bool} {WS : Nat → Prop} {u w : q_St} {L : Nat → Nat} {N : Nat} (g : Geo B T S C W Ls) (gl : gL B C W Ls L) (hna : na = 80 + (Ls + 511) / 512) (hN : 3000 ≤ N) (gm : gM B T S C W Ls um) (hn : n < 64) (ps : PS B T S C W Ls na hb n um0 D Ak nm ux um dd0 (ndB p1 p2) Ax Am K dd dm WS u w) (hp1 : p1 ≤ p) (hp2 : p ≤ p2) (hp : p2 < 1068) :
    ∃ Ax' Am' K' dd' dm' u' w', tl Ax' W n p ≠ 0 ∧ fX0_takePiece L N (nI n) (nI p) u = some (nI (tl Ax' W n p), u') ∧ ((tl Ax W n p ≠ 0 ∧ w' = w) ∨ (tl Ax W n p = 0 ∧ fX11_fillPiece N (nI n) (nI p) w = some ((), w'))) ∧ PS B T S C W Ls na hb n um0 D Ak nm ux um dd0 (ndB p1 p2) Ax' Am' K' dd' dm' WS u' w' ∧ ST W n (ndB p1 p2) Ax Am Ax' Am' := by
  have hl := g.l
  have ndp : ndB p1 p2 p = true := decide_eq_true (Or.inl ⟨hp1, hp2⟩)
  have e30 : ∀ Ax Am K dd dm u w, PS B T S C W Ls na hb n um0 D Ak nm ux um dd0 (ndB p1 p2) Ax Am K dd dm WS u w → q_i u 30 + nI n = nI (na + n) := fun Ax Am K dd dm u w ps => by rw [ps.1.1.gx.2.2.2.2.2.2.2.2.2.2.2.1, ← hna, nI_add]
  have wi : (1068 : Int32) * nI n = nI (1068 * n) := pk_mul 1068 n
  have wj : (34 : Int32) * nI n = nI (34 * n) := pk_mul 34 n
  -- the last step, of the reference
  have b88 : ∀ (Ax Am : Nat → Nat → Nat) (K : Nat → Nat → Int64) (dd dm : Nat → Bool) (u w : q_St) (y : Nat) (w1 w3 : q_St), PS B T S C W Ls na hb n um0 D Ak nm ux um dd0 (ndB p1 p2) Ax Am K dd dm WS u w → fX11_takeBlock N (-1) w = some (nI y, w1) → (own p = true → fX11_soilNode N (nI n) (q_sa w1 (rw9 p) (upd (q_a w1 (rw9 p)) (ix9 n p) (nI y))) = some ((), w3)) → (¬ own p = true → fX11_soil N (nI (tl Ax W n (trl p))) (q_sa w1 (rw9 p) (upd (q_a w1 (rw9 p)) (ix9 n p) (nI y))) = some ((), w3)) → RM Ls (adR Am n p y) nm (q_a (q_sa w1 (rw9 p) (upd (q_a w1 (rw9 p)) (ix9 n p) (nI y)))) (q_j (q_sa w1 (rw9 p) (upd (q_a w1 (rw9 p)) (ix9 n p) (nI y))) 0) → (12 ≤ p → tl Ax W n (trl p) ≠ 0) → fX11_fillPiece_b88 N (nI n) (nI p) (if p < 12 then -1 else nI (ixo p)) w = some ((), w3) := by
    intro Ax Am K dd dm u w y w1 w3 ps a1 a2 a3 a4 a5
    have er : rw9 p = 9 := if_pos (by omega)
    have ei : ix9 n p = 1068 * n + p := if_pos (by omega)
    rw [er, ei] at a2 a3 a4
    unfold fX11_fillPiece_b88
    rw [a1, qb_s, wi, nI_add, qw_n (by omega) (by omega), cl_n (by omega)]
    by_cases c : p < 12
    · rw [if_pos c, if_pos rfl, a2 (decide_eq_true (Or.inl c)), qb_s]
    · have hx : ixo p < 34 := by unfold ixo; split <;> omega
      have no : ¬ own p = true := fun z => by have := own_t z; omega
      have htr := ixo_trl (q := p) (by omega) (by omega)
      have h1 := ps.2.2.2.2.2.2.1
      have e10 : q_a (q_sa w1 9 (upd (q_a w1 9) (1068 * n + p) (nI y))) 10 (34 * n + ixo p) = nI (tl Ax W n (trl p)) := by
        rw [a4.2.1 _ (by omega), adR_10, if_neg (by omega), ps.2.2.2.2.2.2.2.1 10 (by decide), ← tl_i (W := W) h1 hx, htr, i0_ne (a5 (by omega))]
      rw [if_neg c, if_neg (m1_ne _ (by omega)), wj, nI_add, qr_n (by omega) (by omega), e10, a3 no, qb_s]
  by_cases c12 : p < 12
  · -- the NODE tells it
    have op : own p = true := decide_eq_true (Or.inl c12)
    have ehp : hpl p = 4 + p := if_pos c12
    have hX : fX0_takePiece L N (nI n) (nI p) u = q_bnd (fX0_takeTold L N (nI (tel Ax W na n p)) (nI (hpl p)) u) (fun r20 u21 => some (r20, u21)) := by
      unfold fX0_takePiece fX4_sectorOf
      rw [qb_s, e30 _ _ _ _ _ _ _ ps, if_neg (show ¬ (12 : Int32) ≤ nI p from nI_ge (b := 12) c12 (by decide)), tel_own op, ehp, show (4 : Int32) + nI p = nI (4 + p) from nI_add 4 p]
    rcases l_told (N := N) g gl hna hN gm hn ps (r0 := p) (by omega) ndp (Or.inl op) with ⟨a0, a1⟩ | ⟨a0, y, u2, w1, w3, K2, dd2, dm2, a1, a2, a3, a4, a5, a6, a7, a8, a9, a10⟩
    · exact ⟨Ax, Am, K, dd, dm, u, w, a0, by rw [hX, a1, qb_s], Or.inl ⟨a0, rfl⟩, ps, ST_rf⟩
    · refine ⟨_, _, K2, dd2, dm2, u2, w3, by rw [a3]; exact a1, by rw [hX, a4, qb_s, a3], Or.inr ⟨a0, ?_⟩, a8, a10⟩
      have := b88 Ax Am K dd dm u w y w1 w3 ps a5 a6 a7 a9 (fun z => by omega)
      unfold fX11_fillPiece
      rw [m_indexOf (by omega), qb_s, if_pos c12] at *
      rw [if_pos rfl]
      exact this
  · have hx : ixo p < 34 := by unfold ixo; split <;> omega
    have htr := ixo_trl (q := p) (by omega) (by omega)
    have no : ¬ own p = true := fun z => by have := own_t z; omega
    -- from an INDEX that is there
    have fromI : ∀ (Ax Am : Nat → Nat → Nat) (K : Nat → Nat → Int64) (dd dm : Nat → Bool) (u w : q_St), PS B T S C W Ls na hb n um0 D Ak nm ux um dd0 (ndB p1 p2) Ax Am K dd dm WS u w → tl Ax W n (trl p) ≠ 0 → ndB p1 p2 (trl p) = true → ∃ Ax' Am' K' dd' dm' u' w', tl Ax' W n p ≠ 0 ∧ fX0_takeTold L N (nI (tl Ax W n (trl p))) (nI (hpl p)) u = some (nI (tl Ax' W n p), u') ∧ ((tl Ax W n p ≠ 0 ∧ w' = w) ∨ (tl Ax W n p = 0 ∧ fX11_fillPiece_b88 N (nI n) (nI p) (nI (ixo p)) w = some ((), w'))) ∧ PS B T S C W Ls na hb n um0 D Ak nm ux um dd0 (ndB p1 p2) Ax' Am' K' dd' dm' WS u' w' ∧ ST W n (ndB p1 p2) Ax Am Ax' Am' := by
      intro Ax Am K dd dm u w ps h0 hnd
      have et : tel Ax W na n p = tl Ax W n (trl p) := if_neg no
      rw [← et]
      rcases l_told (N := N) g gl hna hN gm hn ps (r0 := p) (by omega) ndp (Or.inr ⟨h0, hnd⟩) with ⟨a0, a1⟩ | ⟨a0, y, u2, w1, w3, K2, dd2, dm2, a1, a2, a3, a4, a5, a6, a7, a8, a9, a10⟩
      · exact ⟨Ax, Am, K, dd, dm, u, w, a0, a1, Or.inl ⟨a0, rfl⟩, ps, ST_rf⟩
      · refine ⟨_, _, K2, dd2, dm2, u2, w3, by rw [a3]; exact a1, by rw [a4, a3], Or.inr ⟨a0, ?_⟩, a8, a10⟩
        have := b88 Ax Am K dd dm u w y w1 w3 ps a5 a6 a7 a9 (fun _ => h0)
        rw [if_neg c12] at this
        exact this
    -- the INDEX taken by the reference
    have b66 : ∀ (Ax Am : Nat → Nat → Nat) (K : Nat → Nat → Int64) (dd dm : Nat → Bool) (u w : q_St) (y : Nat) (w1 w3 : q_St), PS B T S C W Ls na hb n um0 D Ak nm ux um dd0 (ndB p1 p2) Ax Am K dd dm WS u w → fX11_takeBlock N (-1) w = some (nI y, w1) → (own (trl p) = true → fX11_soilNode N (nI n) (q_sa w1 (rw9 (trl p)) (upd (q_a w1 (rw9 (trl p))) (ix9 n (trl p)) (nI y))) = some ((), w3)) → (¬ own (trl p) = true → fX11_soil N (nI (tl Ax W n (trl (trl p)))) (q_sa w1 (rw9 (trl p)) (upd (q_a w1 (rw9 (trl p))) (ix9 n (trl p)) (nI y))) = some ((), w3)) → RM Ls (adR Am n (trl p) y) nm (q_a (q_sa w1 (rw9 (trl p)) (upd (q_a w1 (rw9 (trl p))) (ix9 n (trl p)) (nI y)))) (q_j (q_sa w1 (rw9 (trl p)) (upd (q_a w1 (rw9 (trl p))) (ix9 n (trl p)) (nI y))) 0) → (44 ≤ p → tl Ax W n 1069 ≠ 0) → fX11_fillPiece_b66 N (nI n) (nI p) (nI (ixo p)) w = fX11_fillPiece_b88 N (nI n) (nI p) (nI (ixo p)) w3 := by
      intro Ax Am K dd dm u w y w1 w3 ps a1 a2 a3 a4 a5
      have hti := trl_in no
      have er : rw9 (trl p) = 10 := if_neg (by omega)
      have ei : ix9 n (trl p) = 34 * n + ixo p := by
        unfold ix9
        rw [if_neg (by omega)]
        omega
      rw [er, ei] at a2 a3 a4
      have h1 := ps.2.2.2.2.2.2.1
      unfold fX11_fillPiece_b66 fX11_soilTeller
      rw [a1, qb_s, wj, nI_add, qw_n (by omega) (by omega), cl_n (by omega)]
      by_cases c44 : p < 44
      · have ex : ixo p = 0 := by unfold ixo; rw [if_pos c44]
        have ow : own (trl p) = true := by rw [← htr, ex]; decide
        rw [ex] at a2 ⊢
        rw [if_pos (show nI 0 ≤ (1 : Int32) by decide), a2 ow, qb_s, qb_s]
      · have ex : 2 ≤ ixo p := by unfold ixo; rw [if_neg c44]; omega
        have now : ¬ own (trl p) = true := fun z => by have := own_t z; omega
        have tt : trl (trl p) = 1069 := by
          have : 1070 ≤ trl p := by omega
          generalize trl p = q at this hti
          unfold trl
          rw [if_neg (by omega), if_neg (by omega)]
        have e10 : q_a (q_sa w1 10 (upd (q_a w1 10) (34 * n + ixo p) (nI y))) 10 (34 * n + 1) = nI (tl Ax W n 1069) := by
          have := tl_i (W := W) h1 (show 1 < 34 by decide)
          rw [a4.2.1 _ (by omega), adR_10, if_neg (by omega), ps.2.2.2.2.2.2.2.1 10 (by decide), ← this, i0_ne (a5 (by omega))]
        have a3' := a3 now
        rw [tt] at a3'
        rw [if_neg (show ¬ nI (ixo p) ≤ (1 : Int32) from nI_ge (a := 1) (by omega) (by omega)), show nI (34 * n) + (1 : Int32) = nI (34 * n + 1) from nI_add _ 1, qr_n (by omega) (by omega), e10, a3', qb_s, qb_s]
    by_cases c44 : p < 44
    · -- the first INDEX
      have et : trl p = 1068 := by unfold trl; rw [if_pos c44]
      have ow : own 1068 = true := by decide
      have nd68 : ndB p1 p2 1068 = true := decide_eq_true (Or.inr (Or.inl ⟨rfl, by omega, by omega⟩))
      have ex : ixo p = 0 := by unfold ixo; rw [if_pos c44]
      have ehp : hpl p = p - 12 := by unfold hpl; rw [if_neg c12, if_pos c44]
      have hX : fX0_takePiece L N (nI n) (nI p) u = q_bnd (fX0_takeTold L N (nI (tel Ax W na n 1068)) (nI (hpl 1068)) u) (fun r14 u15 => q_bnd (fX0_takeTold L N r14 (nI (hpl p)) u15) (fun r17 u18 => some (r17, u18))) := by
        unfold fX0_takePiece fX4_sectorOf
        rw [qb_s, e30 _ _ _ _ _ _ _ ps, if_pos (show (12 : Int32) ≤ nI p from nI_le (a := 12) (by omega) (by omega)), if_neg (show ¬ (44 : Int32) ≤ nI p from nI_ge (b := 44) c44 (by decide)), tel_own ow, ehp, show nI p - (12 : Int32) = nI (p - 12) from pk_sub (b := 12) (by omega)]
        rfl
      have hM : ∀ (Ax Am : Nat → Nat → Nat) (K : Nat → Nat → Int64) (dd dm : Nat → Bool) (u w : q_St), PS B T S C W Ls na hb n um0 D Ak nm ux um dd0 (ndB p1 p2) Ax Am K dd dm WS u w → fX11_fillPiece N (nI n) (nI p) w = if tl Ax W n 1068 = 0 then fX11_fillPiece_b66 N (nI n) (nI p) (nI (ixo p)) w else fX11_fillPiece_b88 N (nI n) (nI p) (nI (ixo p)) w := by
        intro Ax Am K dd dm u w ps
        have q := (PS_r9 ps hn).2 0 (by decide)
        have hlt : tl Ax W n 1068 < 2 ^ 31 := by
          by_cases z : tl Ax W n 1068 = 0
          · omega
          · have := ps.2.2.2.2.2.1.2.1 n 1068 hn z; omega
        unfold fX11_fillPiece
        rw [m_indexOf (by omega), qb_s, if_neg c12, if_neg (m1_ne _ (by omega)), wj, nI_add, qr_n (by omega) (by omega), ex, q]
        by_cases z : tl Ax W n 1068 = 0
        · rw [if_pos z, if_pos ((i0_m1 hlt).mpr z), if_pos (show nI 0 ≤ (1 : Int32) by decide)]
        · rw [if_neg z, if_neg (fun y => z ((i0_m1 hlt).mp y))]
      rcases l_told (N := N) g gl hna hN gm hn ps (r0 := 1068) (by decide) nd68 (Or.inl ow) with ⟨a0, a1⟩ | ⟨a0, y, u2, w1, w3, K2, dd2, dm2, a1, a2, a3, a4, a5, a6, a7, a8, a9, a10⟩
      · obtain ⟨Ax', Am', K', dd', dm', u', w', b1, b2, b3, b4, b5⟩ := fromI Ax Am K dd dm u w ps (by rw [et]; exact a0) (by rw [et]; exact nd68)
        rw [et] at b2
        refine ⟨Ax', Am', K', dd', dm', u', w', b1, by rw [hX, a1, qb_s, b2, qb_s], ?_, b4, b5⟩
        rcases b3 with b3 | ⟨b3, b6⟩
        · exact Or.inl b3
        · exact Or.inr ⟨b3, by rw [hM _ _ _ _ _ _ _ ps, if_neg a0]; exact b6⟩
      · obtain ⟨Ax', Am', K', dd', dm', u', w', b1, b2, b3, b4, b5⟩ := fromI _ _ K2 dd2 dm2 u2 w3 a8 (by rw [et, a3]; exact a1) (by rw [et]; exact nd68)
        rw [et, a3] at b2
        have hp0 : tl Ax W n p = 0 := by
          by_cases z : tl Ax W n p = 0
          · exact z
          · have := ps.2.2.2.2.2.2.2.2.1.1 p (by omega) (by omega) z
            rw [et] at this
            exact absurd a0 this
        refine ⟨Ax', Am', K', dd', dm', u', w', b1, by rw [hX, a4, qb_s, b2, qb_s], Or.inr ⟨hp0, ?_⟩, b4, ST_tr a10 b5⟩
        have e66 := b66 Ax Am K dd dm u w y w1 w3 ps a5 (by rw [et]; exact a6) (by rw [et]; exact a7) (by rw [et]; exact a9) (fun z => by omega)
        rw [hM _ _ _ _ _ _ _ ps, if_pos a0, e66]
        rcases b3 with ⟨b3, -⟩ | ⟨-, b6⟩
        · exfalso
          apply b3
          rw [ad_tl ps.2.2.2.2.2.2.1 (by decide), if_neg (fun z => by omega)]
          exact hp0
        · exact b6
    · -- through the DOUBLE
      obtain ⟨i, hi⟩ : ∃ i, i = (p - 44) / 32 := ⟨_, rfl⟩
      have et : trl p = 1070 + i := by unfold trl; rw [if_neg c44, if_pos (by omega), hi]
      have ow : own 1069 = true := by decide
      have nd69 : ndB p1 p2 1069 = true := decide_eq_true (Or.inr (Or.inr (Or.inl ⟨rfl, by omega⟩)))
      have ndi : ndB p1 p2 (1070 + i) = true := decide_eq_true (Or.inr (Or.inr (Or.inr ⟨by omega, by omega, by omega, by omega⟩)))
      have ex : ixo p = 2 + i := by unfold ixo; rw [if_neg c44, hi]
      have ehp : hpl p = (p - 44) % 32 := by unfold hpl; rw [if_neg c12, if_neg c44, if_pos (by omega)]
      have ehi : hpl (1070 + i) = i := by unfold hpl; rw [if_neg (by omega), if_neg (by omega), if_neg (by omega), if_neg (by omega), if_neg (by omega), if_pos (by omega)]; omega
      have noi : ¬ own (1070 + i) = true := fun z => by have := own_t z; omega
      have tti : trl (1070 + i) = 1069 := by unfold trl; rw [if_neg (by omega), if_neg (by omega)]
      have hX : fX0_takePiece L N (nI n) (nI p) u = q_bnd (fX0_takeTold L N (nI (tel Ax W na n 1069)) (nI (hpl 1069)) u) (fun r5 u6 => q_bnd (fX0_takeTold L N r5 (nI (hpl (1070 + i))) u6) (fun r8 u9 => q_bnd (fX0_takeTold L N r8 (nI (hpl p)) u9) (fun r11 u12 => some (r11, u12)))) := by
        unfold fX0_takePiece fX4_sectorOf
        rw [qb_s, e30 _ _ _ _ _ _ _ ps, if_pos (show (12 : Int32) ≤ nI p from nI_le (a := 12) (by omega) (by omega)), if_pos (show (44 : Int32) ≤ nI p from nI_le (a := 44) (by omega) (by omega)), tel_own ow, ehp, ehi, qn_s, show nI p - (44 : Int32) = nI (p - 44) from pk_sub (b := 44) (by omega), show (32 : Int32) = nI 32 from rfl, rem_n (by omega) (by decide) (by decide), pk_div (by omega) (by decide) (by decide), ← hi]
        rfl
      -- from the DOUBLE that is there
      have fromD : ∀ (Ax Am : Nat → Nat → Nat) (K : Nat → Nat → Int64) (dd dm : Nat → Bool) (u w : q_St), PS B T S C W Ls na hb n um0 D Ak nm ux um dd0 (ndB p1 p2) Ax Am K dd dm WS u w → tl Ax W n 1069 ≠ 0 → ∃ Ax' Am' K' dd' dm' u' w', tl Ax' W n p ≠ 0 ∧ q_bnd (fX0_takeTold L N (nI (tl Ax W n 1069)) (nI (hpl (1070 + i))) u) (fun r8 u9 => q_bnd (fX0_takeTold L N r8 (nI (hpl p)) u9) (fun r11 u12 => some (r11, u12))) = some (nI (tl Ax' W n p), u') ∧ ((tl Ax W n p ≠ 0 ∧ w' = w) ∨ (tl Ax W n p = 0 ∧ (if tl Ax W n (1070 + i) = 0 then fX11_fillPiece_b66 N (nI n) (nI p) (nI (ixo p)) w else fX11_fillPiece_b88 N (nI n) (nI p) (nI (ixo p)) w) = some ((), w'))) ∧ PS B T S C W Ls na hb n um0 D Ak nm ux um dd0 (ndB p1 p2) Ax' Am' K' dd' dm' WS u' w' ∧ ST W n (ndB p1 p2) Ax Am Ax' Am' := by
        intro Ax Am K dd dm u w ps h69
        have eti : tel Ax W na n (1070 + i) = tl Ax W n 1069 := by unfold tel; rw [if_neg noi, tti]
        rw [← eti]
        rcases l_told (N := N) g gl hna hN gm hn ps (r0 := 1070 + i) (by omega) ndi (Or.inr ⟨by rw [tti]; exact h69, by rw [tti]; exact nd69⟩) with ⟨a0, a1⟩ | ⟨a0, y, u2, w1, w3, K2, dd2, dm2, a1, a2, a3, a4, a5, a6, a7, a8, a9, a10⟩
        · obtain ⟨Ax', Am', K', dd', dm', u', w', b1, b2, b3, b4, b5⟩ := fromI Ax Am K dd dm u w ps (by rw [et]; exact a0) (by rw [et]; exact ndi)
          rw [et] at b2
          refine ⟨Ax', Am', K', dd', dm', u', w', b1, by rw [a1, qb_s, b2, qb_s], ?_, b4, b5⟩
          rcases b3 with b3 | ⟨b3, b6⟩
          · exact Or.inl b3
          · exact Or.inr ⟨b3, by rw [if_neg a0]; exact b6⟩
        · obtain ⟨Ax', Am', K', dd', dm', u', w', b1, b2, b3, b4, b5⟩ := fromI _ _ K2 dd2 dm2 u2 w3 a8 (by rw [et, a3]; exact a1) (by rw [et]; exact ndi)
          rw [et, a3] at b2
          have hp0 : tl Ax W n p = 0 := by
            by_cases z : tl Ax W n p = 0
            · exact z
            · have := ps.2.2.2.2.2.2.2.2.1.1 p (by omega) (by omega) z
              rw [et] at this
              exact absurd a0 this
          refine ⟨Ax', Am', K', dd', dm', u', w', b1, by rw [a4, qb_s, b2, qb_s], Or.inr ⟨hp0, ?_⟩, b4, ST_tr a10 b5⟩
          have e66 := b66 Ax Am K dd dm u w y w1 w3 ps a5 (by rw [et]; exact a6) (by rw [et]; exact a7) (by rw [et]; exact a9) (fun _ => h69)
          rw [if_pos a0, e66]
          rcases b3 with ⟨b3, -⟩ | ⟨-, b6⟩
          · exfalso
            apply b3
            rw [ad_tl ps.2.2.2.2.2.2.1 (by omega), if_neg (fun z => by omega)]
            exact hp0
          · exact b6
      have hlt : ∀ (Ax : Nat → Nat → Nat) (r : Nat), TW3 W Ls (na + 64) Ax → tl Ax W n r < 2 ^ 31 := by
        intro Ax r t3
        by_cases z : tl Ax W n r = 0
        · omega
        · have := t3.2.1 n r hn z; omega
      rcases l_told (N := N) g gl hna hN gm hn ps (r0 := 1069) (by decide) nd69 (Or.inl ow) with ⟨a0, a1⟩ | ⟨a0, y, u2, w1, w3, K2, dd2, dm2, a1, a2, a3, a4, a5, a6, a7, a8, a9, a10⟩
      · obtain ⟨Ax', Am', K', dd', dm', u', w', b1, b2, b3, b4, b5⟩ := fromD Ax Am K dd dm u w ps a0
        refine ⟨Ax', Am', K', dd', dm', u', w', b1, by rw [hX, a1, qb_s, b2], ?_, b4, b5⟩
        rcases b3 with b3 | ⟨b3, b6⟩
        · exact Or.inl b3
        · refine Or.inr ⟨b3, ?_⟩
          have q1 := (PS_r9 ps hn).2 (2 + i) (by omega)
          have q2 := (PS_r9 ps hn).2 1 (by decide)
          have q2 : q_a w 10 (34 * n + 1) = i0 (tl Ax W n 1069) := q2
          rw [show 1068 + (2 + i) = 1070 + i by omega] at q1
          rw [← b6]
          unfold fX11_fillPiece
          rw [m_indexOf (by omega), qb_s, if_neg c12, if_neg (m1_ne _ (by omega)), wj, nI_add, qr_n (by omega) (by omega), ex, q1]
          by_cases z : tl Ax W n (1070 + i) = 0
          · rw [if_pos z, if_pos ((i0_m1 (hlt Ax _ ps.2.2.2.2.2.1)).mpr z), if_neg (show ¬ nI (2 + i) ≤ (1 : Int32) from nI_ge (a := 1) (by omega) (by omega)), show nI (34 * n) + (1 : Int32) = nI (34 * n + 1) from nI_add _ 1, qr_n (by omega) (by omega), q2, if_neg (fun y => a0 ((i0_m1 (hlt Ax _ ps.2.2.2.2.2.1)).mp y))]
          · rw [if_neg z, if_neg (fun y => z ((i0_m1 (hlt Ax _ ps.2.2.2.2.2.1)).mp y))]
      · obtain ⟨Ax', Am', K', dd', dm', u', w', b1, b2, b3, b4, b5⟩ := fromD _ _ K2 dd2 dm2 u2 w3 a8 (by rw [a3]; exact a1)
        rw [a3] at b2
        have hi0 : tl Ax W n (1070 + i) = 0 := by
          by_cases z : tl Ax W n (1070 + i) = 0
          · exact z
          · exact absurd a0 (ps.2.2.2.2.2.2.2.2.1.2 i (by omega) z)
        have hp0 : tl Ax W n p = 0 := by
          by_cases z : tl Ax W n p = 0
          · exact z
          · have := ps.2.2.2.2.2.2.2.2.1.1 p (by omega) (by omega) z
            rw [et] at this
            exact absurd hi0 this
        have h1 := ps.2.2.2.2.2.2.1
        refine ⟨Ax', Am', K', dd', dm', u', w', b1, by rw [hX, a4, qb_s, b2], Or.inr ⟨hp0, ?_⟩, b4, ST_tr a10 b5⟩
        have q1 := (PS_r9 ps hn).2 (2 + i) (by omega)
        have q2 := (PS_r9 ps hn).2 1 (by decide)
        have q2 : q_a w 10 (34 * n + 1) = i0 (tl Ax W n 1069) := q2
        rw [show 1068 + (2 + i) = 1070 + i by omega, hi0] at q1
        rw [a0] at q2
        have er : rw9 1069 = 10 := by decide
        have ei : ix9 n 1069 = 34 * n + 1 := by unfold ix9; rw [if_neg (by decide)]
        rw [er, ei] at a6
        unfold fX11_fillPiece
        rw [m_indexOf (by omega), qb_s, if_neg c12, if_neg (m1_ne _ (by omega)), wj, nI_add, qr_n (by omega) (by omega), ex, q1, if_pos (show i0 0 = (-1 : Int32) from rfl), if_neg (show ¬ nI (2 + i) ≤ (1 : Int32) from nI_ge (a := 1) (by omega) (by omega)), show nI (34 * n) + (1 : Int32) = nI (34 * n + 1) from nI_add _ 1, qr_n (by omega) (by omega), q2, if_pos (show i0 0 = (-1 : Int32) from rfl), a5, qb_s, qw_n (by omega) (by omega), cl_n (by omega), a6 ow, qb_s]
        rcases b3 with ⟨b3, -⟩ | ⟨-, b6⟩
        · exfalso
          apply b3
          rw [ad_tl h1 (by decide), if_neg (fun z => by omega)]
          exact hp0
        · have e9 : tl (adR Ax n 1069 y) W n (1070 + i) = 0 := by
            rw [ad_tl h1 (by decide), if_neg (fun z => by omega)]
            exact hi0
          rw [if_pos e9, ex] at b6
          exact b6
