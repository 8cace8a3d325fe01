/-! ===== lay: the power goes off while a band is streamed ===== -/
theorem l_layOff {B T S C W Ls na hb b k : Nat} {sm : Option Nat} {D D2 kv : Nat → Nat → Int64} {Ak : Nat → Nat → Nat} {nk : Nat → Int64} {K : Nat → Nat → Int64} {dd : Nat → Bool} {A : Nat → Nat → Nat} {nm : Nat → Int64} {ux um vx vm : q_St} (g : Geo B T S C W Ls) (t : Tn B T S C W Ls na hb D kv Ak nk K dd A nm ux um) (hna : na = 80 + (Ls + 511) / 512) (hbe : ∀ x, x / W = b → A 17 x = 0 ∧ Ak 17 x = 0) (hsm : sm = none ∨ sm = some b) (v : VV B T S C W Ls hb sm D2 vx vm) (hD : ∀ x w, x < Ls → w < 8 → ¬ x / W = b → D2 x w = D x w) (h7 : q_i vx 7 = 0) (fx : Fr [7, 8, 10, 11, 12, 15, 20] [0, 1] [0, 1] ux vx) (fm : Fr [9, 10, 12, 14, 18, 24] [0, 4] [] um vm) (hk : hb ≤ 300 * k) : Iv B T S C W Ls na k vx vm := by
  have hl := g.l
  obtain ⟨al, h71, dh, xs, ms, h80, rm0, tw, rx, nb⟩ := t
  obtain ⟨al1, al2, al3, al4, al5, al6, al7, al8⟩ := al
  have r31 : ∀ x, x < Ls → q_a um 31 x = nI (Ak 17 x) := fun x hx => al3.2.2.2.2.2.2.1 x hx
  have low : ∀ x, x / W = b → 80 ≤ x := by
    intro x hx
    rcases Nat.lt_or_ge x (na + 64) with q | q
    · have := tw.2.2.1.2.2.2 _ q
      rw [(hbe x hx).1] at this
      omega
    · omega
  have fr : ∀ k, 5 ≤ k → q_a vm k = q_a um k := fun k hk => fm.2.1 k (by simp only [List.mem_cons, List.not_mem_nil, or_false]; omega)
  have rk : RM Ls Ak nk (fun k => q_a vm (k + 14)) (q_j vm 1) := by
    rw [fm.2.2 1 (by decide)]
    have e : (fun k => q_a vm (k + 14)) = (fun k => q_a um (k + 14)) := by funext k; exact fr _ (by omega)
    rw [e]
    exact al3
  refine Ih_Iv ⟨sm, D2, kv, Ak, nk, ⟨v, ?_, rk, al4, al5, fun b' z x hx hxb => ?_, ?_, ?_⟩, Or.inl h7⟩ hk
  · refine DK_cg hl.1 al2 (fx.1 24 (by decide)) (fm.1 26 (by decide)) (fr 31 (by decide)) (fr 34 (by decide)) (fun x hx h w hw => hD x w hx hw (fun z => ?_))
    rcases h with h | h
    · have := low x z; omega
    · rw [r31 x hx, (hbe x z).2] at h
      exact h rfl
  · rcases hsm with q | q
    · rw [q] at z; cases z
    · rw [q] at z
      cases z
      exact ⟨(hbe x hxb).2, low x hxb⟩
  · exact tpR_fr al7 (fx.1 32 (by decide)) (fm.1 27 (by decide)) (fx.2.1 8 (by decide)) (fr 35 (by decide))
  · exact whR_fr al8 (fx.1 0 (by decide)) (fm.1 28 (by decide))
/-- the NODE of a LAID FILE, of the class -/
theorem x_layNode {B T S C W Ls na hb n b w : Nat} {um : q_St} {D K : Nat → Nat → Int64} {dd : Nat → Bool} {L : Nat → Nat} {N : Nat} {ux : q_St} (g : Geo B T S C W Ls) (gl : gL B C W Ls L) (hN : 3000 ≤ N) (hna : na = 80 + (Ls + 511) / 512) (s : XS B T S C W Ls hb um D K dd ux) (hn : n < 64) (hb2 : b < 8) : ∃ u1 v K2, fX4_begin L N (nI n) 3 (nI w) 52 ux = some ((), u1) ∧ fX4_setHolder L N (nI n) (nI b) u1 = some ((), v) ∧ XS B T S C W Ls hb um D K2 (setb dd (na + n) true) v ∧ (∀ y j, y ≠ na + n → K2 y j = K y j) ∧ K2 (na + n) 0 = bgW 3 w 52 1 ∧ sH (K2 (na + n)) 18 = b ∧ Fr [13, 22] [5] [2] ux v := by
  have hl := g.l
  obtain ⟨u1, a1, a2⟩ := x_begin (N := N) (k := 3) (w := w) (m := 52) g gl (by omega) hna s hn (by decide)
  have e30 : q_i u1 30 = nI na := by rw [a2.1.gx.2.2.2.2.2.2.2.2.2.2.2.1, hna]
  obtain ⟨v, b1, b2⟩ := x_setHalf (N := N) (n := b) g gl a2 (x := na + n) (i := 18) (by omega) (by decide)
  rw [setb_id setb_s] at b2
  refine ⟨u1, v, _, a1, ?_, b2, fun y j hy => ?_, ?_, ?_, ((fr_X4_begin a1).mono (by decide) (by decide) (by decide)).trans ((fr_X6_setHalf b1).mono (by decide) (by decide) (by decide))⟩
  · unfold fX4_setHolder
    have b1 : fX6_setHalf L N (nI (na + n)) 18 (nI b) u1 = some ((), v) := b1
    rw [e30, nI_add, b1, qb_s]
  · rw [setH_w (fun z => hy z.1), setW_n (fun z => hy z.1)]
    unfold updD
    rw [if_neg hy]
  · rw [setH_w (fun z => by omega), setW_s]
    rfl
  · rw [sH_set (show b < 65536 by omega), if_pos ⟨rfl, rfl⟩]
