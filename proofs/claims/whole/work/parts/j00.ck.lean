/-! ===== check: what the class counts ===== -/
def CK (W Ls : Nat) (A : Nat → Nat → Nat) (ux : q_St) (n : Nat) (R : Nat → Prop) (J : Nat) (u : q_St) : Prop := Fr [34, 35, 36, 37, 38, 39, 40] [7, 10, 11, 12, 13, 14] [4] ux u ∧ q_i u 40 = 0 ∧ (∃ U : Nat → Bool, (∀ x, x < Ls → q_a u 12 x = b2i (U x)) ∧ ∀ x, U x = true ↔ (∃ m r, m < n ∧ tl A W m r = x ∧ tl A W m r ≠ 0) ∨ (∃ r, R r ∧ tl A W n r = x ∧ tl A W n r ≠ 0)) ∧ (∀ e, e < 64 → q_a u 13 e = nI (if e = 0 then 0 else cnt (fun j => decide (A 14 j = e)) J)) ∧ (∀ e, e < 64 → A 5 e = 2 → (∃ j, j < J ∧ A 14 j = e ∧ A 14 j ≠ 0) → q_a u 14 e = nI (A 7 e))
theorem ck_ext {W Ls n J : Nat} {A : Nat → Nat → Nat} {ux u : q_St} {R R2 : Nat → Prop} (c : CK W Ls A ux n R J u) (h : ∀ r, tl A W n r ≠ 0 → (R r ↔ R2 r)) : CK W Ls A ux n R2 J u := by
  obtain ⟨c1, c2, ⟨U, u1, u2⟩, c4, c5⟩ := c
  refine ⟨c1, c2, ⟨U, u1, fun x => ?_⟩, c4, c5⟩
  rw [u2 x]
  constructor
  · rintro (q | ⟨r, q1, q2, q3⟩)
    · exact Or.inl q
    · exact Or.inr ⟨r, (h r q3).mp q1, q2, q3⟩
  · rintro (q | ⟨r, q1, q2, q3⟩)
    · exact Or.inl q
    · exact Or.inr ⟨r, (h r q3).mpr q1, q2, q3⟩
theorem ck_J {W Ls n J J2 : Nat} {A : Nat → Nat → Nat} {ux u : q_St} {R : Nat → Prop} (c : CK W Ls A ux n R J u) (hJ : J ≤ J2) (h : ∀ j, J ≤ j → j < J2 → A 14 j = 0) : CK W Ls A ux n R J2 u := by
  obtain ⟨c1, c2, c3, c4, c5⟩ := c
  refine ⟨c1, c2, c3, fun e he => ?_, fun e he hk hj => ?_⟩
  · rw [c4 e he]
    by_cases c0 : e = 0
    · rw [if_pos c0, if_pos c0]
    · rw [if_neg c0, if_neg c0]
      congr 1
      have key : ∀ d, J + d ≤ J2 → cnt (fun j => decide (A 14 j = e)) (J + d) = cnt (fun j => decide (A 14 j = e)) J := by
        intro d
        induction d with
        | zero => intro _; rfl
        | succ d ih =>
          intro hd
          have e1 : cnt (fun j => decide (A 14 j = e)) (J + (d + 1)) = cnt (fun j => decide (A 14 j = e)) (J + d) + (if decide (A 14 (J + d) = e) = true then 1 else 0) := rfl
          rw [e1, ih (by omega), h (J + d) (by omega) (by omega), decide_eq_false (fun z => c0 z.symm)]
          rfl
      have := key (J2 - J) (by omega)
      rw [show J + (J2 - J) = J2 by omega] at this
      exact this.symm
  · obtain ⟨j, j1, j2, j3⟩ := hj
    refine c5 e he hk ⟨j, ?_, j2, j3⟩
    rcases Nat.lt_or_ge j J with q | q
    · exact q
    · exact absurd (h j q j1) j3
theorem ck_use {B T S C W Ls na hb n r0 J : Nat} {um : q_St} {D K : Nat → Nat → Int64} {dd : Nat → Bool} {A : Nat → Nat → Nat} {nm : Nat → Int64} {L : Nat → Nat} {N : Nat} {ux u : q_St} {R : Nat → Prop} (x : Xr B T S C W Ls na hb um D K dd A nm L ux) (hn : n < 64) (c : CK W Ls A ux n R J u) (h0 : tl A W n r0 ≠ 0) (hR : ¬ R r0) : ∃ v, fX1_use L N (nI (tl A W n r0)) u = some ((), v) ∧ CK W Ls A ux n (fun r => R r ∨ r = r0) J v := by
  obtain ⟨c1, c2, ⟨U, u1, u2⟩, c4, c5⟩ := c
  have t3 := x.2.2.2.2.2.1
  obtain ⟨y, hy⟩ : ∃ y, y = tl A W n r0 := ⟨_, rfl⟩
  have hr := t3.2.1 n r0 hn h0
  rw [← hy] at hr h0 ⊢
  have hl := x.1.1.l
  have l17 : L 17 = Ls := x.1.2.1.2.2.2.2.2.2.2.2.2.2.2.2.2.2.2.2.2.1
  have hna := x.1.2.2
  have e29 : q_i u 29 = nI (144 + (Ls + 511) / 512) := (c1.1 29 (by decide)).trans x.2.1.1.gx.2.2.2.2.2.2.2.2.2.2.1
  have hU : U y = false := by
    cases hh : U y with
    | false => rfl
    | true =>
      exfalso
      rcases (u2 y).mp hh with ⟨m, r, m1, m2, m3⟩ | ⟨r, m1, m2, m3⟩
      · have := t3.1 m r n r0 (by omega) hn m3 (by rw [m2, hy])
        omega
      · have := t3.1 n r n r0 hn hn m3 (by rw [m2, hy])
        rw [this.2] at m1
        exact hR m1
  refine ⟨q_sa u 12 (upd (q_a u 12) y 1), ?_, c1.trans (fr_sa1 u (by decide)), c2, ⟨setb U y true, fun z hz => ?_, fun z => ?_⟩, ?_, ?_⟩
  · unfold fX1_use
    rw [e29, if_neg (nI_nlt (by omega) (by omega)), l17, if_neg (nI_ge hr.2.1 (by omega)), qr_n hr.2.1 (by omega), u1 y hr.2.1, hU, qw_n hr.2.1 (by omega), cl_n (by omega)]
    rfl
  · rw [qa_eq]
    by_cases c : z = y
    · rw [c, up_s, setb_s]; rfl
    · rw [up_n c, setb_n c]; exact u1 z hz
  · rw [sbt, u2 z]
    constructor
    · rintro (q | q | ⟨r, q1, q2, q3⟩)
      · exact Or.inr ⟨r0, Or.inr rfl, by rw [q, hy], by rw [← hy]; exact h0⟩
      · exact Or.inl q
      · exact Or.inr ⟨r, Or.inl q1, q2, q3⟩
    · rintro (q | ⟨r, q1 | q1, q2, q3⟩)
      · exact Or.inr (Or.inl q)
      · exact Or.inr (Or.inr ⟨r, q1, q2, q3⟩)
      · left; rw [← q2, q1, hy]
  · rw [qa_ne (by decide)]; exact c4
  · rw [qa_ne (by decide)]; exact c5
theorem ck_told {B T S C W Ls na hb n r0 J X off cn : Nat} {um : q_St} {D K : Nat → Nat → Int64} {dd : Nat → Bool} {A : Nat → Nat → Nat} {nm : Nat → Int64} {L : Nat → Nat} {N : Nat} {ux : q_St} {R : Nat → Prop} {x4 : Int32} (x : Xr B T S C W Ls na hb um D K dd A nm L ux) (hn : n < 64) (hX : X < Ls) (hX0 : X ≠ 0) (hoc : off + cn ≤ 32) (hh : ∀ i, i < cn → sH (K X) (off + i) = tl A W n (r0 + i)) (hR : ∀ i, i < cn → ¬ R (r0 + i)) (hlim : ∀ i, i < cn → tl A W n (r0 + i) ≠ 0 → ¬ x4 ≤ nI i) :
    ∀ (k i c m : Nat) (u : q_St), i + k = cn → k < m → c ≤ i → ((∃ i', i' < i ∧ tl A W n (r0 + i') ≠ 0) → 0 < c) → CK W Ls A ux n (fun r => R r ∨ (r0 ≤ r ∧ r < r0 + i)) J u → ∃ v c', q_lp (fX1_useTold_b6 L N) (fun _ _ _ _ _ _ _ => none) m (nI X) (nI off) (nI cn) x4 (nI c) (nI i) u = some (nI c', v) ∧ CK W Ls A ux n (fun r => R r ∨ (r0 ≤ r ∧ r < r0 + cn)) J v ∧ c' ≤ cn ∧ ((∃ i', i' < cn ∧ tl A W n (r0 + i') ≠ 0) → 0 < c') := by
  have hlt : ∀ r, tl A W n r < 2048 := by
    intro r
    have hl := x.1.1.l
    by_cases z : tl A W n r = 0
    · omega
    · have := x.2.2.2.2.2.1.2.1 n r hn z; omega
  intro k
  induction k with
  | zero =>
    intro i c m u h1 h2 h3 h4 ck
    have : i = cn := by omega
    subst this
    exact ⟨u, c, by rw [lp_1 _ _ (by omega), fX1_useTold_b6, if_pos (nI_le (by omega) (by omega))], ck, h3, h4⟩
  | succ k ih =>
    intro i c m u h1 h2 h3 h4 ck
    have xu := Xr_sc x ck.1
    have hf : fX6_half L N (nI X) (nI (off + i)) u = some (nI (tl A W n (r0 + i)), u) := by rw [Xs_half x.1.1 x.1.2.1 xu.2.1 hX hX0 (by omega), hh i (by omega)]
    by_cases c0 : tl A W n (r0 + i) = 0
    · obtain ⟨v, c', a1, a2, a3, a4⟩ := ih (i + 1) c (m - 1) u (by omega) (by omega) (by omega) (fun ⟨i', q1, q2⟩ => by
        refine h4 ⟨i', ?_, q2⟩
        rcases Nat.lt_or_ge i' i with q | q
        · exact q
        · have : i' = i := by omega
          rw [this] at q2; exact absurd c0 q2) (ck_ext ck (fun r hr => ⟨fun z => by
          rcases z with z | z
          · exact Or.inl z
          · exact Or.inr (by omega), fun z => by
          rcases z with z | z
          · exact Or.inl z
          · right
            rcases Nat.lt_or_ge r (r0 + i) with q | q
            · omega
            · have : r = r0 + i := by omega
              rw [this] at hr; exact absurd c0 hr⟩))
      refine ⟨v, c', ?_, a2, a3, a4⟩
      rw [lp_1 _ _ (by omega), fX1_useTold_b6, if_neg (nI_ge (by omega) (by omega)), nI_add, hf, qb_s, c0, if_pos (show nI 0 = (0 : Int32) from rfl)]
      unfold fX1_useTold_b56
      rw [qn_s, nI_1]
      exact a1
    · obtain ⟨u2, b1, b2⟩ := ck_use (N := N) x hn ck c0 (fun z => by
        rcases z with z | z
        · exact hR i (by omega) z
        · omega)
      obtain ⟨v, c', a1, a2, a3, a4⟩ := ih (i + 1) (c + 1) (m - 1) u2 (by omega) (by omega) (by omega) (fun _ => by omega) (ck_ext b2 (fun r hr => ⟨fun z => by
          rcases z with (z | z) | z
          · exact Or.inl z
          · exact Or.inr (by omega)
          · exact Or.inr (by omega), fun z => by
          rcases z with z | z
          · exact Or.inl (Or.inl z)
          · rcases Nat.lt_or_ge r (r0 + i) with q | q
            · exact Or.inl (Or.inr (by omega))
            · exact Or.inr (by omega)⟩))
      refine ⟨v, c', ?_, a2, a3, a4⟩
      rw [lp_1 _ _ (by omega), fX1_useTold_b6, if_neg (nI_ge (by omega) (by omega)), nI_add, hf, qb_s, if_neg (nI_ne0 (by omega) (by have := hlt (r0 + i); omega)), b1, qb_s, if_neg (hlim i (by omega) c0)]
      unfold fX1_useTold_b50 fX1_expect fX1_useTold_b56
      rw [if_neg (by decide), qb_s, qn_s, qn_s, nI_1, nI_1]
      exact a1
theorem ck_index {B T S C W Ls na hb n r0 ri J : Nat} {um : q_St} {D K : Nat → Nat → Int64} {dd : Nat → Bool} {A : Nat → Nat → Nat} {nm : Nat → Int64} {L : Nat → Nat} {N : Nat} {ux u : q_St} {R : Nat → Prop} {x4 : Int32} (x : Xr B T S C W Ls na hb um D K dd A nm L ux) (hN : 3000 ≤ N) (hn : n < 64) (hh : tl A W n ri ≠ 0 → ∀ i, i < 32 → sH (K (tl A W n ri)) i = tl A W n (r0 + i)) (hR : ∀ i, i < 32 → ¬ R (r0 + i)) (hRi : ¬ R ri) (hne : ri < r0 ∨ r0 + 32 ≤ ri) (hlim : ∀ i, i < 32 → tl A W n (r0 + i) ≠ 0 → ¬ x4 ≤ nI i) (hdn : ∀ i, i < 32 → tl A W n (r0 + i) ≠ 0 → tl A W n ri ≠ 0) (hex : tl A W n ri ≠ 0 → ∃ i, i < 32 ∧ tl A W n (r0 + i) ≠ 0) (ck : CK W Ls A ux n R J u) :
    ∃ v, fX1_useIndex L N (nI (tl A W n ri)) x4 u = some ((), v) ∧ CK W Ls A ux n (fun r => R r ∨ r = ri ∨ (r0 ≤ r ∧ r < r0 + 32)) J v := by
  unfold fX1_useIndex
  by_cases c0 : tl A W n ri = 0
  · refine ⟨u, by rw [c0, if_pos (show nI 0 = (0 : Int32) from rfl)], ck_ext ck (fun r hr => ⟨fun z => Or.inl z, fun z => ?_⟩)⟩
    rcases z with z | z | z
    · exact z
    · rw [z] at hr; exact absurd c0 hr
    · exact absurd c0 (hdn (r - r0) (by omega) (by rw [show r0 + (r - r0) = r by omega]; exact hr))
  · have t := x.2.2.2.2.2.1.2.1 n ri hn c0
    have hl := x.1.1.l
    obtain ⟨u2, b1, b2⟩ := ck_use (N := N) x hn ck c0 hRi
    obtain ⟨v, c', a1, a2, a3, a4⟩ := ck_told (N := N) (X := tl A W n ri) (off := 0) (cn := 32) (r0 := r0) (x4 := x4) (R := fun r => R r ∨ r = ri) x hn t.2.1 c0 (by decide) (fun i hi => by rw [Nat.zero_add]; exact hh c0 i hi) (fun i hi z => by
      rcases z with z | z
      · exact hR i hi z
      · omega) hlim 32 0 0 N u2 (by omega) (by omega) (by omega) (fun ⟨i', q, _⟩ => absurd q (Nat.not_lt_zero _)) (ck_ext b2 (fun r hr => ⟨fun z => Or.inl z, fun z => by
      rcases z with z | z
      · exact z
      · omega⟩))
    have h0 := a4 (hex c0)
    have a1 : fX1_useTold L N (nI (tl A W n ri)) 0 32 x4 u2 = some (nI c', v) := a1
    refine ⟨v, ?_, ck_ext a2 (fun r hr => ⟨fun z => by
      rcases z with (z | z) | z
      · exact Or.inl z
      · exact Or.inr (Or.inl z)
      · exact Or.inr (Or.inr z), fun z => by
      rcases z with z | z | z
      · exact Or.inl (Or.inl z)
      · exact Or.inl (Or.inr z)
      · exact Or.inr z⟩)⟩
    rw [if_neg (nI_ne0 (by omega) (by omega)), b1, qb_s, a1, qb_s, if_neg (show ¬ nI c' ≤ (0 : Int32) from nI_ge (a := 0) (by omega) (by omega))]
    unfold fX1_useIndex_b27 fX1_expect
    rw [if_neg (by decide), qb_s]
