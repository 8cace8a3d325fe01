/-! ===== shrink and prune of the reference ===== -/
theorem GM_9 {A A1 : Nat → Nat → Nat} {W na n Ls q : Nat} {P dm dm1 : Nat → Bool} (gm : GM A W na n Ls P A1 dm dm1) (hq : q < 1068) (h : P q = false) : A1 9 (1068 * n + q) = A 9 (1068 * n + q) := by
  rw [gm.2.2.1, if_neg (fun z => ?_)]
  have e : (1068 * n + q) % 1068 = q := by omega
  rw [e, h] at z
  cases z.2
theorem GM_10 {A A1 : Nat → Nat → Nat} {W na n Ls i : Nat} {P dm dm1 : Nat → Bool} (gm : GM A W na n Ls P A1 dm dm1) (hi : i < 34) (h : P (1068 + i) = false) : A1 10 (34 * n + i) = A 10 (34 * n + i) := by
  rw [gm.2.2.2.1, if_neg (fun z => ?_)]
  have e : (34 * n + i) % 34 = i := by omega
  rw [e, h] at z
  cases z.2
theorem GM_9l {A A1 : Nat → Nat → Nat} {W na n Ls q : Nat} {P dm dm1 : Nat → Bool} (gm : GM A W na n Ls P A1 dm dm1) (hq : q < 1068) : A1 9 (1068 * n + q) = if P q = true then 0 else A 9 (1068 * n + q) := by
  by_cases c : P q = true
  · rw [if_pos c, gm.2.2.1, if_pos ⟨by omega, by rw [show (1068 * n + q) % 1068 = q by omega]; exact c⟩]
  · rw [if_neg c]
    refine GM_9 gm hq ?_
    cases h : P q with
    | true => exact absurd h c
    | false => rfl
theorem m_prune {B T S C W Ls na n p c0 : Nat} {A : Nat → Nat → Nat} {nm : Nat → Int64} {dm : Nat → Bool} {N : Nat} {um : q_St} (g : Geo B T S C W Ls) (hna : na = 80 + (Ls + 511) / 512) (hN : 3000 ≤ N) (t3 : TW3 W Ls (na + 64) A) (ft : FT A W n) (hn : n < 64) (h9 : ∀ q, q < 1068 → A 9 (1068 * n + q) = tl A W n q) (h10 : ∀ i, i < 34 → A 10 (34 * n + i) = tl A W n (1068 + i)) (h7 : q_i um 7 = nI 80) (h8 : q_i um 8 = nI (80 + (Ls + 511) / 512)) :
    ∀ (k i m acc : Nat) (fl : Nat) (P1 : Nat → Bool) (A1 : Nat → Nat → Nat) (dm1 : Nat → Bool) (u : q_St), i + k = 34 → k < m → RM Ls A1 nm (q_a u) (q_j u 0) → MS Ls dm1 u → GM A W na n Ls P1 A1 dm dm1 → (∀ r, P1 r = true ↔ (r < 1068 ∧ p ≤ r ∧ tl A W n r ≠ 0) ∨ (((r = 1068 ∨ (1070 ≤ r ∧ r < 1102)) ∧ r < 1068 + i) ∧ RI A W n p r)) → cnt P1 1400 = c0 + acc → acc ≤ i → fl ≤ 1 → (fl = 1 ↔ ∃ j, 2 ≤ j ∧ j < i ∧ j < 34 ∧ tl A W n (1068 + j) ≠ 0 ∧ ¬ RI A W n p (1068 + j)) → Fr [25] [9, 10, 17, 33] [] um u →
    ∃ vm A2 dm2 P2 c, q_lp (fX11_prune_b7 N) (fun _ _ _ _ _ => none) m (nI n) (nI acc) (nI fl) (nI i) u = some (nI c, vm) ∧ RM Ls A2 nm (q_a vm) (q_j vm 0) ∧ MS Ls dm2 vm ∧ GM A W na n Ls P2 A2 dm dm2 ∧ (∀ r, P2 r = true ↔ RR A W n p r) ∧ cnt P2 1400 = c0 + c ∧ c ≤ 35 ∧ Fr [25] [9, 10, 17, 33] [] um vm := by
  have hl := g.l
  obtain ⟨f1, f2, f3, f4⟩ := ft
  have o69 : own 1069 = true := by decide
  have hlt : ∀ r, tl A W n r < Ls := by
    intro r
    by_cases c : tl A W n r = 0
    · omega
    · exact (t3.2.1 n r hn c).2.1
  intro k
  induction k with
  | zero =>
    intro i m acc fl P1 A1 dm1 u z1 z2 rm ms gm hP hc hac hfl hflag fr
    have : i = 34 := by omega
    subst this
    have P69 : P1 1069 = false := by
      cases hp : P1 1069 with
      | false => rfl
      | true => have := (hP 1069).mp hp; omega
    have e10 := GM_10 gm (i := 1) (by decide) P69
    rw [h10 1 (by decide)] at e10
    have e10 : A1 10 (34 * n + 1) = tl A W n 1069 := e10
    rw [lp_1 _ _ (by omega), fX11_prune_b7, if_pos (show (34 : Int32) ≤ nI 34 by decide), show (34 : Int32) * nI n = nI (34 * n) from pk_mul 34 n, show nI (34 * n) + (1 : Int32) = nI (34 * n + 1) from nI_add _ 1, qr_n (by omega) (by omega), rm.2.1 _ (by omega), e10]
    have hi69 := hlt 1069
    have flagR : fl = 0 ↔ ∀ i, i < 32 → tl A W n (1070 + i) ≠ 0 → RI A W n p (1070 + i) := by
      constructor
      · intro w i hi w2
        by_cases w3 : RI A W n p (1070 + i)
        · exact w3
        · exfalso
          have := hflag.mpr ⟨2 + i, by omega, by omega, by omega, by rw [show 1068 + (2 + i) = 1070 + i by omega]; exact w2, by rw [show 1068 + (2 + i) = 1070 + i by omega]; exact w3⟩
          omega
      · intro w
        by_cases w2 : fl = 1
        · exfalso
          obtain ⟨j, j1, j2, j3, j4, j5⟩ := hflag.mp w2
          rw [show 1068 + j = 1070 + (j - 2) by omega] at j4 j5
          exact j5 (w (j - 2) (by omega) j4)
        · omega
    by_cases c1 : tl A W n 1069 = 0
    · rw [c1, if_pos (show i0 0 = (-1 : Int32) from rfl)]
      refine ⟨u, A1, dm1, P1, acc, rfl, rm, ms, gm, fun r => ?_, hc, by omega, fr⟩
      rw [hP r]
      unfold RR
      constructor
      · rintro (w | ⟨w1, w2⟩)
        · exact Or.inl w
        · exact Or.inr (Or.inl ⟨w1.1, w2⟩)
      · rintro (w | (⟨w1, w2⟩ | ⟨w1, w2, -⟩))
        · exact Or.inl w
        · exact Or.inr ⟨⟨w1, by omega⟩, w2⟩
        · exact absurd c1 w2
    · rw [if_neg (fun z => c1 ((i0_m1 (by omega)).mp z)), i0_ne c1]
      by_cases cf : fl = 0
      · rw [if_pos (by rw [cf]; rfl)]
        obtain ⟨u1, a1, a2⟩ := m_soilNode (N := N) (n := n) g hna ((fr.1 8 (by decide)).trans h8) ms hn
        have fs := fr_X11_soilNode a1
        have r1 := RM_fr rm (fun k q1 q2 => fs.2.1 k (by simp only [List.mem_cons, List.not_mem_nil, or_false]; omega)) (fs.2.2 0 (by decide))
        have r2 := RM_i0 (k0 := 10) (j := 34 * n + 1) (v := 0) (Or.inr rfl) r1
        obtain ⟨u2, hu2⟩ : ∃ q, q = q_sa u1 10 (upd (q_a u1 10) (34 * n + 1) (i0 0)) := ⟨_, rfl⟩
        rw [← hu2] at r2
        have fr1 : Fr [25] [9, 10, 17, 33] [] um u1 := fr.trans (fs.mono (by decide) (by decide) (by decide))
        have fr2 : Fr [25] [9, 10, 17, 33] [] um u2 := fr1.trans (by rw [hu2]; exact fr_sa1 _ (by decide))
        have ms2 : MS Ls (setb dm1 (na + n) true) u2 := ⟨by rw [hu2, qa_ne (by decide)]; exact a2.1, by rw [hu2]; exact a2.2⟩
        obtain ⟨vm, A2, dm2, b1, b2, b3, b4, b5⟩ := gm_op (N := N) (r0 := 1069) g hna t3 hn gm rfl c1 P69 (Or.inl o69) r2 ms2 ((fr2.1 7 (by decide)).trans h7) (fun k j => by
          unfold setA
          by_cases w : k = 10 ∧ j = 34 * n + 1
          · rw [if_pos w, if_pos (by omega)]
          · rw [if_neg w, if_neg (by omega)]) (fun z hz hne => by
          unfold setb
          rw [if_neg hne, tel_own o69, if_neg hne]) (fun q => setb_k q)
        rw [a1, qb_s, qw_n (by omega) (by omega), cl_n (by omega), show (-1 : Int32) = i0 0 from rfl, ← hu2, b1, qb_s, nI_1]
        refine ⟨vm, A2, dm2, setb P1 1069 true, acc + 1, rfl, b2, b3, b4, fun r => ?_, by rw [cnt_set (by decide) P69, hc]; omega, by omega, fr2.trans (b5.mono (by decide) (by decide) (by decide))⟩
        rw [sbt, hP r]
        unfold RR
        constructor
        · rintro (w | (w | ⟨w1, w2⟩))
          · exact Or.inr (Or.inr ⟨w, c1, flagR.mp cf⟩)
          · exact Or.inl w
          · exact Or.inr (Or.inl ⟨w1.1, w2⟩)
        · rintro (w | (⟨w1, w2⟩ | ⟨w1, w2, -⟩))
          · exact Or.inr (Or.inl w)
          · exact Or.inr (Or.inr ⟨⟨w1, by omega⟩, w2⟩)
          · exact Or.inl w1
      · have f1' : fl = 1 := by omega
        rw [if_neg (by rw [f1']; decide)]
        refine ⟨u, A1, dm1, P1, acc, rfl, rm, ms, gm, fun r => ?_, hc, by omega, fr⟩
        rw [hP r]
        unfold RR
        constructor
        · rintro (w | ⟨w1, w2⟩)
          · exact Or.inl w
          · exact Or.inr (Or.inl ⟨w1.1, w2⟩)
        · rintro (w | (⟨w1, w2⟩ | ⟨w1, w2, w3⟩))
          · exact Or.inl w
          · exact Or.inr ⟨⟨w1, by omega⟩, w2⟩
          · exact absurd (flagR.mpr w3) cf
  | succ k ih =>
    intro i m acc fl P1 A1 dm1 u z1 z2 rm ms gm hP hc hac hfl hflag fr
    have Pi : P1 (1068 + i) = false := by
      cases hp : P1 (1068 + i) with
      | false => rfl
      | true => have := (hP (1068 + i)).mp hp; omega
    have e10 := GM_10 gm (i := i) (by omega) Pi
    rw [h10 i (by omega)] at e10
    have hli := hlt (1068 + i)
    rw [lp_1 _ _ (by omega), fX11_prune_b7, if_neg (show ¬ (34 : Int32) ≤ nI i from nI_ge (b := 34) (by omega) (by omega)), show (34 : Int32) * nI n = nI (34 * n) from pk_mul 34 n, nI_add, qr_n (by omega) (by omega), rm.2.1 _ (by omega), e10]
    have skip : ∀ fl' : Nat, fl' ≤ 1 → (¬ ((i = 0 ∨ 2 ≤ i) ∧ RI A W n p (1068 + i))) → (fl' = 1 ↔ ∃ j, 2 ≤ j ∧ j < i + 1 ∧ j < 34 ∧ tl A W n (1068 + j) ≠ 0 ∧ ¬ RI A W n p (1068 + j)) → ∃ vm A2 dm2 P2 c, fX11_prune_b101 N (q_lp (fX11_prune_b7 N) (fun _ _ _ _ _ => none) (m - 1)) (nI n) (nI acc) (nI fl') (nI i) u = some (nI c, vm) ∧ RM Ls A2 nm (q_a vm) (q_j vm 0) ∧ MS Ls dm2 vm ∧ GM A W na n Ls P2 A2 dm dm2 ∧ (∀ r, P2 r = true ↔ RR A W n p r) ∧ cnt P2 1400 = c0 + c ∧ c ≤ 35 ∧ Fr [25] [9, 10, 17, 33] [] um vm := by
      intro fl' hfl' hno hflag'
      unfold fX11_prune_b101
      rw [qn_s, nI_1]
      refine ih (i + 1) (m - 1) acc fl' P1 A1 dm1 u (by omega) (by omega) rm ms gm (fun r => ?_) hc (by omega) hfl' hflag' fr
      rw [hP r]
      constructor
      · rintro (w | ⟨w1, w2⟩)
        · exact Or.inl w
        · exact Or.inr ⟨⟨w1.1, by omega⟩, w2⟩
      · rintro (w | ⟨w1, w2⟩)
        · exact Or.inl w
        · refine Or.inr ⟨⟨w1.1, ?_⟩, w2⟩
          by_cases c : r = 1068 + i
          · exfalso
            rw [c] at w1 w2
            exact hno ⟨by omega, w2⟩
          · omega
    have flag_same : (¬ (2 ≤ i ∧ tl A W n (1068 + i) ≠ 0 ∧ ¬ RI A W n p (1068 + i))) → (fl = 1 ↔ ∃ j, 2 ≤ j ∧ j < i + 1 ∧ j < 34 ∧ tl A W n (1068 + j) ≠ 0 ∧ ¬ RI A W n p (1068 + j)) := by
      intro w
      rw [hflag]
      constructor
      · rintro ⟨j, j1, j2, j3, j4⟩
        exact ⟨j, j1, by omega, j3, j4⟩
      · rintro ⟨j, j1, j2, j3, j4⟩
        by_cases c : j = i
        · rw [c] at j1 j4
          exact absurd ⟨j1, j4⟩ w
        · exact ⟨j, j1, by omega, j3, j4⟩
    by_cases ci : i = 1
    · rw [if_pos (by rw [ci]; rfl)]
      exact skip fl hfl (fun w => by omega) (flag_same (fun w => by omega))
    · rw [if_neg (show ¬ nI i = (1 : Int32) from fun z => ci (nI_inj (b := 1) (by omega) (by decide) z))]
      by_cases c1 : tl A W n (1068 + i) = 0
      · rw [c1, if_pos (show i0 0 = (-1 : Int32) from rfl)]
        exact skip fl hfl (fun w => w.2.1 c1) (flag_same (fun w => w.2.1 c1))
      · rw [if_neg (fun z => c1 ((i0_m1 (by omega)).mp z)), i0_ne c1]
        have v9 : ∀ q, q < 1068 → A1 9 (1068 * n + q) = if P1 q = true then 0 else tl A W n q := fun q hq => by rw [GM_9l gm hq, h9 q hq]
        rcases m_tellsSome (N := N) (i := i) (by omega) rm hn (by omega) (fun q hq => by
          rw [v9 q hq]
          have := hlt q
          split <;> omega) with ⟨t1, q, q1, q2, q3, q4⟩ | ⟨t1, t2⟩
        · have nri : ¬ RI A W n p (1068 + i) := by
            intro w
            rw [v9 q q2] at q4
            by_cases c : P1 q = true
            · rw [if_pos c] at q4; exact q4 rfl
            · rw [if_neg c] at q4
              rcases Nat.lt_or_ge q p with y | y
              · exact q4 (w.2 q q1 q2 y q3)
              · exact c ((hP q).mpr (Or.inl ⟨q2, y, q4⟩))
          rw [t1, qb_s, if_neg (show ¬ (1 : Int32) = 0 by decide)]
          unfold fX11_prune_b63 fX11_prune_b68
          have on1 : 2 ≤ i → (1 = 1 ↔ ∃ j, 2 ≤ j ∧ j < i + 1 ∧ j < 34 ∧ tl A W n (1068 + j) ≠ 0 ∧ ¬ RI A W n p (1068 + j)) := fun h2 => ⟨fun _ => ⟨i, h2, by omega, by omega, c1, nri⟩, fun _ => rfl⟩
          by_cases cf : fl = 0
          · rw [if_pos (by rw [cf]; rfl)]
            by_cases c2 : i ≤ 1
            · rw [if_pos (show nI i ≤ (1 : Int32) from nI_le (b := 1) c2 (by decide))]
              have := skip 0 (by decide) (fun w => nri w.2) (by have q := flag_same (fun w => by omega); rw [cf] at q; exact q)
              exact this
            · rw [if_neg (show ¬ nI i ≤ (1 : Int32) from nI_ge (a := 1) (by omega) (by omega))]
              exact skip 1 (by decide) (fun w => nri w.2) (on1 (by omega))
          · have f1' : fl = 1 := by omega
            rw [if_neg (by rw [f1']; decide)]
            refine skip 1 (by decide) (fun w => nri w.2) ?_
            refine ⟨fun _ => ?_, fun _ => rfl⟩
            obtain ⟨j, j1, j2, j3, j4⟩ := hflag.mp f1'
            exact ⟨j, j1, by omega, j3, j4⟩
        · have ri : RI A W n p (1068 + i) := by
            refine ⟨c1, fun q q1 q2 q3 q4 => ?_⟩
            have := t2 q q1 q2 q4
            rw [v9 q q2, if_neg (fun w => by have := (hP q).mp w; omega)] at this
            exact this
          rw [t1, qb_s, if_pos rfl]
          unfold fX11_soilTeller
          obtain ⟨u1, a1, a2, a3⟩ : ∃ u1, (if nI i ≤ 1 then q_bnd (fX11_soilNode N (nI n) u) (fun _ u2 => some ((), u2)) else q_rd 2176 (q_a u 10) (34 * nI n + 1) (fun v4 => q_bnd (fX11_soil N v4 u) (fun _ u6 => some ((), u6)))) = some ((), u1) ∧ MS Ls (setb dm1 (tel A W na n (1068 + i)) true) u1 ∧ Fr [25] [33] [] u u1 := by
            by_cases c2 : i = 0
            · subst c2
              obtain ⟨u1, a1, a2⟩ := m_soilNode (N := N) (n := n) g hna ((fr.1 8 (by decide)).trans h8) ms hn
              refine ⟨u1, by rw [if_pos (by decide), a1, qb_s], ?_, (fr_X11_soilNode a1).mono (by decide) (by decide) (by decide)⟩
              rw [tel_own (by decide)]
              exact a2
            · have no : ¬ own (1068 + i) = true := fun w => by have := own_t w; omega
              have tr : trl (1068 + i) = 1069 := by unfold trl; rw [if_neg (by omega), if_neg (by omega)]
              have h69 : tl A W n 1069 ≠ 0 := f3 (i - 2) (by omega) (by rw [show 1070 + (i - 2) = 1068 + i by omega]; exact c1)
              have P69 : P1 1069 = false := by
                cases hp : P1 1069 with
                | false => rfl
                | true => have := (hP 1069).mp hp; omega
              have e1 := GM_10 gm (i := 1) (by decide) P69
              rw [h10 1 (by decide)] at e1
              have e1 : A1 10 (34 * n + 1) = tl A W n 1069 := e1
              obtain ⟨u1, a1, a2⟩ := m_soilTel (N := N) (o := nI (tl A W n 1069)) g hna t3 hn ms no (by rw [tr]; exact h69) (by rw [tr])
              refine ⟨u1, ?_, a2, (fr_X11_soil a1).mono (by decide) (by decide) (by decide)⟩
              rw [if_neg (show ¬ nI i ≤ (1 : Int32) from nI_ge (a := 1) (by omega) (by omega)), show (34 : Int32) * nI n = nI (34 * n) from pk_mul 34 n, show nI (34 * n) + (1 : Int32) = nI (34 * n + 1) from nI_add _ 1, qr_n (by omega) (by omega), rm.2.1 _ (by omega), e1, i0_ne h69, a1, qb_s]
          have r1 := RM_fr rm (fun k q1 q2 => a3.2.1 k (by simp only [List.mem_cons, List.not_mem_nil, or_false]; omega)) (a3.2.2 0 (by decide))
          have r2 := RM_i0 (k0 := 10) (j := 34 * n + i) (v := 0) (Or.inr rfl) r1
          obtain ⟨u2, hu2⟩ : ∃ q, q = q_sa u1 10 (upd (q_a u1 10) (34 * n + i) (i0 0)) := ⟨_, rfl⟩
          rw [← hu2] at r2
          have fr1 : Fr [25] [9, 10, 17, 33] [] um u1 := fr.trans (a3.mono (by decide) (by decide) (by decide))
          have fr2 : Fr [25] [9, 10, 17, 33] [] um u2 := fr1.trans (by rw [hu2]; exact fr_sa1 _ (by decide))
          have ms2 : MS Ls (setb dm1 (tel A W na n (1068 + i)) true) u2 := ⟨by rw [hu2, qa_ne (by decide)]; exact a2.1, by rw [hu2]; exact a2.2⟩
          have hal : own (1068 + i) = true ∨ (tl A W n (trl (1068 + i)) ≠ 0 ∧ P1 (trl (1068 + i)) = false) := by
            by_cases c2 : i = 0
            · left; rw [c2]; decide
            · right
              have tr : trl (1068 + i) = 1069 := by unfold trl; rw [if_neg (by omega), if_neg (by omega)]
              rw [tr]
              refine ⟨f3 (i - 2) (by omega) (by rw [show 1070 + (i - 2) = 1068 + i by omega]; exact c1), ?_⟩
              cases hp : P1 1069 with
              | false => rfl
              | true => have := (hP 1069).mp hp; omega
          obtain ⟨vm, A2, dm2, b1, b2, b3, b4, b5⟩ := gm_op (N := N) (r0 := 1068 + i) g hna t3 hn gm rfl c1 Pi hal r2 ms2 ((fr2.1 7 (by decide)).trans h7) (fun k j => by
            unfold setA
            by_cases w : k = 10 ∧ j = 34 * n + i
            · rw [if_pos w, if_pos (by omega)]
            · rw [if_neg w, if_neg (by omega)]) (fun z hz hne => rfl) (fun q => setb_k q)
          obtain ⟨vm3, A3, dm3, P3, c3, d1, d2, d3, d4, d5, d6, d7, d8⟩ := ih (i + 1) (m - 1) (acc + 1) fl (setb P1 (1068 + i) true) A2 dm2 vm (by omega) (by omega) b2 b3 b4 (fun r => by
            rw [sbt, hP r]
            constructor
            · rintro (w | (w | ⟨w1, w2⟩))
              · rw [w]
                exact Or.inr ⟨⟨by omega, by omega⟩, ri⟩
              · exact Or.inl w
              · exact Or.inr ⟨⟨w1.1, by omega⟩, w2⟩
            · rintro (w | ⟨w1, w2⟩)
              · exact Or.inr (Or.inl w)
              · by_cases c : r = 1068 + i
                · exact Or.inl c
                · exact Or.inr (Or.inr ⟨⟨w1.1, by omega⟩, w2⟩)) (by rw [cnt_set (by omega) Pi, hc]; omega) (by omega) hfl (flag_same (fun w => w.2.2 ri)) (fr2.trans (b5.mono (by decide) (by decide) (by decide)))
          refine ⟨vm3, A3, dm3, P3, c3, ?_, d2, d3, d4, d5, d6, d7, d8⟩
          rw [a1, qb_s, qw_n (by omega) (by omega), cl_n (by omega), show (-1 : Int32) = i0 0 from rfl, ← hu2, b1, qb_s, qn_s, nI_1]
          unfold fX11_prune_b101
          rw [qn_s, nI_1]
          exact d1
theorem m_shrink {B T S C W Ls na n p : Nat} {A : Nat → Nat → Nat} {nm : Nat → Int64} {dm : Nat → Bool} {N : Nat} {um : q_St} (g : Geo B T S C W Ls) (hna : na = 80 + (Ls + 511) / 512) (hN : 3000 ≤ N) (t3 : TW3 W Ls (na + 64) A) (ft : FT A W n) (hn : n < 64) (h9 : ∀ q, q < 1068 → A 9 (1068 * n + q) = tl A W n q) (h10 : ∀ i, i < 34 → A 10 (34 * n + i) = tl A W n (1068 + i)) (h7 : q_i um 7 = nI 80) (h8 : q_i um 8 = nI (80 + (Ls + 511) / 512)) (hp : p ≤ 1068) (rm0 : RM Ls A nm (q_a um) (q_j um 0)) (ms0 : MS Ls dm um) (h17 : ∀ x, A 17 x ≤ 1) :
    ∃ vm A2 dm2 P c, fX11_shrink N (nI n) (nI p) um = some (nI c, vm) ∧ RM Ls A2 nm (q_a vm) (q_j vm 0) ∧ MS Ls dm2 vm ∧ GM A W na n Ls P A2 dm dm2 ∧ (∀ r, P r = true ↔ RR A W n p r) ∧ cnt P 1400 = c ∧ Fr [25] [9, 10, 17, 33] [] um vm := by
  have hl := g.l
  have hlt : ∀ r, tl A W n r < Ls := by
    intro r
    by_cases c : tl A W n r = 0
    · omega
    · exact (t3.2.1 n r hn c).2.1
  have key : ∀ (k q m acc : Nat) (P1 : Nat → Bool) (A1 : Nat → Nat → Nat) (dm1 : Nat → Bool) (u : q_St), q + k = 1068 → k < m → p ≤ q → RM Ls A1 nm (q_a u) (q_j u 0) → MS Ls dm1 u → GM A W na n Ls P1 A1 dm dm1 → (∀ r, P1 r = true ↔ r < q ∧ p ≤ r ∧ tl A W n r ≠ 0) → cnt P1 1400 = acc → acc ≤ q → Fr [25] [9, 10, 17, 33] [] um u →
      ∃ vm A2 dm2 P c, q_lp (fX11_shrink_b5 N) (fun _ _ _ _ => none) m (nI n) (nI acc) (nI q) u = some (nI c, vm) ∧ RM Ls A2 nm (q_a vm) (q_j vm 0) ∧ MS Ls dm2 vm ∧ GM A W na n Ls P A2 dm dm2 ∧ (∀ r, P r = true ↔ RR A W n p r) ∧ cnt P 1400 = c ∧ Fr [25] [9, 10, 17, 33] [] um vm := by
    intro k
    induction k with
    | zero =>
      intro q m acc P1 A1 dm1 u z1 z2 zp rm ms gm hP hc hac fr
      have : q = 1068 := by omega
      subst this
      obtain ⟨vm, A2, dm2, P2, c, a1, a2, a3, a4, a5, a6, a7, a8⟩ := m_prune (N := N) (p := p) (c0 := acc) (nm := nm) (um := um) (dm := dm) g hna hN t3 ft hn h9 h10 h7 h8 34 0 N 0 0 P1 A1 dm1 u (by omega) (by omega) rm ms gm (fun r => by
        rw [hP r]
        constructor
        · intro w; exact Or.inl w
        · rintro (w | ⟨w1, w2⟩)
          · exact w
          · omega) (by rw [hc, Nat.add_zero]) (by omega) (by decide) ⟨fun w => (by omega), fun ⟨j, j1, j2, _⟩ => by omega⟩ fr
      refine ⟨vm, A2, dm2, P2, acc + c, ?_, a2, a3, a4, a5, a6, a8⟩
      have a1 : fX11_prune N (nI n) u = some (nI c, vm) := a1
      rw [lp_1 _ _ (by omega), fX11_shrink_b5, if_pos (show (1068 : Int32) ≤ nI 1068 by decide), a1, qb_s, nI_add]
    | succ k ih =>
      intro q m acc P1 A1 dm1 u z1 z2 zp rm ms gm hP hc hac fr
      have Pq : P1 q = false := by
        cases hpq : P1 q with
        | false => rfl
        | true => have := (hP q).mp hpq; omega
      have e9 := GM_9 gm (q := q) (by omega) Pq
      rw [h9 q (by omega)] at e9
      have hlq := hlt q
      rw [lp_1 _ _ (by omega), fX11_shrink_b5, if_neg (show ¬ (1068 : Int32) ≤ nI q from nI_ge (b := 1068) (by omega) (by omega)), show (1068 : Int32) * nI n = nI (1068 * n) from pk_mul 1068 n, nI_add, qr_n (by omega) (by omega), rm.2.2.1 _ (by omega), e9]
      by_cases c1 : tl A W n q = 0
      · rw [c1, if_pos (show i0 0 = (-1 : Int32) from rfl)]
        unfold fX11_shrink_b97
        rw [qn_s, nI_1]
        refine ih (q + 1) (m - 1) acc P1 A1 dm1 u (by omega) (by omega) (by omega) rm ms gm (fun r => ?_) hc (by omega) fr
        rw [hP r]
        constructor
        · rintro ⟨w1, w2⟩; exact ⟨by omega, w2⟩
        · rintro ⟨w1, w2, w3⟩
          refine ⟨?_, w2, w3⟩
          by_cases c : r = q
          · rw [c] at w3; exact absurd c1 w3
          · omega
      · rw [if_neg (fun z => c1 ((i0_m1 (by omega)).mp z)), i0_ne c1, m_indexOf (by omega), qb_s]
        have hal : own q = true ∨ (tl A W n (trl q) ≠ 0 ∧ P1 (trl q) = false) := by
          by_cases c12 : q < 12
          · left; exact decide_eq_true (Or.inl c12)
          · right
            refine ⟨ft.1 q (by omega) (by omega) c1, ?_⟩
            cases hpq : P1 (trl q) with
            | false => rfl
            | true =>
              have h1 := (hP _).mp hpq
              have h2 := trl_in (r := q) (fun w => by have := own_t w; omega)
              omega
        obtain ⟨u1, a1, a2, a3⟩ : ∃ u1, (if (if q < 12 then -1 else nI (ixo q)) = (-1 : Int32) then q_bnd (fX11_soilNode N (nI n) u) (fun _ u19 => fX11_shrink_b74 N (q_lp (fX11_shrink_b5 N) (fun _ _ _ _ => none) (m - 1)) (nI n) (nI acc) (nI q) (nI (tl A W n q)) u19) else q_rd 2176 (q_a u 10) (34 * nI n + (if q < 12 then -1 else nI (ixo q))) (fun v8 => q_bnd (fX11_soil N v8 u) (fun _ u10 => fX11_shrink_b74 N (q_lp (fX11_shrink_b5 N) (fun _ _ _ _ => none) (m - 1)) (nI n) (nI acc) (nI q) (nI (tl A W n q)) u10))) = fX11_shrink_b74 N (q_lp (fX11_shrink_b5 N) (fun _ _ _ _ => none) (m - 1)) (nI n) (nI acc) (nI q) (nI (tl A W n q)) u1 ∧ MS Ls (setb dm1 (tel A W na n q) true) u1 ∧ Fr [25] [33] [] u u1 := by
          by_cases c12 : q < 12
          · obtain ⟨u1, a1, a2⟩ := m_soilNode (N := N) (n := n) g hna ((fr.1 8 (by decide)).trans h8) ms hn
            refine ⟨u1, ?_, ?_, (fr_X11_soilNode a1).mono (by decide) (by decide) (by decide)⟩
            · rw [if_pos c12, if_pos rfl, a1, qb_s]
            · rw [tel_own (decide_eq_true (Or.inl c12))]; exact a2
          · have hx : ixo q < 34 := by unfold ixo; split <;> omega
            have no : ¬ own q = true := fun w => by have := own_t w; omega
            have htr := ixo_trl (q := q) (by omega) (by omega)
            rcases hal with w | ⟨w1, w2⟩
            · exact absurd w no
            · have e1 := GM_10 gm (i := ixo q) hx (by rw [htr]; exact w2)
              rw [h10 _ hx, htr] at e1
              obtain ⟨u1, a1, a2⟩ := m_soilTel (N := N) (o := nI (tl A W n (trl q))) g hna t3 hn ms no w1 rfl
              refine ⟨u1, ?_, a2, (fr_X11_soil a1).mono (by decide) (by decide) (by decide)⟩
              rw [if_neg c12, if_neg (m1_ne _ (by omega)), show (34 : Int32) * nI n = nI (34 * n) from pk_mul 34 n, nI_add, qr_n (by omega) (by omega), rm.2.1 _ (by omega), e1, i0_ne w1, a1, qb_s]
        rw [a1]
        have r1 := RM_fr rm (fun k q1 q2 => a3.2.1 k (by simp only [List.mem_cons, List.not_mem_nil, or_false]; omega)) (a3.2.2 0 (by decide))
        have r2 := RM_i0 (k0 := 9) (j := 1068 * n + q) (v := 0) (Or.inl rfl) r1
        obtain ⟨u2, hu2⟩ : ∃ z, z = q_sa u1 9 (upd (q_a u1 9) (1068 * n + q) (i0 0)) := ⟨_, rfl⟩
        rw [← hu2] at r2
        have fr1 : Fr [25] [9, 10, 17, 33] [] um u1 := fr.trans (a3.mono (by decide) (by decide) (by decide))
        have fr2 : Fr [25] [9, 10, 17, 33] [] um u2 := fr1.trans (by rw [hu2]; exact fr_sa1 _ (by decide))
        have ms2 : MS Ls (setb dm1 (tel A W na n q) true) u2 := ⟨by rw [hu2, qa_ne (by decide)]; exact a2.1, by rw [hu2]; exact a2.2⟩
        obtain ⟨vm, A2, dm2, b1, b2, b3, b4, b5⟩ := gm_op (N := N) (r0 := q) g hna t3 hn gm rfl c1 Pq hal r2 ms2 ((fr2.1 7 (by decide)).trans h7) (fun k j => by
          unfold setA
          by_cases w : k = 9 ∧ j = 1068 * n + q
          · rw [if_pos w, if_pos (by omega)]
          · rw [if_neg w, if_neg (by omega)]) (fun z hz hne => rfl) (fun q => setb_k q)
        obtain ⟨vm3, A3, dm3, P3, c3, d1, d2, d3, d4, d5, d6, d7⟩ := ih (q + 1) (m - 1) (acc + 1) (setb P1 q true) A2 dm2 vm (by omega) (by omega) (by omega) b2 b3 b4 (fun r => by
          rw [sbt, hP r]
          constructor
          · rintro (w | w)
            · rw [w]; exact ⟨by omega, by omega, c1⟩
            · exact ⟨by omega, w.2⟩
          · rintro ⟨w1, w2⟩
            by_cases c : r = q
            · exact Or.inl c
            · exact Or.inr ⟨by omega, w2⟩) (by rw [cnt_set (by omega) Pq, hc]) (by omega) (fr2.trans (b5.mono (by decide) (by decide) (by decide)))
        refine ⟨vm3, A3, dm3, P3, c3, ?_, d2, d3, d4, d5, d6, d7⟩
        unfold fX11_shrink_b74 fX11_shrink_b97
        rw [show (1068 : Int32) * nI n = nI (1068 * n) from pk_mul 1068 n, nI_add, qw_n (by omega) (by omega), cl_n (by omega), show (-1 : Int32) = i0 0 from rfl, ← hu2, b1, qb_s, qn_s, nI_1, qn_s, nI_1]
        exact d1
  unfold fX11_shrink
  exact key (1068 - p) p N 0 (fun _ => false) A dm um (by omega) (by omega) (by omega) rm0 ms0 (GM_0 h17) (fun r => ⟨fun w => (by cases w), fun w => (by omega)⟩) (cnt_no _) (by omega) (Fr.rf _ _ _ _)
