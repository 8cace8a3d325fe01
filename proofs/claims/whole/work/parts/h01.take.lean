/-! ===== a FILE takes SECTORS, in both ===== -/
/-- in the course of put: Ax as the class holds it, Am as the reference does; they differ in bytes alone -/
def PS (B T S C W Ls na hb n : Nat) (um0 : q_St) (D : Nat → Nat → Int64) (Ak : Nat → Nat → Nat) (nm : Nat → Int64) (ux um : q_St) (dd0 : Nat → Bool) (nd : Nat → Bool) (Ax Am : Nat → Nat → Nat) (K : Nat → Nat → Int64) (dd dm : Nat → Bool) (WS : Nat → Prop) (u w : q_St) : Prop :=
  XS B T S C W Ls hb um0 D K dd u ∧ MS Ls dm w ∧ RM Ls Am nm (q_a w) (q_j w 0) ∧ RXf W Ls na Ax nm K n ∧ TW1 W B Ax ∧ TW3 W Ls (na + 64) Ax ∧ Ax 5 n = 1 ∧ (∀ k, k ≠ 18 → Am k = Ax k) ∧ ((∀ q, 12 ≤ q → q < 1068 → tl Ax W n q ≠ 0 → tl Ax W n (trl q) ≠ 0) ∧ ∀ i, i < 32 → tl Ax W n (1070 + i) ≠ 0 → tl Ax W n 1069 ≠ 0) ∧ (∀ x, x < Ls → dd x = true → 80 ≤ x ∧ Ax 17 x = 1) ∧ NB W Ax Ak dd ∧ (∀ z, z < Ls → dd z = true → dd0 z = true ∨ (80 ≤ z ∧ z < na) ∨ z = na + n ∨ ∃ r, nd r = true ∧ r < 1102 ∧ tl Ax W n r = z) ∧ cnt (fun r => decide (tl Ax W n r = 0) && nd r) 1102 + uC Ax Ls ≤ Ls ∧ Fr [13, 22] [5] [2] ux u ∧ Fr [25] [6, 9, 10, 17, 18, 33] [] um w ∧ ∀ z, z < Ls → (dd z = true ↔ dm z = true ∨ WS z)
theorem uC_ad {Ls n r0 y : Nat} {A : Nat → Nat → Nat} (hyL : y < Ls) (h0 : A 17 y = 0) : uC (adR A n r0 y) Ls = uC A Ls + 1 := by
  have e : (fun x => decide (adR A n r0 y 17 x = 1)) = setb (fun x => decide (A 17 x = 1)) y true := by
    funext x
    unfold setb
    rw [adR_17]
    by_cases c : x = y
    · rw [if_pos c, if_pos c]; rfl
    · rw [if_neg c, if_neg c]
  unfold uC
  rw [e, cnt_set hyL (by rw [h0]; rfl)]
theorem ad_op {B T S C W Ls na hb n r0 : Nat} {um0 : q_St} {D : Nat → Nat → Int64} {Ak : Nat → Nat → Nat} {nm : Nat → Int64} {ux um : q_St} {dd0 nd : Nat → Bool} {Ax Am : Nat → Nat → Nat} {K : Nat → Nat → Int64} {dd dm : Nat → Bool} {WS : Nat → Prop} {u w : q_St} {L : Nat → Nat} {N : Nat} (g : Geo B T S C W Ls) (gl : gL B C W Ls L) (hna : na = 80 + (Ls + 511) / 512) (hN : 3000 ≤ N) (gm : gM B T S C W Ls um) (hn : n < 64) (ps : PS B T S C W Ls na hb n um0 D Ak nm ux um dd0 nd Ax Am K dd dm WS u w) (hr : r0 < 1102) (h0 : tl Ax W n r0 = 0) (hnd : nd r0 = true) (hal : own r0 = true ∨ (tl Ax W n (trl r0) ≠ 0 ∧ nd (trl r0) = true)) :
    ∃ y u1 u2 w1 w3 K2 dd2 dm2, y ≠ 0 ∧ y < Ls ∧ fX5_takeBlank L N u = some (nI y, u1) ∧ fX6_setHalf L N (nI (tel Ax W na n r0)) (nI (hpl r0)) (nI y) u1 = some ((), u2) ∧ fX11_takeBlock N (-1) w = some (nI y, w1) ∧ (own r0 = true → fX11_soilNode N (nI n) (q_sa w1 (rw9 r0) (upd (q_a w1 (rw9 r0)) (ix9 n r0) (nI y))) = some ((), w3)) ∧ (¬ own r0 = true → fX11_soil N (nI (tl Ax W n (trl r0))) (q_sa w1 (rw9 r0) (upd (q_a w1 (rw9 r0)) (ix9 n r0) (nI y))) = some ((), w3)) ∧ PS B T S C W Ls na hb n um0 D Ak nm ux um dd0 nd (adR Ax n r0 y) (adR Am n r0 y) K2 dd2 dm2 WS u2 w3 ∧ Ax 17 y = 0 ∧ RM Ls (setA (tkA Am y) (rw9 r0) (ix9 n r0) y) nm (q_a (q_sa w1 (rw9 r0) (upd (q_a w1 (rw9 r0)) (ix9 n r0) (nI y)))) (q_j (q_sa w1 (rw9 r0) (upd (q_a w1 (rw9 r0)) (ix9 n r0) (nI y))) 0) := by
  have hl := g.l
  obtain ⟨xs, ms, rm, rxf, t1, t3, h1, hAm, ⟨f1, f3⟩, h80, nb, dz, fc, fx, fm, rel⟩ := ps
  have h17 := t1.2.2.2.2.2.2.2
  have hlow := t3.2.2.2
  have fcp : 0 < Ls - uC Ax Ls := by
    have : 0 < cnt (fun r => decide (tl Ax W n r = 0) && nd r) 1102 := by
      have q := cnt_clr (P := fun r => decide (tl Ax W n r = 0) && nd r) (x := r0) hr (by simp [h0, hnd])
      omega
    omega
  obtain ⟨y, hye⟩ : ∃ y, y = fnd (frB Ax W none) (Ls - (na + 64)) (na + 64) := ⟨_, rfl⟩
  have hyL : y < Ls := by rw [hye]; exact (rm_free (W := W) (by omega) h17 hlow).mp fcp
  obtain ⟨hy1, hy0, hylo⟩ := low_free h17 hlow hye.symm hyL (by omega)
  have hyn : ∀ m r, m < 64 → tl Ax W m r ≠ y := by
    intro m r hm z
    have := t3.2.1 m r hm (by omega)
    rw [z] at this
    omega
  have htl : ∀ m r, tl (adR Ax n r0 y) W m r = if m = n ∧ r = r0 then y else tl Ax W m r := fun m r => ad_tl h1 hr
  -- the class
  obtain ⟨u1, v, a1, a2, a3⟩ := x_takeBlank (N := N) g gl (by omega) xs rxf.1.1 h17 hyL hy0 hylo
  have hs : na ≤ tel Ax W na n r0 ∧ tel Ax W na n r0 < Ls ∧ tel Ax W na n r0 ≠ y ∧ Ax 17 (tel Ax W na n r0) = 1 := by
    unfold tel
    by_cases c : own r0 = true
    · rw [if_pos c]; exact ⟨by omega, by omega, by omega, hlow _ (by omega)⟩
    · rw [if_neg c]
      rcases hal with z | ⟨z, -⟩
      · exact absurd z c
      · have := t3.2.1 n (trl r0) hn z
        exact ⟨by omega, this.2.1, hyn _ _ hn, this.2.2⟩
  obtain ⟨u2, b1, b2⟩ := x_setHalf (N := N) (n := y) g gl a2 (x := tel Ax W na n r0) (i := hpl r0) hs.2.1 (hpl_lt (by omega))
  -- the reference
  have gmw : gM B T S C W Ls w := by
    obtain ⟨m1, m2, m3, m4, m5, m6, m7, m8, m9⟩ := gm
    refine ⟨?_, ?_, ?_, ?_, ?_, ?_, ?_, ?_, ?_⟩ <;> (rw [fm.1 _ (by decide)]; assumption)
  have e17 : Am 17 = Ax 17 := hAm 17 (by decide)
  have hyb : fnd (frB Am W none) (Ls - (na + 64)) (na + 64) = y := by
    rw [hye]
    refine fnd_cg _ _ (fun i _ _ => ?_)
    unfold frB
    rw [e17]
  obtain ⟨w1, c1, c2, c3⟩ := m_takeBlock (N := N) (fb := na + 64) g hN (by omega) rm ms gmw (by omega) (by rw [e17]; exact h17) none (fun k e => by cases e) hyb hyL
  have c1 : fX11_takeBlock N (-1) w = some (nI y, w1) := c1
  have fw1 := fr_X11_takeBlock c1
  have hy00 : y ≠ 0 := by omega
  have r9 := RM_i0 (k0 := rw9 r0) (j := ix9 n r0) (v := y) (rw9_o r0) c2
  rw [i0_ne hy00] at r9
  obtain ⟨w2, hw2⟩ : ∃ q, q = q_sa w1 (rw9 r0) (upd (q_a w1 (rw9 r0)) (ix9 n r0) (nI y)) := ⟨_, rfl⟩
  rw [← hw2] at r9
  have r33 : (33 : Nat) ≠ rw9 r0 := by have := rw9_o r0; omega
  have ms2 : MS Ls (setb (setb dm (80 + y / 512) true) y true) w2 := ⟨by rw [hw2, qa_ne r33]; exact c3.1, by rw [hw2]; exact c3.2⟩
  have fm2 : Fr [25] [6, 9, 10, 17, 18, 33] [] um w2 := by
    have q1 : Fr [25] [6, 9, 10, 17, 18, 33] [] w1 w2 := by
      rw [hw2]
      exact fr_sa1 _ (by rcases rw9_o r0 with e | e <;> (rw [e]; decide))
    exact (fm.trans (fw1.mono (by decide) (by decide) (by decide))).trans q1
  have soil : ∃ w3, (own r0 = true → fX11_soilNode N (nI n) w2 = some ((), w3)) ∧ (¬ own r0 = true → fX11_soil N (nI (tl Ax W n (trl r0))) w2 = some ((), w3)) ∧ MS Ls (setb (setb (setb dm (80 + y / 512) true) y true) (tel Ax W na n r0) true) w3 ∧ Fr [25] [33] [] w2 w3 := by
    by_cases c : own r0 = true
    · obtain ⟨w3, d1, d2⟩ := m_soilNode (N := N) (n := n) g hna ((fm2.1 8 (by decide)).trans gm.2.2.2.2.2.2.2.2) ms2 hn
      exact ⟨w3, fun _ => d1, fun z => absurd c z, by rw [tel_own c]; exact d2, (fr_X11_soilNode d1).mono (by decide) (by decide) (by decide)⟩
    · rcases hal with z | ⟨z, -⟩
      · exact absurd z c
      · obtain ⟨w3, d1, d2⟩ := m_soilTel (N := N) (o := nI (tl Ax W n (trl r0))) g hna t3 hn ms2 c z rfl
        exact ⟨w3, fun y => absurd y c, fun _ => d1, d2, (fr_X11_soil d1).mono (by decide) (by decide) (by decide)⟩
  obtain ⟨w3, s1, s2, s3, s4⟩ := soil
  have r3 := RM_fr r9 (fun k q1 q2 => s4.2.1 k (by simp only [List.mem_cons, List.not_mem_nil, or_false]; omega)) (s4.2.2 0 (by decide))
  refine ⟨y, u1, u2, w1, w3, _, _, _, hy00, hyL, a1, b1, c1, by rw [← hw2]; exact s1, by rw [← hw2]; exact s2, ⟨b2, s3, r3, ?_, ad_TW1 t1, ad_TW3 t3 h1 hn hr h0 hy1 hyL hy0 (by omega), ?_, fun k hk => ?_, ⟨fun q q1 q2 q3 => ?_, fun i hi q3 => ?_⟩, fun z hz hdz => ?_, fun m r hm q ht hdz j hj => ?_, fun z hz hdz => ?_, ?_, ?_, ?_, fun z hz => ?_⟩, hy0, by rw [← hw2]; exact r9⟩
  · refine ad_RX hl.2 hna t3 h1 hn hr h0 ?_ (fun q q1 q2 q3 => ?_) hy1 hyL hy0 a3 rxf
    · rcases hal with z | ⟨z, -⟩
      · exact Or.inl z
      · exact Or.inr z
    · by_cases z : tl Ax W n q = 0
      · exact z
      · exfalso
        have ho := own_f q2
        rcases ho with ho | ho
        · have := f1 q ho.1 ho.2 z
          rw [q3] at this
          exact this h0
        · have et : trl q = 1069 := by unfold trl; rw [if_neg (by omega), if_neg (by omega)]
          rw [et] at q3
          have := f3 (q - 1070) (by omega) (by rw [show 1070 + (q - 1070) = q by omega]; exact z)
          rw [q3] at this
          exact this h0
  · rw [adR_k (by decide) (by decide) (by decide) (by decide)]; exact h1
  · unfold adR
    funext j
    unfold setA tkA
    by_cases c : k = rw9 r0 ∧ j = ix9 n r0
    · rw [if_pos c, if_pos c]
    · rw [if_neg c, if_neg c]
      by_cases c2 : k = 17 ∧ j = y
      · rw [if_pos c2, if_pos c2]
      · rw [if_neg c2, if_neg c2, if_neg (fun z => hk z.1), if_neg (fun z => hk z.1), hAm k hk]
  · have ho : ¬ own q = true := fun z => by have := own_t z; omega
    rw [htl] at q3 ⊢
    by_cases c : trl q = r0
    · rw [if_pos ⟨rfl, c⟩]; exact hy00
    · rw [if_neg (fun z => c z.2)]
      by_cases c2 : q = r0
      · rw [c2] at c ho ⊢
        rcases hal with z | ⟨z, -⟩
        · exact absurd z ho
        · exact z
      · rw [if_neg (fun z => c2 z.2)] at q3
        exact f1 q q1 q2 q3
  · rw [htl] at q3 ⊢
    by_cases c : 1069 = r0
    · rw [if_pos ⟨rfl, c⟩]; exact hy00
    · rw [if_neg (fun z => c z.2)]
      by_cases c2 : 1070 + i = r0
      · have ho : ¬ own r0 = true := fun z => by have := own_t z; omega
        have et : trl r0 = 1069 := by unfold trl; rw [if_neg (by omega), if_neg (by omega)]
        rcases hal with z | ⟨z, -⟩
        · exact absurd z ho
        · rw [et] at z; exact z
      · rw [if_neg (fun z => c2 z.2)] at q3
        exact f3 i hi q3
  · rw [adR_17]
    unfold setb at hdz
    split at hdz
    · rename_i e
      rw [e, if_neg hs.2.2.1]
      exact ⟨by omega, hs.2.2.2⟩
    · split at hdz
      · rename_i e; rw [e, if_pos rfl]; exact ⟨by omega, rfl⟩
      · rename_i hzy
        rw [if_neg hzy]
        split at hdz
        · rename_i e; rw [e]; exact ⟨by omega, hlow _ (by omega)⟩
        · exact h80 z hz hdz
  · rw [htl] at ht hdz ⊢
    have q5 : adR Ax n r0 y 5 = Ax 5 := adR_k (by decide) (by decide) (by decide) (by decide)
    rw [q5] at q
    by_cases c : m = n ∧ r = r0
    · rw [if_pos c] at hdz
      have : setb (setb (setb dd (80 + y / 512) true) y true) (tel Ax W na n r0) true y = true := setb_k setb_s
      rw [this] at hdz
      cases hdz
    · rw [if_neg c] at ht hdz ⊢
      have := hyn m r hm
      rw [adR_18, if_neg (by omega)]
      exact nb m r hm q ht (setb_f (setb_f (setb_f hdz))) j hj
  · rcases sbt.mp hdz with e | hdz
    · right; right
      rw [e]
      unfold tel
      by_cases c : own r0 = true
      · rw [if_pos c]; exact Or.inl rfl
      · rw [if_neg c]
        rcases hal with z | ⟨z, z2⟩
        · exact absurd z c
        · have := trl_in c
          refine Or.inr ⟨trl r0, z2, by omega, ?_⟩
          rw [htl, if_neg (fun q => ?_)]
          rw [q.2, h0] at z
          exact z rfl
    · rcases sbt.mp hdz with e | hdz
      · right; right; right
        exact ⟨r0, hnd, hr, by rw [htl, if_pos ⟨rfl, rfl⟩, e]⟩
      · rcases sbt.mp hdz with e | hdz
        · right; left
          omega
        · rcases dz z hz hdz with q | q | q | ⟨r, q1, q2, q3⟩
          · exact Or.inl q
          · exact Or.inr (Or.inl q)
          · exact Or.inr (Or.inr (Or.inl q))
          · refine Or.inr (Or.inr (Or.inr ⟨r, q1, q2, ?_⟩))
            rw [htl, if_neg (fun y => ?_)]
            · exact q3
            · rw [y.2, h0] at q3
              have := (h80 z hz hdz).1
              omega
  · rw [uC_ad hyL hy0]
    have e : (fun r => decide (tl (adR Ax n r0 y) W n r = 0) && nd r) = setb (fun r => decide (tl Ax W n r = 0) && nd r) r0 false := by
      funext r
      unfold setb
      rw [htl]
      by_cases c : r = r0
      · rw [if_pos ⟨rfl, c⟩, if_pos c, decide_eq_false hy00]
        rfl
      · rw [if_neg (fun z => c z.2), if_neg c]
    have q := cnt_clr (P := fun r => decide (tl Ax W n r = 0) && nd r) (x := r0) hr (by simp [h0, hnd])
    rw [e]
    omega
  · exact fx.trans (((fr_X5_takeBlank a1).mono (by decide) (by decide) (by decide)).trans ((fr_X6_setHalf b1).mono (by decide) (by decide) (by decide)))
  · exact fm2.trans (s4.mono (by decide) (by decide) (by decide))
  · rw [sbt, sbt, sbt, sbt, sbt, sbt, rel z hz]
    constructor
    · rintro (q | q | q | q | q)
      · exact Or.inl (Or.inl q)
      · exact Or.inl (Or.inr (Or.inl q))
      · exact Or.inl (Or.inr (Or.inr (Or.inl q)))
      · exact Or.inl (Or.inr (Or.inr (Or.inr q)))
      · exact Or.inr q
    · rintro ((q | q | q | q) | q)
      · exact Or.inl q
      · exact Or.inr (Or.inl q)
      · exact Or.inr (Or.inr (Or.inl q))
      · exact Or.inr (Or.inr (Or.inr (Or.inl q)))
      · exact Or.inr (Or.inr (Or.inr (Or.inr q)))
