/-! ===== drop ===== -/
theorem y_oct {B T S C W Ls na hb n i : Nat} {um : q_St} {D K : Nat → Nat → Int64} {dd : Nat → Bool} {L : Nat → Nat} {N : Nat} {ux : q_St} (g : Geo B T S C W Ls) (gl : gL B C W Ls L) (hna : na = 80 + (Ls + 511) / 512) (s : XS B T S C W Ls hb um D K dd ux) (hn : n < 64) (hi : i < 8) : fX6_octet L N (q_i ux 30 + nI n) (nI i) ux = some (nI (ocN (K (na + n) 0) i), ux) := by
  have hl := g.l
  have e30 : q_i ux 30 = nI na := by rw [s.1.gx.2.2.2.2.2.2.2.2.2.2.2.1, hna]
  rw [e30, nI_add, x_octet g gl s (by omega) (by omega)]
  unfold hO
  rw [show i / 8 = 0 by omega, show i % 8 = i by omega]
theorem y_kindOf {B T S C W Ls na hb n : Nat} {um : q_St} {D K : Nat → Nat → Int64} {dd : Nat → Bool} {L : Nat → Nat} {N : Nat} {ux : q_St} (g : Geo B T S C W Ls) (gl : gL B C W Ls L) (hna : na = 80 + (Ls + 511) / 512) (s : XS B T S C W Ls hb um D K dd ux) (hn : n < 64) : fX4_kindOf L N (nI n) ux = some (nI (ocN (K (na + n) 0) 0), ux) := by
  unfold fX4_kindOf fX4_isNumber
  rw [if_neg (n64 hn).1, if_neg (n64 hn).2, qb_s, if_neg (by decide), show (0 : Int32) = nI 0 from rfl, y_oct g gl hna s hn (by decide), qb_s]
theorem y_linksOf {B T S C W Ls na hb n : Nat} {um : q_St} {D K : Nat → Nat → Int64} {dd : Nat → Bool} {L : Nat → Nat} {N : Nat} {ux : q_St} (g : Geo B T S C W Ls) (gl : gL B C W Ls L) (hna : na = 80 + (Ls + 511) / 512) (s : XS B T S C W Ls hb um D K dd ux) (hn : n < 64) : fX4_linksOf L N (nI n) ux = some (nI (ocN (K (na + n) 0) 3), ux) := by
  unfold fX4_linksOf
  rw [show (3 : Int32) = nI 3 from rfl, y_oct g gl hna s hn (by decide), qb_s]
theorem y_holderOf {B T S C W Ls na hb n : Nat} {um : q_St} {D K : Nat → Nat → Int64} {dd : Nat → Bool} {L : Nat → Nat} {N : Nat} {ux : q_St} (g : Geo B T S C W Ls) (gl : gL B C W Ls L) (hna : na = 80 + (Ls + 511) / 512) (s : XS B T S C W Ls hb um D K dd ux) (hn : n < 64) : fX4_holderOf L N (nI n) ux = some (nI (sH (K (na + n)) 18), ux) := by
  have hl := g.l
  have e30 : q_i ux 30 = nI na := by rw [s.1.gx.2.2.2.2.2.2.2.2.2.2.2.1, hna]
  unfold fX4_holderOf
  rw [e30, nI_add, show (18 : Int32) = nI 18 from rfl, Xs_half g gl s (by omega) (by omega) (by decide), qb_s]
theorem RR_0 {A : Nat → Nat → Nat} {W n r : Nat} (h : ∀ r, 1102 ≤ r → tl A W n r = 0) : RR A W n 0 r ↔ tl A W n r ≠ 0 := by
  unfold RR
  constructor
  · rintro (w | (w | w))
    · exact w.2.2
    · exact w.2.1
    · rw [w.1]; exact w.2.1
  · intro w
    have hr : r < 1102 := by
      rcases Nat.lt_or_ge r 1102 with q | q
      · exact q
      · exact absurd (h r q) w
    by_cases c : r < 1068
    · exact Or.inl ⟨c, by omega, w⟩
    · by_cases c2 : r = 1069
      · exact Or.inr (Or.inr ⟨c2, by rw [← c2]; exact w, fun i hi q => ⟨q, fun _ _ _ q3 _ => by omega⟩⟩)
      · exact Or.inr (Or.inl ⟨by omega, w, fun _ _ _ q3 _ => by omega⟩)
/-- the class gives all SECTORS of a NODE back, and the NODE -/
theorem x_drp {B T S C W Ls na hb n : Nat} {um : q_St} {D K : Nat → Nat → Int64} {dd : Nat → Bool} {A : Nat → Nat → Nat} {nm : Nat → Int64} {L : Nat → Nat} {N : Nat} {ux : q_St} (g : Geo B T S C W Ls) (gl : gL B C W Ls L) (hna : na = 80 + (Ls + 511) / 512) (hN : 300 ≤ N) (t1 : TW1 W B A) (t2 : TW2 (szp A) A) (t3 : TW3 W Ls (na + 64) A) (hn : n < 64) (h0 : A 5 n ≠ 0) (s : XS B T S C W Ls hb um D K dd ux) (rx : RX W Ls na A nm K) (hlk : ocN (K (na + n) 0) 3 ≤ 1) :
    ∃ u K1 dd1 P, fX0_dropOne L N (nI n) ux = some (nI (cnt P 1400), u) ∧ XS B T S C W Ls hb um D (updD K1 (na + n) (fun _ => 0)) (setb dd1 (na + n) true) u ∧ GB A W na n Ls P K K1 dd dd1 ∧ (∀ r, P r = true ↔ tl A W n r ≠ 0) ∧ Fr [13, 22] [5] [2] ux u := by
  have hl := g.l
  have mn := rx.2.1 n hn
  have hk4 := (t1.1 n hn).1
  have b0 : GB A W na n Ls (fun _ => false) K K dd dd := GB_0 t1 rx hn
  have e30 : ∀ u K' dd', XS B T S C W Ls hb um D K' dd' u → q_i u 30 + nI n = nI (na + n) := fun u K' dd' s' => by rw [s'.1.gx.2.2.2.2.2.2.2.2.2.2.2.1, ← hna, nI_add]
  have fin : ∀ u K1 dd1 P c, XS B T S C W Ls hb um D K1 dd1 u → GB A W na n Ls P K K1 dd dd1 → (∀ r, P r = true ↔ tl A W n r ≠ 0) → cnt P 1400 = c → Fr [13, 22] [5] [2] ux u → ∃ u2 K2 dd2 P2, fX0_dropOne_b106 L N (nI (na + n)) (nI c) u = some (nI (cnt P2 1400), u2) ∧ XS B T S C W Ls hb um D (updD K2 (na + n) (fun _ => 0)) (setb dd2 (na + n) true) u2 ∧ GB A W na n Ls P2 K K2 dd dd2 ∧ (∀ r, P2 r = true ↔ tl A W n r ≠ 0) ∧ Fr [13, 22] [5] [2] ux u2 := by
    intro u K1 dd1 P c s' b' hP hc fr
    obtain ⟨u2, a1, a2⟩ := x_clear (N := N) g gl hN s' (x := na + n) (by omega)
    refine ⟨u2, K1, dd1, P, ?_, a2, b', hP, fr.trans ((fr_X6_clear a1).mono (by decide) (by decide) (by decide))⟩
    unfold fX0_dropOne_b106
    rw [a1, qb_s, hc]
  unfold fX0_dropOne
  rw [y_linksOf g gl hna s hn, qb_s, if_pos (show nI (ocN (K (na + n) 0) 3) ≤ (1 : Int32) from nI_le (b := 1) hlk (by decide)), y_kindOf g gl hna s hn, qb_s, mn.1]
  unfold fX4_sectorOf
  rw [qb_s, e30 ux K dd s]
  by_cases k1 : A 5 n = 1
  · rw [k1, if_pos (show nI 1 = (1 : Int32) from rfl)]
    obtain ⟨u, K2, dd2, P, c, a1, a2, a3, a4, a5, a6⟩ := x_gbF (N := N) (p := 0) g gl hna hN t3 (FT_of t2 hn k1) hn k1 (by decide) s b0
    have a1 : fX0_giveBackFrom L N (nI n) 0 ux = some (nI c, u) := a1
    rw [a1, qb_s]
    refine fin u K2 dd2 P c a2 a3 (fun r => (a4 r).trans (RR_0 (fun r hr => ?_))) a5 a6
    unfold tl
    rw [if_pos k1, if_neg (by omega), if_neg (by omega)]
  · rw [if_neg (show ¬ nI (A 5 n) = (1 : Int32) from nI_k (b := 1) hk4 (by decide) k1)]
    by_cases k3 : A 5 n = 3
    · have h13 := (t1.2.2.2.2.1 n hn k3).2.1
      rw [k3, if_pos (show nI 3 = (3 : Int32) from rfl), y_holderOf g gl hna s hn, qb_s]
      obtain ⟨u, K2, dd2, P, a1, a2, a3, a4, a5, a6⟩ := x_gbBand (N := N) (bd := sH (K (na + n)) 18) g gl hna hN t3 hn k3 (mn.2.2.2.2.1 k3) h13 s b0
      rw [a1, qb_s]
      refine fin u K2 dd2 P W a2 a3 (fun r => (a4 r).trans ?_) a5 a6
      unfold tl
      rw [if_neg k1, if_neg (by omega), if_pos k3]
      by_cases c : 1114 ≤ r ∧ r - 1114 < W
      · rw [if_pos c]; omega
      · rw [if_neg c]; omega
    · rw [if_neg (show ¬ nI (A 5 n) = (3 : Int32) from nI_k (b := 3) hk4 (by decide) k3)]
      by_cases k2 : A 5 n = 2
      · have h13 := (t1.2.2.1 n hn k2).2.2
        rw [k2, if_pos (show nI 2 = (2 : Int32) from rfl)]
        obtain ⟨u, K2, dd2, P, c, a1, a2, a3, a4, a5, a6⟩ := x_gbDir (N := N) g gl hna hN t3 hn k2 (t1.1 n hn).2.2.2.2.2.1 h13 s b0
        rw [a1, qb_s]
        refine fin u K2 dd2 P c a2 a3 (fun r => (a4 r).trans ?_) a5 a6
        unfold tl
        rw [if_neg k1, if_pos k2]
        by_cases c : 1102 ≤ r ∧ r - 1102 < A 8 n
        · rw [if_pos c]
          have := h13 (r - 1102) c.2
          omega
        · rw [if_neg c]; omega
      · rw [if_neg (show ¬ nI (A 5 n) = (2 : Int32) from nI_k (b := 2) hk4 (by decide) k2)]
        refine fin ux K dd (fun _ => false) 0 s b0 (fun r => ⟨fun w => (by cases w), fun w => ?_⟩) (cnt_no _) (Fr.rf _ _ _ _)
        exfalso
        apply w
        unfold tl
        rw [if_neg k1, if_neg k2, if_neg k3]
/-- and the reference -/
theorem m_drp {B T S C W Ls na n : Nat} {dm : Nat → Bool} {A : Nat → Nat → Nat} {nm : Nat → Int64} {N : Nat} {um : q_St} (g : Geo B T S C W Ls) (hna : na = 80 + (Ls + 511) / 512) (hN : 3000 ≤ N) (t1 : TW1 W B (setA A 15 n 1)) (t2 : TW2 (szp A) A) (t3 : TW3 W Ls (na + 64) A) (hn : n < 64) (h0 : A 5 n ≠ 0) (rm : RM Ls A nm (q_a um) (q_j um 0)) (ms : MS Ls dm um) (gm : gM B T S C W Ls um) :
    ∃ vm A1 dm1 P, (if nI (A 5 n) = 3 then q_bnd (fX11_unlay N (nI n) um) (fun r21 u22 => fX11_dropSlot_b87 N (nI n) r21 u22) else q_rd 64 (q_a um 5) (nI n) (fun v13 => if v13 = 2 then q_bnd (fX11_undo N (nI n) um) (fun r18 u19 => fX11_dropSlot_b87 N (nI n) r18 u19) else q_bnd (fX11_shrink N (nI n) 0 um) (fun r14 u15 => fX11_dropSlot_b87 N (nI n) r14 u15))) = some (nI (cnt P 1400), vm) ∧ RM Ls (setA (setA A1 8 n 0) 5 n 0) nm (q_a vm) (q_j vm 0) ∧ MS Ls dm1 vm ∧ GM A W na n Ls P A1 dm dm1 ∧ (∀ r, P r = true ↔ tl A W n r ≠ 0) ∧ Fr [25] [5, 8, 9, 10, 17, 33] [] um vm := by
  have hl := g.l
  have s5 : setA A 15 n 1 5 = A 5 := setA_k (by decide)
  have s8 : setA A 15 n 1 8 = A 8 := setA_k (by decide)
  have s13 : setA A 15 n 1 13 = A 13 := setA_k (by decide)
  have hk4 := (t1.1 n hn).1
  rw [s5] at hk4
  have h17 : ∀ x, A 17 x ≤ 1 := by
    have := t1.2.2.2.2.2.2.2
    rw [setA_k (show (17 : Nat) ≠ 15 by decide)] at this
    exact this
  have fin : ∀ u A1 dm1 P c, RM Ls (setA A1 8 n 0) nm (q_a u) (q_j u 0) → MS Ls dm1 u → GM A W na n Ls P A1 dm dm1 → (∀ r, P r = true ↔ tl A W n r ≠ 0) → cnt P 1400 = c → Fr [25] [5, 8, 9, 10, 17, 33] [] um u → ∃ vm A1 dm1 P, fX11_dropSlot_b87 N (nI n) (nI c) u = some (nI (cnt P 1400), vm) ∧ RM Ls (setA (setA A1 8 n 0) 5 n 0) nm (q_a vm) (q_j vm 0) ∧ MS Ls dm1 vm ∧ GM A W na n Ls P A1 dm dm1 ∧ (∀ r, P r = true ↔ tl A W n r ≠ 0) ∧ Fr [25] [5, 8, 9, 10, 17, 33] [] um vm := by
    intro u A1 dm1 P c r' s' g' hP hc fr
    have r2 := RM_7 (n := n) (k0 := 5) (v := 0) r' (by decide)
    refine ⟨_, A1, dm1, P, ?_, r2, ⟨by rw [qa_ne (by decide)]; exact s'.1, s'.2⟩, g', hP, fr.trans (fr_sa1 _ (by decide))⟩
    unfold fX11_dropSlot_b87
    rw [qw_n hn (by decide), cl_n (by omega), hc]
    rfl
  by_cases k3 : A 5 n = 3
  · have h13 := (t1.2.2.2.2.1 n hn (by rw [s5]; exact k3)).2.1
    rw [s13] at h13
    have h8 := (t1.1 n hn).2.2.2.2.2.2 (by rw [s5]; omega)
    rw [s8] at h8
    obtain ⟨vm, A2, dm2, P, a1, a2, a3, a4, a5, a6, a7⟩ := m_unlay (N := N) g hna hN t3 hn k3 h13 gm.2.2.2.2.2.2.2.1 gm.2.2.2.2.1 rm ms h17
    rw [k3, if_pos (show nI 3 = (3 : Int32) from rfl), a1, qb_s]
    have e8 : setA A2 8 n 0 = A2 := setA_id (by rw [a4.2.1 8 (by decide) (by decide) (by decide)]; exact h8)
    refine fin vm A2 dm2 P W (by rw [e8]; exact a2) a3 a4 (fun r => (a5 r).trans ?_) a6 (a7.mono (by decide) (by decide) (by decide))
    unfold tl
    rw [if_neg (by omega), if_neg (by omega), if_pos k3]
    by_cases c : 1114 ≤ r ∧ r - 1114 < W
    · rw [if_pos c]; omega
    · rw [if_neg c]; omega
  · rw [if_neg (show ¬ nI (A 5 n) = (3 : Int32) from nI_k (b := 3) hk4 (by decide) k3), qr_n hn (by decide), rm.r7 (by decide) hn]
    by_cases k2 : A 5 n = 2
    · have h13 := (t1.2.2.1 n hn (by rw [s5]; exact k2)).2.2
      rw [s8, s13] at h13
      have h8 := (t1.1 n hn).2.2.2.2.2.1
      rw [s8] at h8
      obtain ⟨vm, A2, dm2, P, a1, a2, a3, a4, a5, a6, a7⟩ := m_undo (N := N) g hna hN t3 hn k2 h8 h13 gm.2.2.2.2.2.2.2.1 rm ms h17
      rw [k2, if_pos (show nI 2 = (2 : Int32) from rfl), a1, qb_s]
      refine fin vm A2 dm2 P (A 8 n) a2 a3 a4 (fun r => (a5 r).trans ?_) a6 (a7.mono (by decide) (by decide) (by decide))
      unfold tl
      rw [if_neg (by omega), if_pos k2]
      by_cases c : 1102 ≤ r ∧ r - 1102 < A 8 n
      · rw [if_pos c]
        have := h13 (r - 1102) c.2
        omega
      · rw [if_neg c]; omega
    · rw [if_neg (show ¬ nI (A 5 n) = (2 : Int32) from nI_k (b := 2) hk4 (by decide) k2)]
      have h8 := (t1.1 n hn).2.2.2.2.2.2 (by rw [s5]; omega)
      rw [s8] at h8
      have h910 : (∀ q, q < 1068 → A 9 (1068 * n + q) = tl A W n q) ∧ (∀ i, i < 34 → A 10 (34 * n + i) = tl A W n (1068 + i)) ∧ FT A W n ∧ ∀ r, 1102 ≤ r → tl A W n r = 0 := by
        by_cases k1 : A 5 n = 1
        · refine ⟨fun q hq => (tl_p k1 hq).symm, fun i hi => (tl_i k1 hi).symm, FT_of t2 hn k1, fun r hr => ?_⟩
          unfold tl
          rw [if_pos k1, if_neg (by omega), if_neg (by omega)]
        · have z : ∀ r, tl A W n r = 0 := fun r => by
            unfold tl
            rw [if_neg k1, if_neg k2, if_neg k3]
          have q := t2.1 n hn k1
          exact ⟨fun p hp => by rw [z]; exact q.1 p hp, fun i hi => by rw [z]; exact q.2 i hi, ⟨fun _ _ _ w => absurd (z _) w, fun _ _ w => absurd (z _) w, fun _ _ w => absurd (z _) w, fun w => absurd (z _) w⟩, fun r _ => z r⟩
      obtain ⟨vm, A2, dm2, P, c, a1, a2, a3, a4, a5, a6, a7⟩ := m_shrink (N := N) (p := 0) g hna hN t3 h910.2.2.1 hn h910.1 h910.2.1 gm.2.2.2.2.2.2.2.1 gm.2.2.2.2.2.2.2.2 (by decide) rm ms h17
      have a1 : fX11_shrink N (nI n) 0 um = some (nI c, vm) := a1
      rw [a1, qb_s]
      have e8 : setA A2 8 n 0 = A2 := setA_id (by rw [a4.2.1 8 (by decide) (by decide) (by decide)]; exact h8)
      exact fin vm A2 dm2 P c (by rw [e8]; exact a2) a3 a4 (fun r => (a5 r).trans (RR_0 h910.2.2.2)) a6 (a7.mono (by decide) (by decide) (by decide))
theorem RM_14z {Ls j : Nat} {A : Nat → Nat → Nat} {nm : Nat → Int64} {um : q_St} (r : RM Ls A nm (q_a um) (q_j um 0)) : RM Ls (setA A 14 j 0) nm (q_a (q_sa um 14 (upd (q_a um 14) j (-1)))) (q_j (q_sa um 14 (upd (q_a um 14) j (-1))) 0) := by
  obtain ⟨r1, r2, r3, r4, r6, r7, r8, r9⟩ := r
  have s7r : ∀ k ∈ s7, k ≠ 14 := by decide
  refine ⟨fun k hk i hi => ?_, ?_, ?_, ?_, ?_, fun i hi => ?_, ?_, ?_⟩
  · rw [qa_ne (s7r k hk), setA_k (s7r k hk)]; exact r1 k hk i hi
  · rw [qa_ne (by decide), setA_k (by decide)]; exact r2
  · rw [qa_ne (by decide), setA_k (by decide)]; exact r3
  · rw [qa_ne (by decide), setA_k (by decide)]; exact r4
  · rw [qa_ne (by decide), setA_k (by decide)]; exact r6
  · rw [qa_eq]
    by_cases c : i = j
    · rw [c, up_s, setA_s]
      exact ⟨rfl, fun z => absurd rfl z⟩
    · rw [up_n c, setA_n c]
      exact r7 i hi
  · rw [qa_ne (by decide), setA_k (by decide)]; exact r8
  · rw [qa_ne (by decide), setA_k (by decide)]; exact r9
theorem x_takeOut {B T S C W Ls na hb d f : Nat} {um : q_St} {D K : Nat → Nat → Int64} {dd : Nat → Bool} {A : Nat → Nat → Nat} {nm : Nat → Int64} {L : Nat → Nat} {N : Nat} {ux : q_St} (x : Xr B T S C W Ls na hb um D K dd A nm L ux) (hd : d < 64) (hk : A 5 d = 2) (hf : f < 4 * A 8 d) : ∃ vx, fX3_takeOut L N (nI d) (nI f) ux = some ((), vx) ∧ XS B T S C W Ls hb um D (fsK K (A 13 (12 * d + f / 4)) (f % 4) 0 0) (setb dd (A 13 (12 * d + f / 4)) true) vx ∧ RX W Ls na (setA A 14 (48 * d + f) 0) nm (fsK K (A 13 (12 * d + f / 4)) (f % 4) 0 0) ∧ Fr [13, 22] [5] [2] ux vx := by
  obtain ⟨⟨g, gl, hna⟩, s, rx, tw⟩ := id x
  have h8 := x.t8 hd
  have hl := g.l
  have hb1 := (dirB x hd hk (show f / 4 < A 8 d by omega)).1
  obtain ⟨vx, a1, a2⟩ := y_fillSlot (N := N) (v := 0) (nd := 0) g gl s hb1.2.1 (show f % 4 < 4 by omega)
  have a1 : fX3_fillSlot L N (nI (A 13 (12 * d + f / 4))) (nI (f % 4)) 0 0 ux = some ((), vx) := a1
  have fl := fl_RX (f := f) (nd := 0) (v := 0) (nm2 := nm) (e := 64) hna tw.1 tw.2.2.1 (RX_x rx) hd hk hf (by decide) (fun _ => rfl) (fun _ _ => rfl) (fun z => absurd rfl z)
  refine ⟨vx, ?_, a2, RXx_64 fl, (fr_X3_fillSlot a1).mono (by decide) (by decide) (by decide)⟩
  unfold fX3_takeOut
  rw [show nI f / (4 : Int32) = nI (f / 4) from pk_div (d := 4) (by omega) (by decide) (by decide), x_blockAt x hd hk (by omega), qb_s, if_pos (by omega), show nI (f / 4) * (4 : Int32) = nI (f / 4 * 4) from pk_mul _ 4, pk_sub (by omega), show f - f / 4 * 4 = f % 4 by omega, a1, qb_s]
