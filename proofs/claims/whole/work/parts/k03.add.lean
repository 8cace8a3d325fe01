/-! ===== a SLOT added, while the reference has not borne the NODE ===== -/
theorem m_grow2 {B T S C W Ls na d y : Nat} {A : Nat → Nat → Nat} {nm : Nat → Int64} {dd : Nat → Bool} {N : Nat} {um : q_St} {v : Int64} {x4 : Int32} (g : Geo B T S C W Ls) (hna : na = 80 + (Ls + 511) / 512) (hN : 3000 ≤ N) (r : RM Ls A nm (q_a um) (q_j um 0)) (s : MS Ls dd um) (gm : gM B T S C W Ls um) (h14 : ∀ j, j < 3072 → A 14 j ≠ 0 → A 14 j < 64) (h14b : ∀ j, j < 3072 → A 14 j ≠ 0 → j % 48 < 4 * A 8 (j / 48)) (h17 : ∀ x, A 17 x ≤ 1) (hd : d < 64) (hk : A 5 d = 2) (h8 : A 8 d < 12) (hno : fnd (sF A d) (4 * A 8 d) 0 = 4 * A 8 d) (b : Option Nat) (hb : ∀ k, b = some k → k < B) (hy : fnd (frB A W b) (Ls - (na + 64)) (na + 64) = y) (hyL : y < Ls) :
    ∃ vm, fX11_enter N (nI d) v x4 (bno b) um = fX11_enter_b89 N (nI d) v x4 vm ∧ RM Ls (gA A d y) nm (q_a vm) (q_j vm 0) ∧ MS Ls (setb (setb (setb dd (80 + y / 512) true) y true) (na + d) true) vm ∧ Fr [25] [8, 13, 14, 17, 18, 33] [] um vm := by
  have hl := g.l
  have fs := m_freeSlot (N := N) r (by omega) hd (by omega) h14
  rw [hno] at fs
  unfold slM at fs
  rw [if_neg (by omega)] at fs
  obtain ⟨u1, a1, a2, a3⟩ := m_takeBlock (N := N) (fb := na + 64) g hN (by omega) r s gm (by omega) h17 b hb hy hyL
  have f1 := fr_X11_takeBlock a1
  obtain ⟨u2, hu2⟩ : ∃ q, q = q_sa u1 13 (upd (q_a u1 13) (12 * d + A 8 d) (nI y)) := ⟨_, rfl⟩
  obtain ⟨u3, hu3⟩ : ∃ q, q = q_sa u2 8 (upd (q_a u2 8) d (nI (A 8 d + 1))) := ⟨_, rfl⟩
  obtain ⟨u4, hu4⟩ : ∃ q, q = (q_sa u3 14 (fun j => if 48 * d + (4 * A 8 d + 0) ≤ j ∧ j < 48 * d + (4 * A 8 d + 4) then -1 else q_a u3 14 j)) := ⟨_, rfl⟩
  have r8u1 : q_a u1 8 d = nI (A 8 d) := by rw [a2.r7 (by decide) hd, tkA_k (by decide) (by decide)]
  have r8u2 : q_a u2 8 d = nI (A 8 d) := by rw [hu2, qa_ne (by decide)]; exact r8u1
  have r8u3 : q_a u3 8 d = nI (A 8 d + 1) := by rw [hu3, qa_eq, up_s]
  have c4 := m_clr4 (N := N) (v := v) (x4 := x4) hd h8 4 0 N u3 (by omega) (by omega) r8u3
  rw [← hu4] at c4
  have s4 : MS Ls (setb (setb dd (80 + y / 512) true) y true) u4 := ⟨by rw [hu4, qa_ne (by decide), hu3, qa_ne (by decide), hu2, qa_ne (by decide)]; exact a3.1, by rw [hu4, hu3, hu2]; exact a3.2⟩
  have e8 : q_i u4 8 = nI (80 + (Ls + 511) / 512) := by
    rw [hu4, hu3, hu2]
    show q_i u1 8 = _
    rw [f1.1 8 (by decide)]
    exact gm.2.2.2.2.2.2.2.2
  obtain ⟨u5, b1, b2⟩ := m_soilNode (N := N) (n := d) g hna e8 s4 hd
  have f5 := fr_X11_soilNode b1
  refine ⟨u5, ?_, ?_, b2, ?_⟩
  · unfold fX11_enter
    rw [fs, qb_s, if_pos rfl, qr_n hd (by decide), r.r7 (by decide) hd, a1, qb_s, show (12 : Int32) * nI d = nI (12 * d) from pk_mul 12 _, nI_add, qw_n (by omega) (by omega), cl_n (by omega), ← hu2, qr_n hd (by decide), r8u2, nI_1, qw_n hd (by decide), cl_n (by omega), ← hu3]
    unfold fX11_slots
    rw [qr_n hd (by decide), r8u3, qb_s, show (4 : Int32) * nI (A 8 d + 1) = nI (4 * (A 8 d + 1)) from pk_mul 4 _, show (48 : Int32) * nI d = nI (48 * d) from pk_mul 48 _, nI_add, show nI (48 * d + 4 * (A 8 d + 1)) - (4 : Int32) = nI (48 * d + 4 * (A 8 d + 1) - 4) from pk_sub (b := 4) (by omega), qn_s, show 48 * d + 4 * (A 8 d + 1) - 4 = 48 * d + (4 * A 8 d + 0) by omega, c4]
    dsimp only
    rw [b1, qb_s]
  · have key : RM Ls (gA A d y) nm (q_a u4) (q_j u4 0) := by
      obtain ⟨r1, r2, r3, r4, r6, r7, r8, r9⟩ := a2
      have ta : ∀ k, k ≠ 8 → k ≠ 13 → gA A d y k = tkA A y k := fun k h1 h2 => by unfold gA; rw [setA_k h1, setA_k h2]
      have rr : ∀ k, k ≠ 8 → k ≠ 13 → k ≠ 14 → q_a u4 k = q_a u1 k := fun k h1 h2 h3 => by rw [hu4, qa_ne h3, hu3, qa_ne h1, hu2, qa_ne h2]
      have s7r : ∀ k ∈ s7, k ≠ 13 ∧ k ≠ 14 := by decide
      refine ⟨fun k hk2 j hj => ?_, ?_, ?_, ?_, fun j hj => ?_, fun j hj => ?_, ?_, ?_⟩
      · by_cases c : k = 8
        · rw [c, hu4, qa_ne (by decide), hu3, qa_eq, gA_8]
          by_cases c2 : j = d
          · rw [c2, up_s, if_pos rfl]
          · have := r1 8 (by decide) j hj
            rw [tkA_k (by decide) (by decide)] at this
            rw [up_n c2, if_neg c2, hu2, qa_ne (by decide)]
            exact this
        · rw [rr k c (s7r k hk2).1 (s7r k hk2).2, ta k c (s7r k hk2).1]
          exact r1 k hk2 j hj
      · rw [rr 10 (by decide) (by decide) (by decide), ta 10 (by decide) (by decide)]; exact r2
      · rw [rr 9 (by decide) (by decide) (by decide), ta 9 (by decide) (by decide)]; exact r3
      · rw [rr 16 (by decide) (by decide) (by decide), ta 16 (by decide) (by decide)]; exact r4
      · rw [hu4, qa_ne (by decide), hu3, qa_ne (by decide), hu2, qa_eq, gA_13]
        by_cases c2 : j = 12 * d + A 8 d
        · rw [c2, up_s, if_pos rfl]
        · have := r6 j hj
          rw [tkA_k (by decide) (by decide)] at this
          rw [up_n c2, if_neg c2]
          exact this
      · have q := r7 j hj
        rw [ta 14 (by decide) (by decide)]
        have eu : q_j u4 0 = q_j u1 0 := by rw [hu4, hu3, hu2]; rfl
        rw [eu]
        refine ⟨?_, q.2⟩
        rw [hu4, qa_eq, hu3, qa_ne (by decide), hu2, qa_ne (by decide)]
        by_cases c2 : 48 * d + (4 * A 8 d + 0) ≤ j ∧ j < 48 * d + (4 * A 8 d + 4)
        · have z : A 14 j = 0 := by
            by_cases z : A 14 j = 0
            · exact z
            · exfalso
              have := h14b j hj z
              rw [show j / 48 = d by omega] at this
              omega
          rw [if_pos c2, tkA_k (by decide) (by decide), z]
          rfl
        · rw [if_neg c2]
          exact q.1
      · rw [rr 17 (by decide) (by decide) (by decide), ta 17 (by decide) (by decide)]; exact r8
      · rw [rr 18 (by decide) (by decide) (by decide), ta 18 (by decide) (by decide)]; exact r9
    exact RM_fr key (fun k q1 q2 => f5.2.1 k (by simp only [List.mem_cons, List.not_mem_nil, or_false]; omega)) (f5.2.2 0 (by decide))
  · have q1 : Fr [25] [8, 13, 14, 17, 18, 33] [] um u1 := f1.mono (by decide) (by decide) (by decide)
    have q2 : Fr [25] [8, 13, 14, 17, 18, 33] [] u1 u4 := by
      rw [hu4, hu3, hu2]
      exact ((fr_sa1 _ (by decide)).trans (fr_sa1 _ (by decide))).trans (fr_sa1 _ (by decide))
    exact (q1.trans q2).trans (f5.mono (by decide) (by decide) (by decide))
theorem l_add2 {B T S C W Ls na hb d nd e : Nat} {um0 : q_St} {D : Nat → Nat → Int64} {Ak : Nat → Nat → Nat} {K : Nat → Nat → Int64} {dd dm : Nat → Bool} {A Am : Nat → Nat → Nat} {nm : Nat → Int64} {L : Nat → Nat} {N : Nat} {ux um : q_St} {v : Int64} (g : Geo B T S C W Ls) (gl : gL B C W Ls L) (hna : na = 80 + (Ls + 511) / 512) (hN : 3000 ≤ N) (xs : XS B T S C W Ls hb um0 D K dd ux) (ms : MS Ls dm um) (rm : RM Ls Am nm (q_a um) (q_j um 0)) (e8 : Am 8 = A 8) (e14m : Am 14 = A 14) (e17 : Am 17 = A 17) (e13 : ∀ i, i < 12 → Am 13 (12 * d + i) = A 13 (12 * d + i)) (gm : gM B T S C W Ls um) (tv : TV B W Ls (na + 64) A nm) (rx : RXx W Ls na A nm K e) (he : d ≠ e) (hd : d < 64) (hk : A 5 d = 2) (hkm : Am 5 d = 2) (hn0 : nd ≠ 0) (hnd : nd < 64) (b : Option Nat) (hbb : ∀ k, b = some k → k < B ∧ ∀ x, x < Ls → x / W = k → A 17 x = 1) (room : rom W Ls na d A) (h80 : ∀ x, x < Ls → dd x = true → 80 ≤ x ∧ A 17 x = 1) (nb : NB W A Ak dd) :
    ∃ (vx vm : q_St) (A' Am' : Nat → Nat → Nat) (f : Nat) (K' : Nat → Nat → Int64) (dd' dm' sx : Nat → Bool), fX3_add L N (nI d) v (nI nd) ux = some ((), vx) ∧ fX11_enter N (nI d) v (nI nd) (bno b) um = some ((), vm) ∧ XS B T S C W Ls hb um0 D K' dd' vx ∧ MS Ls dm' vm ∧ (∀ x, dd' x = (sx x || dd x) ∧ dm' x = (sx x || dm x)) ∧ ((A' = A ∧ Am' = Am) ∨ ∃ y, A' = gA A d y ∧ Am' = gA Am d y) ∧ RM Ls (setA Am' 14 (48 * d + f) nd) (setN nm (48 * d + f) v) (q_a vm) (q_j vm 0) ∧ RXx W Ls na (setA A' 14 (48 * d + f) nd) (setN nm (48 * d + f) v) K' e ∧ TV B W Ls (na + 64) A' nm ∧ (TW B W Ls (na + 64) A nm → TW B W Ls (na + 64) A' nm) ∧ (∀ k, k ≠ 8 → k ≠ 13 → k ≠ 17 → k ≠ 18 → A' k = A k) ∧ f < 4 * A' 8 d ∧ A' 14 (48 * d + f) = 0 ∧ (∀ n, n < 64 → n ≠ d → ∀ j, K' (na + n) j = K (na + n) j) ∧ (∀ n r, n < 64 → n ≠ d → tl A W n r ≠ 0 → tl A' W n r = tl A W n r ∧ (∀ j, A' 18 (64 * tl A W n r + j) = A 18 (64 * tl A W n r + j) ∨ 64 ≤ j) ∧ ∀ j, K' (tl A W n r) j = K (tl A W n r) j) ∧ cnt dd' Ls ≤ cnt dd Ls + 4 ∧ (∀ x, x < Ls → dd' x = true → 80 ≤ x ∧ A' 17 x = 1) ∧ NB W A' Ak dd' ∧ (∀ x, dd x = true → dd' x = true) ∧ (∀ x, A 17 x = 1 → A' 17 x = 1) ∧ Fr [13, 22] [5] [2] ux vx ∧ Fr [25] [8, 13, 14, 17, 18, 33] [0] um vm := by
  have hl := g.l
  have hw := g.w
  have esF : sF Am d = sF A d := by
    funext j
    unfold sF
    rw [e14m]
  have efr : ∀ b, frB Am W b = frB A W b := by
    intro b
    funext j
    unfold frB
    rw [e17]
  have h8a : ∀ n, n < 64 → A 8 n ≤ 12 := fun n hn => (tv.1.1 n hn).2.2.2.2.2.1
  have h8 := h8a d hd
  have h17 := tv.1.2.2.2.2.2.2.2
  have hlow := tv.2.2.1.2.2.2
  have h14 : ∀ j, j < 3072 → A 14 j ≠ 0 → A 14 j < 64 := fun j hj h => (tv.2.2.2 j hj h).2.2.1
  have htd : ∀ i, i < A 8 d → tl A W d (1102 + i) = A 13 (12 * d + i) := by
    intro i hi
    unfold tl
    rw [if_neg (by omega), if_pos hk, if_pos (by omega), show 1102 + i - 1102 = i by omega]
  have hb13 : ∀ i, i < A 8 d → na + 64 ≤ A 13 (12 * d + i) ∧ A 13 (12 * d + i) < Ls ∧ A 17 (A 13 (12 * d + i)) = 1 := by
    intro i hi
    have h0 := (tv.1.2.2.1 d hd hk).2.2 i hi
    have := tv.2.2.1.2.1 d (1102 + i) hd (by rw [htd i hi]; exact h0)
    rw [htd i hi] at this
    exact this
  have dr : DirR Ls na d A nm K := by
    refine ⟨⟨hd, h8⟩, ((rx.2.1 d hd he).2.2.1 hk).1, fun i hi => ?_⟩
    have q := hb13 i hi
    refine ⟨⟨q.1, q.2.1⟩, fun s hs => ?_⟩
    have r := (rx.2.2 d (1102 + i) hd he (by rw [htd i hi]; omega)).2.2.2.2 hk s hs
    rw [htd i hi, show 48 * d + 4 * (1102 + i - 1102) + s = 48 * d + (4 * i + s) by omega] at r
    refine ⟨r.1, fun z => ⟨(r.2 z).1, ?_⟩⟩
    exact (tv.2.2.2 _ (by omega) z).2.2.2.2.1.1
  rcases room with hf | ⟨hno, h12, hyL⟩
  · obtain ⟨f, hfe⟩ : ∃ q, q = fnd (sF A d) (4 * A 8 d) 0 := ⟨_, rfl⟩
    rw [← hfe] at hf
    have hb1 := hb13 (f / 4) (by omega)
    have hz14 : A 14 (48 * d + f) = 0 := by
      have := fnd_yes (sF A d) (4 * A 8 d) 0 (by omega)
      rw [← hfe] at this
      unfold sF at this
      exact of_decide_eq_true this
    obtain ⟨u2, b1, b2⟩ := y_addF (N := N) (v := v) (nd := nd) g gl (by omega) hna xs dr hfe.symm hf
    obtain ⟨w1, c1, c2, c3⟩ := m_b89 (N := N) (v := v) (nd := nd) (x := A 13 (12 * d + f / 4)) (by omega) hl.2 rm ms hd (by rw [e8]; exact h8) (by rw [e14m]; exact h14) (by rw [esF, e8]; exact hfe.symm) (by rw [e8]; exact hf) (e13 _ (by omega)) hb1.2.1 hn0
    have hen : fX11_enter N (nI d) v (nI nd) (bno b) um = some ((), w1) := by
      have fs := m_freeSlot (N := N) rm (by omega) hd (by rw [e8]; exact h8) (by rw [e14m]; exact h14)
      rw [esF, e8] at fs
      unfold fX11_enter
      rw [fs, qb_s, if_neg (fun z => (slM_no (by omega)).mp z (by omega))]
      exact c1
    have fl := fl_RX (f := f) (nd := nd) (v := v) (nm2 := setN nm (48 * d + f) v) hna tv.1 tv.2.2.1 rx hd hk hf (by omega) (fun z => absurd z hn0) (fun i hi => if_neg hi) (fun _ => if_pos rfl)
    refine ⟨u2, w1, A, Am, f, _, _, _, setb (fun _ => false) (A 13 (12 * d + f / 4)) true, b1, hen, b2, c3, fun z => ⟨?_, ?_⟩, Or.inl ⟨rfl, rfl⟩, c2, fl, tv, fun t => t, fun _ _ _ _ _ => rfl, hf, hz14, fun n hn hnd2 j => ?_, fun n r hn hnd2 ht => ⟨rfl, fun j => Or.inl rfl, fun j => ?_⟩, ?_, fun z hz hdz => ?_, ?_, fun z hz => ?_, fun _ z => z, ?_, ?_⟩
    · unfold setb
      repeat' split
      all_goals simp
    · unfold setb
      repeat' split
      all_goals simp
    · exact fsK_o (by omega)
    · refine fsK_o (fun z => ?_)
      have := tv.2.2.1.1 n r d (1102 + f / 4) hn hd ht (by rw [htd (f / 4) (by omega)]; exact z)
      exact hnd2 this.1
    · exact Nat.le_trans cnt_up1 (by omega)
    · unfold setb at hdz
      split at hdz
      · rename_i e
        rw [e]
        exact ⟨by omega, hb1.2.2⟩
      · exact h80 z hz hdz
    · exact NB_dd (fun z hz => setb_f hz) nb
    · unfold setb
      split
      · rfl
      · exact hz
    · exact (fr_X3_add b1).mono (by decide) (by decide) (by decide)
    · exact (fr_X11_enter hen).mono (by decide) (by decide) (by decide)
  · obtain ⟨y, hye⟩ : ∃ q, q = fnd (frB A W none) (Ls - (na + 64)) (na + 64) := ⟨_, rfl⟩
    rw [← hye] at hyL
    have hyb : fnd (frB A W b) (Ls - (na + 64)) (na + 64) = y := by
      rw [hye]
      exact fnd_cg _ _ (fun i _ h2 => frB_b hbb (by omega))
    obtain ⟨hy1, hy0, hylo⟩ := low_free h17 hlow hye.symm hyL (by omega)
    have tvg := gA_TV tv hd hk h12 hy1 hyL hy0 (by omega)
    have e5 : gA A d y 5 = A 5 := gA_k (by decide) (by decide) (by decide) (by decide)
    have e14 : gA A d y 14 = A 14 := gA_k (by decide) (by decide) (by decide) (by decide)
    have g8 : gA A d y 8 d = A 8 d + 1 := by rw [gA_8, if_pos rfl]
    have g13 : gA A d y 13 (12 * d + A 8 d) = y := by rw [gA_13, if_pos rfl]
    have hz14 : A 14 (48 * d + 4 * A 8 d) = 0 := by
      by_cases z : A 14 (48 * d + 4 * A 8 d) = 0
      · exact z
      · exfalso
        have := (tv.2.2.2 _ (by omega) z).2.1
        rw [show (48 * d + 4 * A 8 d) / 48 = d by omega] at this
        omega
    obtain ⟨u2, q, b1, b2, b3⟩ := y_addN (N := N) (v := v) (nd := nd) g gl (by omega) hna xs dr hno h12 rx.1 h17 hyL hy0 hylo
    obtain ⟨w0, p1, p2, p3, p4⟩ := m_grow2 (N := N) (v := v) (x4 := nI nd) g hna hN rm ms gm (by rw [e14m]; exact h14) (by rw [e14m, e8]; exact fun j hj h => (tv.2.2.2 j hj h).2.1) (by rw [e17]; exact h17) hd hkm (by rw [e8]; exact h12) (by rw [esF, e8]; exact hno) b (fun k e => (hbb k e).1) (by rw [efr]; exact hyb) hyL
    have hfnd : fnd (sF (gA A d y) d) (4 * gA A d y 8 d) 0 = 4 * A 8 d := by
      have es : sF (gA A d y) d = sF A d := by funext j; unfold sF; rw [e14]
      rw [es, g8, show 4 * (A 8 d + 1) = 4 * A 8 d + 4 by omega, fnd_add, hno, if_neg (by omega), Nat.zero_add, fnd_1, if_pos (by unfold sF; exact decide_eq_true hz14)]
    have g8m : gA Am d y 8 d = A 8 d + 1 := by rw [gA_8, if_pos rfl, e8]
    have g13m : gA Am d y 13 (12 * d + A 8 d) = y := by rw [gA_13, e8, if_pos rfl]
    have g14m : gA Am d y 14 = A 14 := by rw [gA_k (by decide) (by decide) (by decide) (by decide), e14m]
    have hfndm : fnd (sF (gA Am d y) d) (4 * gA Am d y 8 d) 0 = 4 * A 8 d := by
      have es : sF (gA Am d y) d = sF (gA A d y) d := by funext j; unfold sF; rw [g14m, e14]
      rw [es, g8m, ← g8]
      exact hfnd
    obtain ⟨w1, c1, c2, c3⟩ := m_b89 (N := N) (v := v) (nd := nd) (x := y) (f := 4 * A 8 d) (by omega) hl.2 p2 p3 hd (by rw [g8m]; omega) (by rw [g14m]; exact h14) hfndm (by rw [g8m]; omega) (by rw [show 4 * A 8 d / 4 = A 8 d by omega]; exact g13m) hyL hn0
    have hen : fX11_enter N (nI d) v (nI nd) (bno b) um = some ((), w1) := p1.trans c1
    have rg := gA_RX hl.2 hna tv rx hd hk h12 hy1 hyL hy0 b3
    have fl := fl_RX (f := 4 * A 8 d) (nd := nd) (v := v) (nm2 := setN nm (48 * d + 4 * A 8 d) v) hna tvg.1 tvg.2.2.1 rg hd (by rw [e5]; exact hk) (by rw [g8]; omega) (by omega) (fun z => absurd z hn0) (fun i hi => if_neg hi) (fun _ => if_pos rfl)
    rw [show 4 * A 8 d / 4 = A 8 d by omega, g13, show 4 * A 8 d % 4 = 0 by omega] at fl
    have kk : ∀ z j, z ≠ y → z ≠ na + d → ¬ (80 ≤ z ∧ z < na) → fsK (setH (updD (setW K (80 + y / 512) (y % 512 / 64) q) y (fun _ => 0)) (na + d) (4 + A 8 d) y) y 0 v nd z j = K z j := by
      intro z j z1 z2 z3
      rw [fsK_o z1, setH_w (fun w => z2 w.1)]
      unfold updD
      rw [if_neg z1, setW_n (fun w => by omega)]
    refine ⟨u2, w1, gA A d y, gA Am d y, 4 * A 8 d, _, _, _, setb (setb (setb (setb (fun _ => false) (80 + y / 512) true) y true) (na + d) true) y true, b1, hen, b2, c3, fun z => ⟨?_, ?_⟩, Or.inr ⟨y, rfl, rfl⟩, c2, fl, tvg, fun t => gA_TW t hd hk h12 hy1 hyL hy0 (by omega), fun k k1 k2 k3 k4 => gA_k k1 k2 k3 k4, by rw [g8]; omega, by rw [e14]; exact hz14, fun n hn hnd2 j => ?_, fun n r hn hnd2 ht => ?_, ?_, fun z hz hdz => ?_, ?_, fun z hz => ?_, fun z hz => ?_, ?_, ?_⟩
    · unfold setb
      repeat' split
      all_goals simp
    · unfold setb
      repeat' split
      all_goals simp
    · exact kk _ _ (by omega) (by omega) (by omega)
    · have hq := tv.2.2.1.2.1 n r hn ht
      have hz : tl A W n r ≠ y := fun z => by rw [z] at hq; omega
      have etl := gA_tl (W := W) (y := y) hk h12 h8a (n := n) (r := r) hn
      rw [if_neg (fun z => hnd2 z.1)] at etl
      refine ⟨etl, fun j => ?_, fun j => kk _ _ hz (by omega) (by omega)⟩
      by_cases c : 64 ≤ j
      · exact Or.inr c
      · left
        rw [gA_18, if_neg (by omega)]
    · refine Nat.le_trans cnt_up1 ?_
      have q1 := cnt_up1 (P := setb (setb dd (80 + y / 512) true) y true) (x := na + d) (n := Ls)
      have q2 := cnt_up1 (P := setb dd (80 + y / 512) true) (x := y) (n := Ls)
      have q3 := cnt_up1 (P := dd) (x := 80 + y / 512) (n := Ls)
      omega
    · rw [gA_17]
      unfold setb at hdz
      split at hdz
      · rename_i e; rw [e, if_pos rfl]; exact ⟨by omega, rfl⟩
      · rename_i hzy
        rw [if_neg hzy]
        split at hdz
        · rename_i e; rw [e]; exact ⟨by omega, hlow _ (by omega)⟩
        · split at hdz
          · rename_i e; rw [e]; exact ⟨by omega, hlow _ (by omega)⟩
          · exact h80 z hz hdz
    · exact NB_dd (fun z hz => setb_f (setb_f (setb_f (setb_f hz)))) (NB_gA tv.2.2.1 hk h12 h8a hy0 nb)
    · unfold setb
      repeat' split
      all_goals first | rfl | exact hz
    · rw [gA_17]
      split
      · rfl
      · exact hz
    · exact (fr_X3_add b1).mono (by decide) (by decide) (by decide)
    · exact (fr_X11_enter hen).mono (by decide) (by decide) (by decide)
