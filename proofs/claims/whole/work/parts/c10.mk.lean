/-! ===== a NODE begun and entered, in both ===== -/
theorem RXx_beg {W Ls na n : Nat} {A : Nat → Nat → Nat} {nm : Nat → Int64} {K K1 : Nat → Nat → Int64} (hna : na = 80 + (Ls + 511) / 512) (t3 : TW3 W Ls (na + 64) A) (r : RX W Ls na A nm K) (hn : n < 64) (h : ∀ y w, y ≠ na + n → K1 y w = K y w) : RXx W Ls na A nm K1 n := by
  obtain ⟨r1, r2, r3⟩ := r
  refine ⟨fun x hx => ?_, fun m hm hne => ?_, fun m r hm hne ht => ?_⟩
  · rw [h _ _ (by omega)]; exact r1 x hx
  · have e : K1 (na + m) = K (na + m) := by funext w; exact h _ _ (by omega)
    rw [e]; exact r2 m hm
  · have q := t3.2.1 m r hm ht
    have e : K1 (tl A W m r) = K (tl A W m r) := by funext w; exact h _ _ (by omega)
    rw [e]; exact r3 m r hm ht
theorem setb_comm {P : Nat → Bool} {x y : Nat} {b : Bool} : setb (setb P x b) y b = setb (setb P y b) x b := by
  funext i
  unfold setb
  by_cases c1 : i = y
  · rw [if_pos c1]
    split <;> rfl
  · rw [if_neg c1]
    by_cases c2 : i = x
    · rw [if_pos c2, if_pos c2]
    · rw [if_neg c2, if_neg c2, if_neg c1]
theorem NB_dd {W : Nat} {A Ak : Nat → Nat → Nat} {dd dd2 : Nat → Bool} (h : ∀ x, dd2 x = false → dd x = false) (nb : NB W A Ak dd) : NB W A Ak dd2 := fun n r hn q ht hd j hj => nb n r hn q ht (h _ hd) j hj
theorem setb_f {P : Nat → Bool} {x i : Nat} (h : setb P x true i = false) : P i = false := by
  unfold setb at h
  split at h
  · cases h
  · exact h
theorem NB_gA {W Ls fb d y : Nat} {A Ak : Nat → Nat → Nat} {dd : Nat → Bool} (t3 : TW3 W Ls fb A) (hk : A 5 d = 2) (h8 : A 8 d < 12) (h8a : ∀ n, n < 64 → A 8 n ≤ 12) (h0 : A 17 y = 0) (nb : NB W A Ak dd) : NB W (gA A d y) Ak dd := by
  have e5 : gA A d y 5 = A 5 := gA_k (by decide) (by decide) (by decide) (by decide)
  intro n r hn q ht hd j hj
  rw [e5] at q
  have etl := gA_tl (W := W) (y := y) hk h8 h8a (n := n) (r := r) hn
  rw [if_neg (fun z => by rw [z.1] at q; omega)] at etl
  rw [etl] at ht hd ⊢
  have hu := (t3.2.1 n r hn ht).2.2
  have hz : tl A W n r ≠ y := fun z => by rw [z] at hu; omega
  rw [gA_18, if_neg (by omega)]
  exact nb n r hn q ht hd j hj
theorem l_mk {B T S C W Ls na hb d n k m w : Nat} {D kv : Nat → Nat → Int64} {Ak : Nat → Nat → Nat} {nk : Nat → Int64} {K : Nat → Nat → Int64} {dd : Nat → Bool} {A : Nat → Nat → Nat} {nm : Nat → Int64} {L : Nat → Nat} {N : Nat} {ux um : q_St} {v : Int64} (t : Tn B T S C W Ls na hb D kv Ak nk K dd A nm ux um) (g : Geo B T S C W Ls) (gl : gL B C W Ls L) (hna : na = 80 + (Ls + 511) / 512) (hN : 3000 ≤ N) (hd : d < 64) (hk : A 5 d = 2) (hn : n < 64) (h0 : A 5 n = 0) (hkk : k ≤ 4) (hw : q_i um 28 = nI w) (room : fnd (sF A d) (4 * A 8 d) 0 < 4 * A 8 d ∨ (fnd (sF A d) (4 * A 8 d) 0 = 4 * A 8 d ∧ A 8 d < 12 ∧ fnd (frB A W none) (Ls - (na + 64)) (na + 64) < Ls)) :
    ∃ vx vm A' f K' dd' dm, q_bnd (fX4_begin L N (nI n) (nI k) (nI w) (nI m) ux) (fun _ u11 => fX3_add L N (nI d) v (nI n) u11) = some ((), vx) ∧ q_bnd (fX11_enter N (nI d) v (nI n) (-1) um) (fun _ u14 => fX11_born N (nI n) (nI k) (nI d) u14) = some (nI n, vm) ∧ XS B T S C W Ls hb um D K' dd' vx ∧ MS Ls dm vm ∧ (∀ x, dm x = dd' x) ∧ dd' (na + n) = true ∧ RM Ls (bnA (setA A' 14 (48 * d + f) n) n k 0 (if k = 2 then d else 0) w (if k = 2 then 61 else 52)) (setN nm (48 * d + f) v) (q_a vm) (q_j vm 0) ∧ RXx W Ls na (setA A' 14 (48 * d + f) n) (setN nm (48 * d + f) v) K' n ∧ TW B W Ls (na + 64) A' nm ∧ A' 5 = A 5 ∧ f < 4 * A' 8 d ∧ A' 14 (48 * d + f) = 0 ∧ (∀ j, K' (na + n) j = setW (updD K (na + n) (fun _ => 0)) (na + n) 0 (bgW k w m (if k = 1 ∨ k = 3 then 1 else 0)) (na + n) j) ∧ cnt dd' Ls ≤ cnt dd Ls + 5 ∧ (∀ x, x < Ls → dd' x = true → 80 ≤ x ∧ A' 17 x = 1) ∧ NB W A' Ak dd' ∧ Fr [13, 22] [5] [2] ux vx ∧ Fr [25] [5, 6, 7, 8, 11, 12, 13, 14, 15, 17, 18, 33] [0] um vm := by
  have hl := g.l
  have x := t.x g gl hna
  have rm := t.rm
  obtain ⟨al, h7, dh, xs, ms, h80, -, tw, rx, nb⟩ := id t
  have gm := al.1.gm
  have hdn : d ≠ n := fun z => by rw [z] at hk; omega
  have hn0 : n ≠ 0 := fun z => by rw [z] at h0; have := tw.1.2.1.1; omega
  have h8 := x.t8 hd
  have h17 := tw.1.2.2.2.2.2.2.2
  have hlow := tw.2.2.1.2.2.2
  have h8a : ∀ n, n < 64 → A 8 n ≤ 12 := fun n hn => x.t8 hn
  obtain ⟨u1, a1, a2⟩ := x_begin (N := N) (n := n) (k := k) (w := w) (m := m) g gl (by omega) hna xs hn hkk
  obtain ⟨K1, hK1⟩ : ∃ q, q = (setW (updD K (na + n) (fun _ => 0)) (na + n) 0 (bgW k w m (if k = 1 ∨ k = 3 then 1 else 0))) := ⟨_, rfl⟩
  rw [← hK1] at a2
  have k1 : ∀ y j, y ≠ na + n → K1 y j = K y j := by
    intro y j hy
    rw [hK1, setW_n (fun z => hy z.1)]
    unfold updD
    rw [if_neg hy]
  have r1 : RXx W Ls na A nm K1 n := RXx_beg hna tw.2.2.1 rx hn k1
  have dr : DirR Ls na d A nm K1 := DirR_K (x.dir hd hk) (fun y j hy => k1 y j (by omega))
  have fx1 : Fr [13, 22] [5] [2] ux u1 := (fr_X4_begin a1).mono (by decide) (by decide) (by decide)
  have h14 := x.t14
  have e8m : ∀ u, Fr [25] [5, 6, 7, 8, 11, 12, 13, 14, 15, 17, 18, 33] [0] um u → q_i u 8 = nI (80 + (Ls + 511) / 512) ∧ q_i u 28 = nI w := fun u f => ⟨(f.1 8 (by decide)).trans gm.2.2.2.2.2.2.2.2, (f.1 28 (by decide)).trans hw⟩
  rcases room with hf | ⟨hno, h12, hyL⟩
  · obtain ⟨f, hfe⟩ : ∃ q, q = fnd (sF A d) (4 * A 8 d) 0 := ⟨_, rfl⟩
    rw [← hfe] at hf
    have hb1 := (dr.2.2 (f / 4) (by omega)).1
    have hz14 : A 14 (48 * d + f) = 0 := by
      have := fnd_yes (sF A d) (4 * A 8 d) 0 (by omega)
      rw [← hfe] at this
      unfold sF at this
      exact of_decide_eq_true this
    obtain ⟨u2, b1, b2⟩ := y_addF (N := N) (v := v) (nd := n) g gl (by omega) hna a2 dr hfe.symm hf
    obtain ⟨w1, c1, c2, c3⟩ := m_b89 (N := N) (v := v) (nd := n) (x := A 13 (12 * d + f / 4)) (by omega) hl.2 rm ms hd h8 h14 hfe.symm hf rfl hb1.2 hn0
    have fm1 : Fr [25] [5, 6, 7, 8, 11, 12, 13, 14, 15, 17, 18, 33] [0] um w1 := by
      have fs := m_freeSlot (N := N) rm (by omega) hd h8 h14
      have hen : fX11_enter N (nI d) v (nI n) (-1) um = some ((), w1) := by
        unfold fX11_enter
        rw [fs, qb_s, if_neg (fun z => (slM_no (by omega)).mp z (by omega))]
        exact c1
      exact (fr_X11_enter hen).mono (by decide) (by decide) (by decide)
    obtain ⟨w2, d1, d2, d3⟩ := m_born (N := N) (n := n) (k := k) (d := d) (w := w) g hna c2 c3 (e8m w1 fm1).1 hn hkk (e8m w1 fm1).2
    have fm2 := fr_X11_born d1
    have fl := fl_RX (f := f) (nd := n) (v := v) (nm2 := setN nm (48 * d + f) v) hna tw.1 tw.2.2.1 r1 hd hk hf (by omega) (fun z => absurd z hn0) (fun i hi => if_neg hi) (fun _ => if_pos rfl)
    refine ⟨u2, w2, A, f, _, _, _, ?_, ?_, b2, d3, fun z => ?_, ?_, d2, fl, tw, rfl, hf, hz14, fun j => ?_, ?_, fun z hz hdz => ?_, ?_, ?_, ?_⟩
    · rw [a1, qb_s]; exact b1
    · have fs := m_freeSlot (N := N) rm (by omega) hd h8 h14
      unfold fX11_enter
      rw [fs, qb_s, if_neg (fun z => (slM_no (by omega)).mp z (by omega)), c1, qb_s]
      exact d1
    · rw [setb_comm]
    · unfold setb
      split
      · rfl
      · rw [if_pos rfl]
    · rw [fsK_o (by omega), hK1]
    · exact Nat.le_trans cnt_up1 (by have := cnt_up1 (P := dd) (x := na + n) (n := Ls); omega)
    · unfold setb at hdz
      split at hdz
      · rename_i e
        have q := (dirB x hd hk (show f / 4 < A 8 d by omega)).1
        rw [e]
        exact ⟨by omega, q.2.2⟩
      · split at hdz
        · rename_i e
          rw [e]
          exact ⟨by omega, hlow _ (by omega)⟩
        · exact h80 z hz hdz
    · exact NB_dd (fun z hz => setb_f (setb_f hz)) nb
    · exact fx1.trans ((fr_X3_add b1).mono (by decide) (by decide) (by decide))
    · exact fm1.trans (fm2.mono (by decide) (by decide) (by decide))
  · obtain ⟨y, hye⟩ : ∃ q, q = fnd (frB A W none) (Ls - (na + 64)) (na + 64) := ⟨_, rfl⟩
    rw [← hye] at hyL
    obtain ⟨hy1, hy0, hylo⟩ := low_free h17 hlow hye.symm hyL (by omega)
    have twg := gA_TW tw hd hk h12 hy1 hyL hy0 (by omega)
    have e5 : gA A d y 5 = A 5 := gA_k (by decide) (by decide) (by decide) (by decide)
    have e14 : gA A d y 14 = A 14 := gA_k (by decide) (by decide) (by decide) (by decide)
    have g8 : gA A d y 8 d = A 8 d + 1 := by rw [gA_8, if_pos rfl]
    have g13 : gA A d y 13 (12 * d + A 8 d) = y := by rw [gA_13, if_pos rfl]
    have hz14 : A 14 (48 * d + 4 * A 8 d) = 0 := by
      by_cases z : A 14 (48 * d + 4 * A 8 d) = 0
      · exact z
      · exfalso
        have := (tw.2.2.2.1 _ (by omega) z).2.1
        rw [show (48 * d + 4 * A 8 d) / 48 = d by omega] at this
        omega
    obtain ⟨u2, q, b1, b2, b3⟩ := y_addN (N := N) (v := v) (nd := n) g gl (by omega) hna a2 dr hno h12 r1.1 h17 hyL hy0 hylo
    obtain ⟨w0, p1, p2, p3, p4⟩ := m_grow (N := N) (v := v) (x4 := nI n) g hna hN rm ms gm tw.v hd hk h12 hno none (fun k e => by cases e) hye.symm hyL
    have p1 : fX11_enter N (nI d) v (nI n) (-1) um = fX11_enter_b89 N (nI d) v (nI n) w0 := p1
    have hfnd : fnd (sF (gA A d y) d) (4 * gA A d y 8 d) 0 = 4 * A 8 d := by
      have es : sF (gA A d y) d = sF A d := by funext j; unfold sF; rw [e14]
      rw [es, g8, show 4 * (A 8 d + 1) = 4 * A 8 d + 4 by omega, fnd_add, hno, if_neg (by omega), Nat.zero_add, fnd_1, if_pos (by unfold sF; exact decide_eq_true hz14)]
    obtain ⟨w1, c1, c2, c3⟩ := m_b89 (N := N) (v := v) (nd := n) (x := y) (f := 4 * A 8 d) (by omega) hl.2 p2 p3 hd (by rw [g8]; omega) (by rw [e14]; exact h14) hfnd (by rw [g8]; omega) (by rw [show 4 * A 8 d / 4 = A 8 d by omega]; exact g13) hyL hn0
    have hen : fX11_enter N (nI d) v (nI n) (-1) um = some ((), w1) := p1.trans c1
    have fm1 : Fr [25] [5, 6, 7, 8, 11, 12, 13, 14, 15, 17, 18, 33] [0] um w1 := (fr_X11_enter hen).mono (by decide) (by decide) (by decide)
    obtain ⟨w2, d1, d2, d3⟩ := m_born (N := N) (n := n) (k := k) (d := d) (w := w) g hna c2 c3 (e8m w1 fm1).1 hn hkk (e8m w1 fm1).2
    have fm2 := fr_X11_born d1
    have rg := gA_RX hl.2 hna tw.v r1 hd hk h12 hy1 hyL hy0 b3
    have fl := fl_RX (f := 4 * A 8 d) (nd := n) (v := v) (nm2 := setN nm (48 * d + 4 * A 8 d) v) hna twg.1 twg.2.2.1 rg hd (by rw [e5]; exact hk) (by rw [g8]; omega) (by omega) (fun z => absurd z hn0) (fun i hi => if_neg hi) (fun _ => if_pos rfl)
    rw [show 4 * A 8 d / 4 = A 8 d by omega, g13, show 4 * A 8 d % 4 = 0 by omega] at fl
    refine ⟨u2, w2, gA A d y, 4 * A 8 d, _, _, _, ?_, ?_, b2, d3, fun z => ?_, ?_, d2, fl, twg, e5, by rw [g8]; omega, by rw [e14]; exact hz14, fun j => ?_, ?_, fun z hz hdz => ?_, ?_, ?_, ?_⟩
    · rw [a1, qb_s]; exact b1
    · rw [hen, qb_s]
      exact d1
    · unfold setb
      by_cases e1 : z = na + n
      · subst e1
        rw [if_pos rfl]
        repeat' split
        all_goals first | rfl | omega
      · rw [if_neg e1]
        repeat' split
        all_goals first | rfl | omega
    · unfold setb
      rw [if_neg (by omega), if_neg (by omega), if_neg (by omega), if_neg (by omega), if_pos rfl]
    · rw [fsK_o (by omega), setH_w (by omega), hK1]
      unfold updD
      rw [if_neg (by omega), setW_n (by omega)]
    · refine Nat.le_trans cnt_up1 ?_
      have q1 := cnt_up1 (P := setb (setb (setb dd (na + n) true) (80 + y / 512) true) y true) (x := na + d) (n := Ls)
      have q2 := cnt_up1 (P := setb (setb dd (na + n) true) (80 + y / 512) true) (x := y) (n := Ls)
      have q3 := cnt_up1 (P := setb dd (na + n) true) (x := 80 + y / 512) (n := Ls)
      have q4 := cnt_up1 (P := dd) (x := na + n) (n := Ls)
      omega
    · rw [gA_17]
      unfold setb at hdz
      split at hdz
      · rename_i e; rw [e, if_pos rfl]; exact ⟨by omega, rfl⟩
      · rename_i hzy
        rw [if_neg hzy]
        split at hdz
        · rename_i e; rw [e]; exact ⟨by omega, hlow _ (by omega)⟩
        · split at hdz
          · rename_i e; rw [e]; exact ⟨by omega, hlow _ (by omega)⟩
          · split at hdz
            · rename_i e; rw [e]; exact ⟨by omega, hlow _ (by omega)⟩
            · exact h80 z hz hdz
    · exact NB_dd (fun z hz => setb_f (setb_f (setb_f (setb_f (setb_f hz))))) (NB_gA tw.2.2.1 hk h12 h8a hy0 nb)
    · exact fx1.trans ((fr_X3_add b1).mono (by decide) (by decide) (by decide))
    · exact fm1.trans (fm2.mono (by decide) (by decide) (by decide))
