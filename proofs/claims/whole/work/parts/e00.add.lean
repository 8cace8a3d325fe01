/-! ===== a SLOT added, in both, in the middle of a call ===== -/
def rom (W Ls na d : Nat) (A : Nat → Nat → Nat) : Prop := fnd (sF A d) (4 * A 8 d) 0 < 4 * A 8 d ∨ (fnd (sF A d) (4 * A 8 d) 0 = 4 * A 8 d ∧ A 8 d < 12 ∧ fnd (frB A W none) (Ls - (na + 64)) (na + 64) < Ls)
theorem frB_b {B W Ls : Nat} {A : Nat → Nat → Nat} {b : Option Nat} (hb : ∀ k, b = some k → k < B ∧ ∀ x, x < Ls → x / W = k → A 17 x = 1) {x : Nat} (hx : x < Ls) : frB A W b x = frB A W none x := by
  unfold frB
  cases b with
  | none => rfl
  | some k =>
    by_cases c : k = x / W
    · have := (hb k rfl).2 x hx c.symm
      rw [this]
      rfl
    · have e1 : decide (some k ≠ some (x / W)) = true := decide_eq_true (fun z => c (Option.some.inj z))
      have e2 : decide (none ≠ some (x / W)) = true := decide_eq_true (by intro z; cases z)
      rw [e1, e2]
theorem fnd_cg {P Q : Nat → Bool} : ∀ k q, (∀ i, q ≤ i → i < q + k → P i = Q i) → fnd P k q = fnd Q k q
  | 0, q, _ => rfl
  | k + 1, q, h => by
    rw [fnd_1, fnd_1, h q (by omega) (by omega), fnd_cg k (q + 1) (fun i h1 h2 => h i (by omega) (by omega))]
theorem l_add {B T S C W Ls na hb d nd e : Nat} {um0 : q_St} {D : Nat → Nat → Int64} {Ak : Nat → Nat → Nat} {K : Nat → Nat → Int64} {dd dm : Nat → Bool} {A : Nat → Nat → Nat} {nm : Nat → Int64} {L : Nat → Nat} {N : Nat} {ux um : q_St} {v : Int64} (g : Geo B T S C W Ls) (gl : gL B C W Ls L) (hna : na = 80 + (Ls + 511) / 512) (hN : 3000 ≤ N) (xs : XS B T S C W Ls hb um0 D K dd ux) (ms : MS Ls dm um) (rm : RM Ls A nm (q_a um) (q_j um 0)) (gm : gM B T S C W Ls um) (tv : TV B W Ls (na + 64) A nm) (rx : RXx W Ls na A nm K e) (he : d ≠ e) (hd : d < 64) (hk : A 5 d = 2) (hn0 : nd ≠ 0) (hnd : nd < 64) (b : Option Nat) (hbb : ∀ k, b = some k → k < B ∧ ∀ x, x < Ls → x / W = k → A 17 x = 1) (room : rom W Ls na d A) (h80 : ∀ x, x < Ls → dd x = true → 80 ≤ x ∧ A 17 x = 1) (nb : NB W A Ak dd) :
    ∃ (vx vm : q_St) (A' : Nat → Nat → Nat) (f : Nat) (K' : Nat → Nat → Int64) (dd' dm' sx : Nat → Bool), fX3_add L N (nI d) v (nI nd) ux = some ((), vx) ∧ fX11_enter N (nI d) v (nI nd) (bno b) um = some ((), vm) ∧ XS B T S C W Ls hb um0 D K' dd' vx ∧ MS Ls dm' vm ∧ (∀ x, dd' x = (sx x || dd x) ∧ dm' x = (sx x || dm x)) ∧ RM Ls (setA A' 14 (48 * d + f) nd) (setN nm (48 * d + f) v) (q_a vm) (q_j vm 0) ∧ RXx W Ls na (setA A' 14 (48 * d + f) nd) (setN nm (48 * d + f) v) K' e ∧ TV B W Ls (na + 64) A' nm ∧ (TW B W Ls (na + 64) A nm → TW B W Ls (na + 64) A' nm) ∧ (∀ k, k ≠ 8 → k ≠ 13 → k ≠ 17 → k ≠ 18 → A' k = A k) ∧ f < 4 * A' 8 d ∧ A' 14 (48 * d + f) = 0 ∧ (∀ n, n < 64 → n ≠ d → ∀ j, K' (na + n) j = K (na + n) j) ∧ (∀ n r, n < 64 → n ≠ d → tl A W n r ≠ 0 → tl A' W n r = tl A W n r ∧ (∀ j, A' 18 (64 * tl A W n r + j) = A 18 (64 * tl A W n r + j) ∨ 64 ≤ j) ∧ ∀ j, K' (tl A W n r) j = K (tl A W n r) j) ∧ cnt dd' Ls ≤ cnt dd Ls + 4 ∧ (∀ x, x < Ls → dd' x = true → 80 ≤ x ∧ A' 17 x = 1) ∧ NB W A' Ak dd' ∧ (∀ x, dd x = true → dd' x = true) ∧ (∀ x, A 17 x = 1 → A' 17 x = 1) ∧ Fr [13, 22] [5] [2] ux vx ∧ Fr [25] [8, 13, 14, 17, 18, 33] [0] um vm := by
  have hl := g.l
  have hw := g.w
  have h8a : ∀ n, n < 64 → A 8 n ≤ 12 := fun n hn => (tv.1.1 n hn).2.2.2.2.2.1
  have h8 := h8a d hd
  have h17 := tv.1.2.2.2.2.2.2.2
  have hlow := tv.2.2.1.2.2.2
  have h14 : ∀ j, j < 3072 → A 14 j ≠ 0 → A 14 j < 64 := fun j hj h => (tv.2.2.2 j hj h).2.2.1
  have htd : ∀ i, i < A 8 d → tl A W d (1102 + i) = A 13 (12 * d + i) := by
    intro i hi
    unfold tl
    rw [if_neg (by omega), if_pos hk, if_pos (by omega), show 1102 + i - 1102 = i by omega]
  have hb13 : ∀ i, i < A 8 d → na + 64 ≤ A 13 (12 * d + i) ∧ A 13 (12 * d + i) < Ls ∧ A 17 (A 13 (12 * d + i)) = 1 := by
    intro i hi
    have h0 := (tv.1.2.2.1 d hd hk).2.2 i hi
    have := tv.2.2.1.2.1 d (1102 + i) hd (by rw [htd i hi]; exact h0)
    rw [htd i hi] at this
    exact this
  have dr : DirR Ls na d A nm K := by
    refine ⟨⟨hd, h8⟩, ((rx.2.1 d hd he).2.2.1 hk).1, fun i hi => ?_⟩
    have q := hb13 i hi
    refine ⟨⟨q.1, q.2.1⟩, fun s hs => ?_⟩
    have r := (rx.2.2 d (1102 + i) hd he (by rw [htd i hi]; omega)).2.2.2.2 hk s hs
    rw [htd i hi, show 48 * d + 4 * (1102 + i - 1102) + s = 48 * d + (4 * i + s) by omega] at r
    refine ⟨r.1, fun z => ⟨(r.2 z).1, ?_⟩⟩
    exact (tv.2.2.2 _ (by omega) z).2.2.2.2.1.1
  rcases room with hf | ⟨hno, h12, hyL⟩
  · obtain ⟨f, hfe⟩ : ∃ q, q = fnd (sF A d) (4 * A 8 d) 0 := ⟨_, rfl⟩
    rw [← hfe] at hf
    have hb1 := hb13 (f / 4) (by omega)
    have hz14 : A 14 (48 * d + f) = 0 := by
      have := fnd_yes (sF A d) (4 * A 8 d) 0 (by omega)
      rw [← hfe] at this
      unfold sF at this
      exact of_decide_eq_true this
    obtain ⟨u2, b1, b2⟩ := y_addF (N := N) (v := v) (nd := nd) g gl (by omega) hna xs dr hfe.symm hf
    obtain ⟨w1, c1, c2, c3⟩ := m_b89 (N := N) (v := v) (nd := nd) (x := A 13 (12 * d + f / 4)) (by omega) hl.2 rm ms hd h8 h14 hfe.symm hf rfl hb1.2.1 hn0
    have hen : fX11_enter N (nI d) v (nI nd) (bno b) um = some ((), w1) := by
      have fs := m_freeSlot (N := N) rm (by omega) hd h8 h14
      unfold fX11_enter
      rw [fs, qb_s, if_neg (fun z => (slM_no (by omega)).mp z (by omega))]
      exact c1
    have fl := fl_RX (f := f) (nd := nd) (v := v) (nm2 := setN nm (48 * d + f) v) hna tv.1 tv.2.2.1 rx hd hk hf (by omega) (fun z => absurd z hn0) (fun i hi => if_neg hi) (fun _ => if_pos rfl)
    refine ⟨u2, w1, A, f, _, _, _, setb (fun _ => false) (A 13 (12 * d + f / 4)) true, b1, hen, b2, c3, fun z => ⟨?_, ?_⟩, c2, fl, tv, fun t => t, fun _ _ _ _ _ => rfl, hf, hz14, fun n hn hnd2 j => ?_, fun n r hn hnd2 ht => ⟨rfl, fun j => Or.inl rfl, fun j => ?_⟩, ?_, fun z hz hdz => ?_, ?_, fun z hz => ?_, fun _ z => z, ?_, ?_⟩
    · unfold setb
      repeat' split
      all_goals simp
    · unfold setb
      repeat' split
      all_goals simp
    · exact fsK_o (by omega)
    · refine fsK_o (fun z => ?_)
      have := tv.2.2.1.1 n r d (1102 + f / 4) hn hd ht (by rw [htd (f / 4) (by omega)]; exact z)
      exact hnd2 this.1
    · exact Nat.le_trans cnt_up1 (by omega)
    · unfold setb at hdz
      split at hdz
      · rename_i e
        rw [e]
        exact ⟨by omega, hb1.2.2⟩
      · exact h80 z hz hdz
    · exact NB_dd (fun z hz => setb_f hz) nb
    · unfold setb
      split
      · rfl
      · exact hz
    · exact (fr_X3_add b1).mono (by decide) (by decide) (by decide)
    · exact (fr_X11_enter hen).mono (by decide) (by decide) (by decide)
  · obtain ⟨y, hye⟩ : ∃ q, q = fnd (frB A W none) (Ls - (na + 64)) (na + 64) := ⟨_, rfl⟩
    rw [← hye] at hyL
    have hyb : fnd (frB A W b) (Ls - (na + 64)) (na + 64) = y := by
      rw [hye]
      exact fnd_cg _ _ (fun i _ h2 => frB_b hbb (by omega))
    obtain ⟨hy1, hy0, hylo⟩ := low_free h17 hlow hye.symm hyL (by omega)
    have tvg := gA_TV tv hd hk h12 hy1 hyL hy0 (by omega)
    have e5 : gA A d y 5 = A 5 := gA_k (by decide) (by decide) (by decide) (by decide)
    have e14 : gA A d y 14 = A 14 := gA_k (by decide) (by decide) (by decide) (by decide)
    have g8 : gA A d y 8 d = A 8 d + 1 := by rw [gA_8, if_pos rfl]
    have g13 : gA A d y 13 (12 * d + A 8 d) = y := by rw [gA_13, if_pos rfl]
    have hz14 : A 14 (48 * d + 4 * A 8 d) = 0 := by
      by_cases z : A 14 (48 * d + 4 * A 8 d) = 0
      · exact z
      · exfalso
        have := (tv.2.2.2 _ (by omega) z).2.1
        rw [show (48 * d + 4 * A 8 d) / 48 = d by omega] at this
        omega
    obtain ⟨u2, q, b1, b2, b3⟩ := y_addN (N := N) (v := v) (nd := nd) g gl (by omega) hna xs dr hno h12 rx.1 h17 hyL hy0 hylo
    obtain ⟨w0, p1, p2, p3, p4⟩ := m_grow (N := N) (v := v) (x4 := nI nd) g hna hN rm ms gm tv hd hk h12 hno b (fun k e => (hbb k e).1) hyb hyL
    have hfnd : fnd (sF (gA A d y) d) (4 * gA A d y 8 d) 0 = 4 * A 8 d := by
      have es : sF (gA A d y) d = sF A d := by funext j; unfold sF; rw [e14]
      rw [es, g8, show 4 * (A 8 d + 1) = 4 * A 8 d + 4 by omega, fnd_add, hno, if_neg (by omega), Nat.zero_add, fnd_1, if_pos (by unfold sF; exact decide_eq_true hz14)]
    obtain ⟨w1, c1, c2, c3⟩ := m_b89 (N := N) (v := v) (nd := nd) (x := y) (f := 4 * A 8 d) (by omega) hl.2 p2 p3 hd (by rw [g8]; omega) (by rw [e14]; exact h14) hfnd (by rw [g8]; omega) (by rw [show 4 * A 8 d / 4 = A 8 d by omega]; exact g13) hyL hn0
    have hen : fX11_enter N (nI d) v (nI nd) (bno b) um = some ((), w1) := p1.trans c1
    have rg := gA_RX hl.2 hna tv rx hd hk h12 hy1 hyL hy0 b3
    have fl := fl_RX (f := 4 * A 8 d) (nd := nd) (v := v) (nm2 := setN nm (48 * d + 4 * A 8 d) v) hna tvg.1 tvg.2.2.1 rg hd (by rw [e5]; exact hk) (by rw [g8]; omega) (by omega) (fun z => absurd z hn0) (fun i hi => if_neg hi) (fun _ => if_pos rfl)
    rw [show 4 * A 8 d / 4 = A 8 d by omega, g13, show 4 * A 8 d % 4 = 0 by omega] at fl
    have kk : ∀ z j, z ≠ y → z ≠ na + d → ¬ (80 ≤ z ∧ z < na) → fsK (setH (updD (setW K (80 + y / 512) (y % 512 / 64) q) y (fun _ => 0)) (na + d) (4 + A 8 d) y) y 0 v nd z j = K z j := by
      intro z j z1 z2 z3
      rw [fsK_o z1, setH_w (fun w => z2 w.1)]
      unfold updD
      rw [if_neg z1, setW_n (fun w => by omega)]
    refine ⟨u2, w1, gA A d y, 4 * A 8 d, _, _, _, setb (setb (setb (setb (fun _ => false) (80 + y / 512) true) y true) (na + d) true) y true, b1, hen, b2, c3, fun z => ⟨?_, ?_⟩, c2, fl, tvg, fun t => gA_TW t hd hk h12 hy1 hyL hy0 (by omega), fun k k1 k2 k3 k4 => gA_k k1 k2 k3 k4, by rw [g8]; omega, by rw [e14]; exact hz14, fun n hn hnd2 j => ?_, fun n r hn hnd2 ht => ?_, ?_, fun z hz hdz => ?_, ?_, fun z hz => ?_, fun z hz => ?_, ?_, ?_⟩
    · unfold setb
      repeat' split
      all_goals simp
    · unfold setb
      repeat' split
      all_goals simp
    · exact kk _ _ (by omega) (by omega) (by omega)
    · have hq := tv.2.2.1.2.1 n r hn ht
      have hz : tl A W n r ≠ y := fun z => by rw [z] at hq; omega
      have etl := gA_tl (W := W) (y := y) hk h12 h8a (n := n) (r := r) hn
      rw [if_neg (fun z => hnd2 z.1)] at etl
      refine ⟨etl, fun j => ?_, fun j => kk _ _ hz (by omega) (by omega)⟩
      by_cases c : 64 ≤ j
      · exact Or.inr c
      · left
        rw [gA_18, if_neg (by omega)]
    · refine Nat.le_trans cnt_up1 ?_
      have q1 := cnt_up1 (P := setb (setb dd (80 + y / 512) true) y true) (x := na + d) (n := Ls)
      have q2 := cnt_up1 (P := setb dd (80 + y / 512) true) (x := y) (n := Ls)
      have q3 := cnt_up1 (P := dd) (x := 80 + y / 512) (n := Ls)
      omega
    · rw [gA_17]
      unfold setb at hdz
      split at hdz
      · rename_i e; rw [e, if_pos rfl]; exact ⟨by omega, rfl⟩
      · rename_i hzy
        rw [if_neg hzy]
        split at hdz
        · rename_i e; rw [e]; exact ⟨by omega, hlow _ (by omega)⟩
        · split at hdz
          · rename_i e; rw [e]; exact ⟨by omega, hlow _ (by omega)⟩
          · exact h80 z hz hdz
    · exact NB_dd (fun z hz => setb_f (setb_f (setb_f (setb_f hz)))) (NB_gA tv.2.2.1 hk h12 h8a hy0 nb)
    · unfold setb
      repeat' split
      all_goals first | rfl | exact hz
    · rw [gA_17]
      split
      · rfl
      · exact hz
    · exact (fr_X3_add b1).mono (by decide) (by decide) (by decide)
    · exact (fr_X11_enter hen).mono (by decide) (by decide) (by decide)
