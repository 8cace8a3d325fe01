/-! ===== COMMIT, in both ===== -/
/-- THE JOURNAL, what it tells, and what is KEPT (kv) of the SECTORS that are used there -/
def DK (Ls : Nat) (D kv : Nat → Nat → Int64) (ux um : q_St) : Prop :=
  (q_i ux 24 = 0 ∧ q_i um 26 = 0 ∧ ∀ x, 80 ≤ x → x < Ls → ¬ q_a um 31 x = 0 → ∀ w, w < 8 → D x w = kv x w) ∨
  (q_i ux 24 = 1 ∧ q_i um 26 = 1 ∧ ∃ d c tl, (0 < d ∧ d ≤ 75) ∧ enu tl Ls c ∧ cnt tl Ls = d ∧ (∀ x, x < Ls → q_a um 34 x = b2i (tl x)) ∧ (∀ x, x < Ls → tl x = true → 80 ≤ x ∧ ¬ q_a um 31 x = 0) ∧ jLs D d d c ∧ uN (D 0 6) = d ∧ jCp D ((d + 23) / 24) d (fun j w => kv (c j) w) ∧ ∀ x, 80 ≤ x → x < Ls → ¬ q_a um 31 x = 0 → tl x = false → ∀ w, w < 8 → D x w = kv x w)
/-- all that is told is home -/
def DH (Ls : Nat) (D kv : Nat → Nat → Int64) (um : q_St) : Prop := ∀ x, 80 ≤ x → x < Ls → ¬ q_a um 31 x = 0 → ∀ w, w < 8 → D x w = kv x w
theorem DK_fr {Ls : Nat} {D kv : Nat → Nat → Int64} {ux um vx vm : q_St} (h : DK Ls D kv ux um) (h1 : q_i vx 24 = q_i ux 24) (h2 : q_i vm 26 = q_i um 26) (h3 : q_a vm 31 = q_a um 31) (h4 : q_a vm 34 = q_a um 34) : DK Ls D kv vx vm := by
  unfold DK at h ⊢
  rw [h1, h2, h3, h4]
  exact h
abbrev cI : List Nat := [7, 8, 9, 10, 11, 12, 13, 14, 15, 16, 17, 18, 19, 21, 22, 23, 24]
abbrev cA : List Nat := [0, 1, 2, 3, 4, 5, 6]
abbrev cJ : List Nat := [0, 3]
abbrev kI : List Nat := [9, 10, 11, 12, 13, 14, 15, 16, 17, 18, 19, 20, 21, 22, 23, 25, 26]
abbrev kA : List Nat := [0, 1, 2, 3, 4, 19, 20, 21, 22, 23, 24, 25, 26, 27, 28, 29, 30, 31, 32, 33, 34]
abbrev kJ : List Nat := [1]
theorem VV_cm {B T S C W Ls hb : Nat} {sm : Option Nat} {D : Nat → Nat → Int64} {ux um : q_St} (v : VV B T S C W Ls hb sm D ux um) : VV B T S C W Ls hb sm D (q_si ux 23 (q_i ux 23 + 1)) (q_si um 16 (q_i um 16 + 1)) := by
  obtain ⟨h, t, cl, hhb, ⟨⟨gx, gm⟩, vw, vr, cr, lr, kr, vc, e1, e2, e3, e4⟩, hmk, hd⟩ := v
  refine ⟨h, t, cl, hhb, ⟨⟨gx, gm⟩, vw, vr, ?_, lr, kR_keep kr (fun k q1 q2 => qi_ne (by omega)) (fun k q1 q2 => qi_ne (by omega)), vc, e1, e2, e3, e4⟩, hmk, hd⟩
  refine ⟨cr.1, cr.2.1, cr.2.2.1, cr.2.2.2.1, cr.2.2.2.2.1, cr.2.2.2.2.2.1, cr.2.2.2.2.2.2.1, ?_, cr.2.2.2.2.2.2.2.2⟩
  show q_i ux 23 + 1 = q_i um 16 + 1
  rw [cr.2.2.2.2.2.2.2.1]
theorem m_told {N Ls : Nat} (hl : Ls ≤ 2048) : ∀ (k x n : Nat) (u : q_St), x + k = Ls → k < n → q_i u 5 = nI Ls → q_lp (fX11_commit_b72 N) (fun _ _ => none) n (nI x) u = (fun u => q_bnd (fX11_keep N u) (fun _ u5 => (q_bnd (fX11_bringHome N u5) (fun r7 u8 => (if r7 = 0 then (some (0, u8)) else (q_lp (fX11_commit_b113 N) (fun _ _ => none) N 0 u8)))))) (q_sa u 34 (fun j => if x ≤ j ∧ j < Ls then vp_nar .boolean (q_a u 33 j) else q_a u 34 j)) := by
  intro k
  induction k with
  | zero =>
    intro x n u h1 h2 h5
    have : (fun j => if x ≤ j ∧ j < Ls then vp_nar .boolean (q_a u 33 j) else q_a u 34 j) = q_a u 34 := by
      funext j
      rw [if_neg (by omega)]
    rw [this, sa_self, lp_1 _ _ (by omega), fX11_commit_b72, h5, if_pos (nI_le (by omega) (by omega))]
  | succ k ih =>
    intro x n u h1 h2 h5
    rw [lp_1 _ _ (by omega), fX11_commit_b72, h5, if_neg (nI_ge (by omega) (by omega)), qr_n (by omega) (by omega), qw_n (by omega) (by omega), cl_n (by omega), qn_s, nI_1, ih (x + 1) (n - 1) (q_sa u 34 (upd (q_a u 34) x (vp_nar .boolean (q_a u 33 x)))) (by omega) (by omega) h5, sa_sa]
    congr 2
    funext j
    rw [qa_ne (by decide), qa_eq]
    by_cases c : j = x
    · rw [c, if_neg (by omega), if_pos (by omega), up_s]
    · by_cases c2 : x + 1 ≤ j ∧ j < Ls
      · rw [if_pos c2, if_pos (by omega)]
      · rw [if_neg c2, if_neg (by omega), up_n c]
theorem m_clean {N Ls : Nat} (hl : Ls ≤ 2048) : ∀ (k x n : Nat) (u : q_St), x + k = Ls → k < n → q_i u 5 = nI Ls → q_lp (fX11_commit_b113 N) (fun _ _ => none) n (nI x) u = some (1, q_si (q_sa u 33 (fun j => if x ≤ j ∧ j < Ls then 0 else q_a u 33 j)) 25 0) := by
  intro k
  induction k with
  | zero =>
    intro x n u h1 h2 h5
    have : (fun j => if x ≤ j ∧ j < Ls then (0 : Int32) else q_a u 33 j) = q_a u 33 := by
      funext j
      rw [if_neg (by omega)]
    rw [this, sa_self, lp_1 _ _ (by omega), fX11_commit_b113, h5, if_pos (nI_le (by omega) (by omega)), qn_s]
  | succ k ih =>
    intro x n u h1 h2 h5
    rw [lp_1 _ _ (by omega), fX11_commit_b113, h5, if_neg (nI_ge (by omega) (by omega)), qw_n (by omega) (by omega), cl_n (by omega), nar_0, qn_s, nI_1, ih (x + 1) (n - 1) (q_sa u 33 (upd (q_a u 33) x 0)) (by omega) (by omega) h5, sa_sa]
    congr 4
    funext j
    rw [qa_eq]
    by_cases c : j = x
    · rw [c, if_neg (by omega), if_pos (by omega), up_s]
    · by_cases c2 : x + 1 ≤ j ∧ j < Ls
      · rw [if_pos c2, if_pos (by omega)]
      · rw [if_neg c2, if_neg (by omega), up_n c]
theorem x_forgetAll {L : Nat → Nat} {N Ls : Nat} (hN : 3000 ≤ N) (hl : Ls ≤ 2048) (l8 : L 8 = Ls) (u : q_St) : fX6_forgetAll L N u = some ((), q_si (q_sa u 5 (fun j => if j < Ls then 0 else q_a u 5 j)) 22 0) := by
  have key : ∀ (k x n : Nat) (u : q_St), x + k = Ls → k < n → q_lp (fX6_forgetAll_b2 L N) (fun _ _ => none) n (nI x) u = some ((), q_si (q_sa u 5 (fun j => if x ≤ j ∧ j < Ls then 0 else q_a u 5 j)) 22 0) := by
    intro k
    induction k with
    | zero =>
      intro x n u h1 h2
      have : (fun j => if x ≤ j ∧ j < Ls then (0 : Int32) else q_a u 5 j) = q_a u 5 := by
        funext j
        rw [if_neg (by omega)]
      rw [this, sa_self, lp_1 _ _ (by omega), fX6_forgetAll_b2, l8, if_pos (nI_le (by omega) (by omega)), qn_s]
    | succ k ih =>
      intro x n u h1 h2
      rw [lp_1 _ _ (by omega), fX6_forgetAll_b2, l8, if_neg (nI_ge (by omega) (by omega)), qw_n (by omega) (by omega), cl_n (by omega), nar_0, qn_s, nI_1, ih (x + 1) (n - 1) (q_sa u 5 (upd (q_a u 5) x 0)) (by omega) (by omega), sa_sa]
      congr 4
      funext j
      rw [qa_eq]
      by_cases c : j = x
      · rw [c, if_neg (by omega), if_pos (by omega), up_s]
      · by_cases c2 : x + 1 ≤ j ∧ j < Ls
        · rw [if_pos c2, if_pos (by omega)]
        · rw [if_neg c2, if_neg (by omega), up_n c]
  have := key Ls 0 N u (by omega) (by omega)
  unfold fX6_forgetAll
  refine Eq.trans this ?_
  congr 4
  funext j
  by_cases c : j < Ls
  · rw [if_pos (by omega), if_pos c]
  · rw [if_neg (by omega), if_neg c]
theorem cnt_no (n : Nat) : cnt (fun _ => false) n = 0 := by
  induction n with
  | zero => rfl
  | succ n ih => simp only [cnt]; rw [ih]; rfl
/-- nothing is DIRTY -/
theorem XS_clean {B T S C W Ls hb : Nat} {um : q_St} {D : Nat → Nat → Int64} {ux : q_St} (v : VV B T S C W Ls hb none D ux um) (h5 : ∀ x, x < Ls → q_a ux 5 x = 0) (h22 : q_i ux 22 = 0) : XS B T S C W Ls hb um D D (fun _ => false) ux := ⟨v, h5, by rw [h22, cnt_no]; rfl, fun x w _ _ => by simp⟩
/-- the tree that is KEPT becomes the one at hand -/
def KP (Ls : Nat) (um vm : q_St) : Prop := rEq Ls (fun k => q_a vm (k + 14)) (q_a um) (q_j vm 1) (q_j um 0) ∧ (∀ j, j < 64 * Ls → q_a vm 32 j = if ¬ q_a um 33 (j / 64) = 0 then vp_nar .byte (q_a um 18 j) else q_a um 32 j)
theorem KP_fr {Ls : Nat} {um vm wm : q_St} (h : KP Ls um vm) (h1 : ∀ k, 19 ≤ k → k ≤ 32 → q_a wm k = q_a vm k) (h2 : q_j wm 1 = q_j vm 1) : KP Ls um wm := by
  obtain ⟨⟨r1, r2, r3, r4, r6, r7, r8⟩, b⟩ := h
  have s7r : ∀ k ∈ s7, 5 ≤ k ∧ k ≤ 18 := by decide
  refine ⟨⟨fun k hk j hj => ?_, fun j hj => ?_, fun j hj => ?_, fun j hj => ?_, fun j hj => ?_, fun j hj => ⟨?_, ?_⟩, fun j hj => ?_⟩, fun j hj => ?_⟩
  · show q_a wm (k + 14) j = _
    rw [h1 (k + 14) (by have := s7r k hk; omega) (by have := s7r k hk; omega)]
    exact r1 k hk j hj
  · show q_a wm 24 j = _
    rw [h1 24 (by decide) (by decide)]
    exact r2 j hj
  · show q_a wm 23 j = _
    rw [h1 23 (by decide) (by decide)]
    exact r3 j hj
  · show q_a wm 30 j = _
    rw [h1 30 (by decide) (by decide)]
    exact r4 j hj
  · show q_a wm 27 j = _
    rw [h1 27 (by decide) (by decide)]
    exact r6 j hj
  · show q_a wm 28 j = _
    rw [h1 28 (by decide) (by decide)]
    exact (r7 j hj).1
  · rw [h2]
    exact (r7 j hj).2
  · show q_a wm 31 j = _
    rw [h1 31 (by decide) (by decide)]
    exact r8 j hj
  · rw [h1 32 (by decide) (by decide)]
    exact b j hj
theorem l_commit {B T S C W Ls hb d : Nat} {dd : Nat → Bool} {D K kv : Nat → Nat → Int64} {L : Nat → Nat} {N : Nat} {ux um : q_St} {o1 : Int32} (g : Geo B T S C W Ls) (gl : gL B C W Ls L) (hN : 140000 ≤ N) (hb28 : hb + 300 < 2 ^ 28) (s : XS B T S C W Ls hb um D K dd ux) (ms : MS Ls dd um) (hcn : cnt dd Ls = d) (hd0 : 0 < d) (hd : d ≤ 75) (h80 : ∀ x, x < Ls → dd x = true → 80 ≤ x ∧ q_a um 17 x = 1) (hon : ¬ q_i ux 7 = 0) (ho : o1 < q_i ux 22) (dk : DK Ls D kv ux um) (dh : DH Ls D kv um) :
    (∃ vx vm D2, fX6_commitOver L N o1 ux = some (0, vx) ∧ fX11_commit N um = some (0, vm) ∧ q_i vx 7 = 0 ∧ VV B T S C W Ls (hb + 200) none D2 vx vm ∧ Fr cI cA cJ ux vx ∧ Fr mI mA mJ um vm ∧ DK Ls D2 kv vx vm) ∨
    (∃ vx vm D2, fX6_commitOver L N o1 ux = some (0, vx) ∧ fX11_commit N um = some (0, vm) ∧ q_i vx 7 = 0 ∧ VV B T S C W Ls (hb + 200) none D2 vx vm ∧ Fr cI cA cJ ux vx ∧ Fr kI kA kJ um vm ∧ KP Ls um vm ∧ DK Ls D2 K vx vm) ∨
    (∃ vx vm D2, fX6_commitOver L N o1 ux = some (1, vx) ∧ fX11_commit N um = some (1, vm) ∧ q_i vx 7 = q_i ux 7 ∧ XS B T S C W Ls (hb + 200) vm D2 D2 (fun _ => false) vx ∧ MS Ls (fun _ => false) vm ∧ Fr cI cA cJ ux vx ∧ Fr kI kA kJ um vm ∧ KP Ls um vm ∧ DK Ls D2 K vx vm ∧ ∀ x, 80 ≤ x → x < Ls → ∀ w, w < 8 → D2 x w = K x w) := by
  have hls := g.l
  obtain ⟨v, s1, s2, s3⟩ := id s
  obtain ⟨l, hl⟩ : ∃ l, l = (d + 23) / 24 := ⟨_, rfl⟩
  obtain ⟨tot, htot⟩ : ∃ t, t = l + d + 1 := ⟨_, rfl⟩
  have he := sel_ok dd Ls
  have l8 : L 8 = Ls := gl.2.2.2.2.2.2.2.2.1
  have l9 : L 9 = Ls := gl.2.2.2.2.2.2.2.2.2.1
  obtain ⟨f, f1, f2⟩ := x_choose6 (L := L) (N := N) hls.2 l8 l9 Ls 0 N ux (by omega) (by omega) s1 (fun i hi => by simp only [cnt] at hi; omega)
  rw [hcn] at f1 f2
  have f2 : q_lp (fX6_commitOver_b26 L N) (fun _ _ _ => none) N 0 0 ux = cjt L N (nI d) (q_sa ux 6 f) := f2
  unfold fX6_commitOver fX11_commit
  rw [if_neg hon, if_pos ho, f2, ms.2, hcn, if_neg (nI_ne0 hd0 (by omega)), show nI d + (23 : Int32) = nI (d + 23) from nI_add d 23, show nI (d + 23) / (24 : Int32) = nI ((d + 23) / 24) from pk_div (d := 24) (by omega) (by decide) (by decide), ← hl, nI_add, nI_1, ← htot, qn_s]
  have v0 : VV B T S C W Ls hb none D (q_sa ux 6 f) um := VV_fr v (fun _ _ _ _ _ _ => rfl) (fun k q => qa_ne (by omega)) rfl (fun _ _ => rfl) (fun _ _ => rfl)
  have hch : jCh Ls d (sel dd Ls) (q_sa ux 6 f) := by
    intro i hi
    rw [qa_eq]
    exact ⟨f1 i hi, (he.1 i (by omega)).1⟩
  have fr0 : Fr cI cA cJ ux (q_sa ux 6 f) := fr_sa1 ux (by decide)
  unfold cjt
  rcases l_journal (N := N) g gl (by omega) (by omega) hd0 hd hl htot v0 hch with ⟨vx, vm, D2, z1, z2, z3, z4, z5, z6, z7, z8⟩ | ⟨vx, vm, D2, z1, z2, z3, z4, z5, z6, z8, z9, z10, z11⟩
  · left
    rw [z1, z2, qb_s, if_pos rfl]
    refine ⟨vx, vm, D2, rfl, rfl, z3, VV_le z4 (by omega), fr0.trans (z5.mono (by decide) (by decide) (by decide)), z6, ?_⟩
    rcases z7 with ⟨y1, y2, y3⟩ | ⟨y1, y2⟩
    · rw [y1]
      exact DK_fr dk y2 y3 (z6.2.1 31 (by decide)) (z6.2.1 34 (by decide))
    · refine Or.inl ⟨y1, y2, fun x h1 h2 h3 w hw => ?_⟩
      rw [z8 x h1]
      rw [z6.2.1 31 (by decide)] at h3
      exact dh x h1 h2 h3 w hw
  · right
    rw [z1, z2, qb_s, if_neg (by decide), qn_s, qn_s]
    unfold mkt
    rw [qn_s, qn_s]
    have v3 : VV B T S C W Ls (hb + tot) none D2 (q_si (q_si vx 24 1) 23 (q_i (q_si vx 24 1) 23 + 1)) (q_si (q_si vm 16 (q_i vm 16 + 1)) 26 1) := VV_fr (VV_cm z4) (fun k _ _ _ q _ => by
        by_cases e : k = 23
        · rw [e]; rfl
        · rw [qi_ne e, qi_ne q, qi_ne e]) (fun _ _ => rfl) rfl (fun k q => by rw [qi_ne (by omega)]) (fun _ _ => rfl)
    obtain ⟨ux3, hux3⟩ : ∃ q, q = (q_si (q_si vx 24 1) 23 (q_i (q_si vx 24 1) 23 + 1)) := ⟨_, rfl⟩
    obtain ⟨um3, hum3⟩ : ∃ q, q = (q_si (q_si vm 16 (q_i vm 16 + 1)) 26 1) := ⟨_, rfl⟩
    rw [← hux3, ← hum3] at v3 ⊢
    have h5 : q_i um3 5 = nI Ls := v3.gm.2.2.2.2.2.1
    have mt : q_lp (fX11_commit_b72 N) (fun _ _ => none) N 0 um3 = _ := m_told (N := N) hls.2 Ls 0 N um3 (by omega) (by omega) h5
    obtain ⟨um4, hum4⟩ : ∃ q, q = (q_sa um3 34 (fun j => if 0 ≤ j ∧ j < Ls then vp_nar .boolean (q_a um3 33 j) else q_a um3 34 j)) := ⟨_, rfl⟩
    have fm3 : Fr kI kA kJ um um3 := by
      rw [hum3]
      exact ((z6.mono (by decide) (by decide) (by decide)).trans (fr_si1 vm (by decide))).trans (fr_si1 _ (by decide))
    have fm4 : Fr kI kA kJ um um4 := by
      rw [hum4]
      exact fm3.trans (fr_sa1 _ (by decide))
    have k33 : q_a um3 33 = q_a um 33 := by rw [hum3]; exact z6.2.1 33 (by decide)
    have k33' : q_a um4 33 = q_a um 33 := by rw [hum4, qa_ne (by decide)]; exact k33
    have t34 : ∀ y, y < Ls → q_a um4 34 y = b2i (dd y) := by
      intro y hy
      rw [hum4, qa_eq, if_pos (by omega), k33, ms.1 y hy, nar_b2i]
    have k26 : q_i um4 26 = 1 := by rw [hum4, hum3]; rfl
    rw [mt]
    dsimp only
    rw [← hum4]
    obtain ⟨um5, e5, i5, j5, a5, r5, b5⟩ := m_keep (N := N) (u := um4) hN hls.2 (by rw [hum4]; exact h5)
    rw [e5, qb_s]
    have rows4 : ∀ k, 5 ≤ k → k ≤ 18 → q_a um4 k = q_a um k := fun k q1 q2 => fm4.2.1 k (by simp only [List.mem_cons, List.not_mem_nil, or_false]; omega)
    have row32 : q_a um4 32 = q_a um 32 := by rw [hum4, qa_ne (by decide), hum3]; exact z6.2.1 32 (by decide)
    have slot4 : q_j um4 0 = q_j um 0 := fm4.2.2 0 (by decide)
    have kp5 : KP Ls um um5 := by
      obtain ⟨r1, r2, r3, r4, r6, r7, r8⟩ := r5
      have s7r : ∀ k ∈ s7, 5 ≤ k ∧ k ≤ 18 := by decide
      refine ⟨⟨fun k hk j hj => ?_, fun j hj => ?_, fun j hj => ?_, fun j hj => ?_, fun j hj => ?_, fun j hj => ⟨?_, ?_⟩, fun j hj => ?_⟩, fun j hj => ?_⟩
      · rw [r1 k hk j hj, rows4 k (s7r k hk).1 (s7r k hk).2]
      · rw [r2 j hj, rows4 10 (by decide) (by decide)]
      · rw [r3 j hj, rows4 9 (by decide) (by decide)]
      · rw [r4 j hj, rows4 16 (by decide) (by decide)]
      · rw [r6 j hj, rows4 13 (by decide) (by decide)]
      · rw [(r7 j hj).1, rows4 14 (by decide) (by decide)]
      · rw [(r7 j hj).2, slot4]
      · rw [r8 j hj, rows4 17 (by decide) (by decide)]
      · rw [b5 j hj, k33', rows4 18 (by decide) (by decide), row32]
    have fm5 : Fr kI kA kJ um um5 := fm4.trans ((fr_X11_keep e5).mono (by decide) (by decide) (by decide))
    have v5 : VV B T S C W Ls (hb + tot) none D2 ux3 um5 := VV_fr v3 (fun _ _ _ _ _ _ => rfl) (fun _ _ => rfl) rfl (fun k q => by rw [i5, hum4]; rfl) (fun k q => by rw [a5 k (by omega), hum4, qa_ne (by omega)])
    have ht5 : ∀ y, y < Ls → q_a um5 34 y = b2i (dd y) := fun y hy => by rw [a5 34 (by omega)]; exact t34 y hy
    have hch3 : jCh Ls d (sel dd Ls) ux3 := by
      intro i hi
      have := hch i hi
      rw [hux3, qa_si, qa_si, z5.2.1 6 (by decide)]
      exact this
    have hm3 : q_j ux3 2 = q_j ux 2 := by rw [hux3]; exact z5.2.2 2 (by decide)
    have k31 : ∀ x, x < Ls → dd x = true → ¬ q_a um5 31 x = 0 := by
      intro x hx hdx
      have := kp5.1.2.2.2.2.2.2 x hx
      have this : q_a um5 31 x = vp_nar .boolean (q_a um 17 x) := this
      rw [this, (h80 x hx hdx).2]
      decide
    have hK : ∀ j, j < d → ∀ w, w < 8 → q_j ux3 2 (sel dd Ls j * 8 + w) = K (sel dd Ls j) w := by
      intro j hj w hw
      have e := he.1 j (by omega)
      have := s3 (sel dd Ls j) w e.1 hw
      rw [e.2, if_pos rfl] at this
      rw [hm3]
      exact this
    have hX24 : q_i ux3 24 = 1 := by rw [hux3]; rfl
    have hM26 : q_i um5 26 = 1 := (i5 26).trans k26
    have frx3 : Fr cI cA cJ ux ux3 := by
      rw [hux3]
      exact ((fr0.trans (z5.mono (by decide) (by decide) (by decide))).trans (fr_si1 _ (by decide))).trans (fr_si1 _ (by decide))
    have hDK : ∀ (D3 : Nat → Nat → Int64) (wx wm : q_St), q_i wx 24 = 1 → q_i wm 26 = 1 → q_a wm 31 = q_a um5 31 → q_a wm 34 = q_a um5 34 → hOk Ls d 0 (sel dd Ls) (fun j w => q_j ux3 2 (sel dd Ls j * 8 + w)) D2 D3 → DK Ls D3 K wx wm := by
      intro D3 wx wm w24 w26 w31 w34 hok
      have low : ∀ y, y < 80 → D3 y = D2 y := by
        intro y hy
        rcases hok y (by omega) with q | ⟨j, j1, j2, j3, j4⟩
        · exact q
        · exfalso
          have e := he.1 j (by omega)
          have := (h80 _ e.1 e.2).1
          omega
      refine Or.inr ⟨w24, w26, d, sel dd Ls, dd, ⟨hd0, hd⟩, he, hcn, by rw [w34]; exact ht5, fun x hx hdx => ⟨(h80 x hx hdx).1, by rw [w31]; exact k31 x hx hdx⟩, ?_, ?_, ?_, ?_⟩
      · intro j h1 h2
        rw [low _ (by omega)]
        exact z9 j h1 h2
      · rw [low 0 (by omega)]
        exact z10
      · intro j hj w hw
        rw [low _ (by omega), ← hl, z11 j hj w hw]
        have := hK j hj w hw
        rw [hm3] at this
        exact this
      · intro x h1 h2 _ h4 w hw
        rcases hok x h2 with q | ⟨j, j1, j2, j3, j4⟩
        · rw [q, z8 x h1]
          have := s3 x w h2 hw
          rw [h4, if_neg (by decide)] at this
          exact this
        · exfalso
          have e := (he.1 j (by omega)).2
          rw [j3, h4] at e
          cases e
    unfold fX11_bringHome
    rcases l_home (N := N) (tl := dd) (c := sel dd Ls) (d := d) (mem := q_j ux3 2) g gl (by omega) (show hb + tot + 100 < 2 ^ 28 by omega) hd he hcn d 0 0 N N ux3 um5 D2 (by omega) (by omega) (by omega) (by omega) ⟨fun j hj => by omega, fun j _ _ => Nat.zero_le _⟩ ht5 v5 hch3 rfl with ⟨wx, wm, D3, y1, y2, y3, y4, y5, y5b, y6, y6b, y7⟩ | ⟨wx, wm, D3, y1, y2, y3, y4, y5, y5b, y6, y6b, y7, y8⟩
    · left
      have y1 : q_lp (fX6_commitOver_b96 L N) (fun _ _ _ => none) N (nI d) 0 ux3 = some (0, wx) := y1
      have y2 : q_lp (fX11_bringHome_b2 N) (fun _ _ => none) N 0 um5 = some (0, wm) := y2
      rw [y1, y2, qb_s, if_pos rfl]
      exact ⟨wx, wm, D3, rfl, rfl, y3, VV_le y4 (by omega), frx3.trans (y5.mono (by decide) (by decide) (by decide)), fm5.trans (y6.mono (by decide) (by decide) (by decide)), KP_fr kp5 (fun k q1 q2 => y6.2.1 k (by simp only [List.mem_cons, List.not_mem_nil, or_false]; omega)) (y6.2.2 1 (by decide)), hDK D3 wx wm (y5b.trans hX24) (y6b.trans hM26) (y6.2.1 31 (by decide)) (y6.2.1 34 (by decide)) y7⟩
    · right
      have y1 : q_lp (fX6_commitOver_b96 L N) (fun _ _ _ => none) N (nI d) 0 ux3 = q_bnd (fX6_forgetAll L N wx) (fun _ u7 => some (1, u7)) := y1
      have y2 : q_lp (fX11_bringHome_b2 N) (fun _ _ => none) N 0 um5 = some (1, wm) := y2
      have mc : q_lp (fX11_commit_b113 N) (fun _ _ => none) N 0 wm = _ := m_clean (N := N) hls.2 Ls 0 N wm (by omega) (by omega) y4.gm.2.2.2.2.2.1
      rw [y1, y2, qb_s, if_neg (by decide), x_forgetAll (by omega) hls.2 l8, qb_s, mc]
      have v6 : VV B T S C W Ls (hb + 200) none D3 (q_si (q_sa wx 5 (fun j => if j < Ls then 0 else q_a wx 5 j)) 22 0) (q_si (q_sa wm 33 (fun j => if 0 ≤ j ∧ j < Ls then 0 else q_a wm 33 j)) 25 0) := VV_fr (VV_le y4 (by omega)) (fun k _ _ q _ _ => by rw [qi_ne q, qi_sa]) (fun k q => by rw [qa_si, qa_ne (by omega)]) rfl (fun k q => by rw [qi_ne (by omega), qi_sa]) (fun k q => by rw [qa_si, qa_ne (by omega)])
      refine ⟨_, _, D3, rfl, rfl, ?_, XS_clean v6 (fun x hx => by rw [qa_si, qa_eq, if_pos hx]) rfl, ⟨fun x hx => by rw [qa_si, qa_eq, if_pos (by omega)]; rfl, by rw [cnt_no]; rfl⟩, ?_, ?_, KP_fr kp5 (fun k q1 q2 => by rw [qa_si, qa_ne (by omega)]; exact y6.2.1 k (by simp only [List.mem_cons, List.not_mem_nil, or_false]; omega)) (y6.2.2 1 (by decide)), ?_, ?_⟩
      · rw [qi_ne (by decide), qi_sa, y3, hux3]
        exact z3
      · exact ((frx3.trans (y5.mono (by decide) (by decide) (by decide))).trans (fr_sa1 _ (by decide))).trans (fr_si1 _ (by decide))
      · exact ((fm5.trans (y6.mono (by decide) (by decide) (by decide))).trans (fr_sa1 _ (by decide))).trans (fr_si1 _ (by decide))
      · exact hDK D3 _ _ (y5b.trans hX24) (y6b.trans hM26) (by rw [qa_si, qa_ne (by decide)]; exact y6.2.1 31 (by decide)) (by rw [qa_si, qa_ne (by decide)]; exact y6.2.1 34 (by decide)) y7
      · intro x h1 h2 w hw
        cases hdx : dd x with
        | true =>
          obtain ⟨j, j1, j2⟩ := he.2.2 x h2 hdx
          rw [← j2, y8 j (Nat.zero_le _) (by omega) w hw]
          exact hK j (by omega) w hw
        | false =>
          rcases y7 x h2 with q | ⟨j, j1, j2, j3, j4⟩
          · rw [q, z8 x h1]
            have := s3 x w h2 hw
            rw [hdx, if_neg (by decide)] at this
            exact this
          · exfalso
            have e := (he.1 j (by omega)).2
            rw [j3, hdx] at e
            cases e
