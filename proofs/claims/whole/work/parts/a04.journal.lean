/-! ===== THE JOURNAL is written, in both ===== -/
theorem VV_le {B T S C W Ls hb hb2 : Nat} {sm : Option Nat} {D : Nat → Nat → Int64} {ux um : q_St} (v : VV B T S C W Ls hb sm D ux um) (h : hb ≤ hb2) : VV B T S C W Ls hb2 sm D ux um := by
  obtain ⟨h0, t, cl, hhb, hv⟩ := v
  exact ⟨h0, t, cl, by omega, hv⟩
abbrev jI : List Nat := [7, 8, 9, 10, 11, 12, 13, 14, 15, 16, 17, 18, 19, 21, 24]
abbrev jA : List Nat := [0, 1, 2, 3, 4]
abbrev jJ : List Nat := [0, 3]
abbrev mI : List Nat := [9, 10, 11, 12, 13, 14, 15, 17, 18, 19, 20, 21, 22, 23, 26]
abbrev mA : List Nat := [0, 1, 2, 3, 4]
abbrev mJ : List Nat := []
theorem fr_si1 {SI SA SJ : List Nat} (u : q_St) {n : Nat} {v : Int32} (hn : n ∈ SI) : Fr SI SA SJ u (q_si u n v) := ⟨fun k hk => qi_ne (fun e => hk (by rw [e]; exact hn)), fun _ _ => rfl, fun _ _ => rfl⟩
theorem fr_sj1 {SI SA SJ : List Nat} (u : q_St) {n : Nat} {f : Nat → Int64} (hn : n ∈ SJ) : Fr SI SA SJ u (q_sj u n f) := ⟨fun _ _ => rfl, fun _ _ => rfl, fun k hk => qj_ne (fun e => hk (by rw [e]; exact hn))⟩
theorem fr_sa1 {SI SA SJ : List Nat} (u : q_St) {n : Nat} {f : Nat → Int32} (hn : n ∈ SA) : Fr SI SA SJ u (q_sa u n f) := ⟨fun _ _ => rfl, fun k hk => qa_ne (fun e => hk (by rw [e]; exact hn)), fun _ _ => rfl⟩
/-- what the reference does behind its journal -/
def mkt (N : Nat) (u : q_St) : Option (Int32 × q_St) := (q_nm (q_si u 16 ((q_i u 16) + 1)) (fun u2 => (q_nm (q_si u2 26 1) (fun u3 => (q_lp (fX11_commit_b72 N) (fun _ _ => none) N 0 u3)))))
/-- the lists in THE JOURNAL, and the copies -/
def jLs (D : Nat → Nat → Int64) (d m : Nat) (c : Nat → Nat) : Prop := ∀ j, j < m → j < d → hfN (D (j / 24) (j % 24 / 4)) (j % 24 % 4) = c j
def jCp (D : Nat → Nat → Int64) (l m : Nat) (ct : Nat → Nat → Int64) : Prop := ∀ j, j < m → ∀ w, w < 8 → D (l + j) w = ct j w
def jCh (Ls d : Nat) (c : Nat → Nat) (u : q_St) : Prop := ∀ i, i < d → q_a u 6 i = nI (c i) ∧ c i < Ls
theorem jLs_upd {D : Nat → Nat → Int64} {d m x : Nat} {c : Nat → Nat} {f : Nat → Int64} (h : jLs D d m c) (hx : ∀ j, j < m → j < d → j / 24 ≠ x) : jLs (updD D x f) d m c := by
  intro j h1 h2
  unfold updD
  rw [if_neg (hx j h1 h2)]
  exact h j h1 h2
theorem l_jr1 {B T S C W Ls hb d l tot : Nat} {c : Nat → Nat} {L : Nat → Nat} {N : Nat} (g : Geo B T S C W Ls) (gl : gL B C W Ls L) (hN : 3000 ≤ N) (hb28 : hb + 100 < 2 ^ 28) (hd0 : 0 < d) (hd : d ≤ 75) (hl : l = (d + 23) / 24) (htot : tot = l + d + 1) : ∀ (k i n1 n2 : Nat) (ux um : q_St) (D : Nat → Nat → Int64), i + k = l → k < n1 → k < n2 → VV B T S C W Ls (hb + i) none D ux um → jCh Ls d c ux → jLs D d (24 * i) c → (0 < i → uN (D 0 6) = d) →
    (∃ vx vm D2, q_lp (fX6_writeJournal_b12 L N) (fun _ _ _ _ => none) n1 (nI d) (nI l) (nI i) ux = some (0, vx) ∧ q_lp (fX11_commit_b29 N) (fun _ _ _ => none) n2 (nI tot) (nI i) um = some (0, vm) ∧ q_i vx 7 = 0 ∧ VV B T S C W Ls (hb + l) none D2 vx vm ∧ Fr jI jA jJ ux vx ∧ Fr mI mA mJ um vm ∧ ((D2 = D ∧ q_i vx 24 = q_i ux 24 ∧ q_i vm 26 = q_i um 26) ∨ (q_i vx 24 = 0 ∧ q_i vm 26 = 0)) ∧ ∀ x, 80 ≤ x → D2 x = D x) ∨
    (∃ vx vm D2, q_lp (fX6_writeJournal_b12 L N) (fun _ _ _ _ => none) n1 (nI d) (nI l) (nI i) ux = q_lp (fX6_writeJournal_b57 L N) (fun _ _ _ _ => none) N (nI d) (nI l) 0 vx ∧ q_lp (fX11_commit_b29 N) (fun _ _ _ => none) n2 (nI tot) (nI i) um = q_lp (fX11_commit_b29 N) (fun _ _ _ => none) (n2 - k) (nI tot) (nI l) vm ∧ q_i vx 7 = q_i ux 7 ∧ VV B T S C W Ls (hb + l) none D2 vx vm ∧ Fr jI jA jJ ux vx ∧ Fr mI mA mJ um vm ∧ ((k = 0 ∧ D2 = D ∧ q_i vx 24 = q_i ux 24 ∧ q_i vm 26 = q_i um 26) ∨ (q_i vx 24 = 0 ∧ q_i vm 26 = 0)) ∧ (∀ x, 80 ≤ x → D2 x = D x) ∧ jLs D2 d (24 * l) c ∧ uN (D2 0 6) = d) := by
  have hls := g.l
  intro k
  induction k with
  | zero =>
    intro i n1 n2 ux um D h1 h2 h3 v hc hj h6
    have : i = l := by omega
    subst this
    right
    refine ⟨ux, um, D, ?_, rfl, rfl, v, Fr.rf _ _ _ _, Fr.rf _ _ _ _, Or.inl ⟨rfl, rfl, rfl, rfl⟩, fun _ _ => rfl, hj, h6 (by omega)⟩
    rw [lp_1 _ _ (by omega), fX6_writeJournal_b12, if_pos (nI_le (by omega) (by omega))]
  | succ k ih =>
    intro i n1 n2 ux um D h1 h2 h3 v hc hj h6
    obtain ⟨pg, p1, p2, p3⟩ := x_listChosen (N := N) (first := i * 24) (d := d) (by omega) hls.2 gl.2.2.2.2.2.2.2.2.2.1 gl.2.2.2.2.2.2.2.2.2.2.1 (by omega) (by omega) ux hc
    have v2 : VV B T S C W Ls (hb + i) none D (q_sj ux 3 pg) um := VV_fr v (fun _ _ _ _ _ _ => rfl) (fun _ _ => rfl) rfl (fun _ _ => rfl) (fun _ _ => rfl)
    obtain ⟨r, vx, vm, w1, w2, w3⟩ := l_write22 (N := N) (x := i) g gl (by omega) v2 (by omega) (by omega)
    have f1 : Fr jI jA jJ ux vx := (fr_sj1 ux (by decide)).trans ((fr_X8_write_22 w1).mono (by decide) (by decide) (by decide))
    have f2 : Fr mI mA mJ um vm := (fr_X11_write w2).mono (by decide) (by decide) (by decide)
    have k24 : q_i vx 24 = q_i ux 24 := (fr_X8_write_22 w1).1 24 (by decide)
    have k26 : q_i vm 26 = q_i um 26 := (fr_X11_write w2).1 26 (by decide)
    rw [lp_1 (fX6_writeJournal_b12 L N) _ (n := n1) (by omega), fX6_writeJournal_b12, if_neg (nI_ge (by omega) (by omega)), show nI i * (24 : Int32) = nI (i * 24) from pk_mul i 24, p1, qb_s, w1, qb_s]
    rw [lp_1 (fX11_commit_b29 N) _ (n := n2) (by omega), fX11_commit_b29, if_neg (nI_ge (by omega) (by omega)), w2, qb_s]
    rcases w3 with ⟨r0, r7, vv⟩ | ⟨r1, r7, vv⟩
    · left
      rw [r0, if_pos rfl, if_pos rfl]
      exact ⟨vx, vm, D, rfl, rfl, r7, VV_le vv (by omega), f1, f2, Or.inl ⟨rfl, k24, k26⟩, fun _ _ => rfl⟩
    · rw [r1, if_neg (by decide), if_neg (by decide), qn_s, qn_s, qn_s, nI_1]
      have v3 : VV B T S C W Ls (hb + (i + 1)) none (updD D i (fun w => q_j (q_sj ux 3 pg) 3 w)) (q_si vx 24 0) (q_si vm 26 0) := VV_fr vv (fun k _ _ _ q _ => qi_ne q) (fun _ _ => rfl) rfl (fun k q => qi_ne (by omega)) (fun _ _ => rfl)
      have hc2 : jCh Ls d c (q_si vx 24 0) := by
        intro j hj2
        have := hc j hj2
        rw [qa_si, f1.2.1 6 (by decide)]
        exact this
      have hj2 : jLs (updD D i (fun w => q_j (q_sj ux 3 pg) 3 w)) d (24 * (i + 1)) c := by
        intro j q1 q2
        by_cases q : j < 24 * i
        · exact jLs_upd hj (fun j z1 z2 => by omega) j q q2
        · have e1 : j / 24 = i := by omega
          have e2 : i * 24 + j % 24 = j := by omega
          unfold updD
          rw [if_pos e1, qj_eq]
          have := p2 (j % 24) (by omega) (by omega)
          rw [e2] at this
          exact this
      have h62 : 0 < i + 1 → uN (updD D i (fun w => q_j (q_sj ux 3 pg) 3 w) 0 6) = d := by
        intro _
        unfold updD
        by_cases q : 0 = i
        · rw [if_pos q, qj_eq]; exact p3
        · rw [if_neg q]; exact h6 (by omega)
      have hfar : ∀ x, 80 ≤ x → updD D i (fun w => q_j (q_sj ux 3 pg) 3 w) x = D x := by
        intro x hx
        funext w
        unfold updD
        rw [if_neg (by omega)]
      have f1' : Fr jI jA jJ ux (q_si vx 24 0) := f1.trans (fr_si1 vx (by decide))
      have f2' : Fr mI mA mJ um (q_si vm 26 0) := f2.trans (fr_si1 vm (by decide))
      rcases ih (i + 1) (n1 - 1) (n2 - 1) (q_si vx 24 0) (q_si vm 26 0) _ (by omega) (by omega) (by omega) v3 hc2 hj2 h62 with ⟨wx, wm, D2, z1, z2, z3, z4, z5, z6, z7, z8⟩ | ⟨wx, wm, D2, z1, z2, z3, z4, z5, z6, z7, z8, z9, z10⟩
      · left
        refine ⟨wx, wm, D2, z1, z2, z3, z4, f1'.trans z5, f2'.trans z6, Or.inr ?_, fun x hx => (z8 x hx).trans (hfar x hx)⟩
        rcases z7 with ⟨-, y1, y2⟩ | y
        · exact ⟨y1, y2⟩
        · exact y
      · right
        refine ⟨wx, wm, D2, z1, ?_, z3.trans r7, z4, f1'.trans z5, f2'.trans z6, Or.inr ?_, fun x hx => (z8 x hx).trans (hfar x hx), z9, z10⟩
        · rw [show n2 - (k + 1) = n2 - 1 - k by omega]
          exact z2
        · rcases z7 with ⟨-, -, y1, y2⟩ | y
          · exact ⟨y1, y2⟩
          · exact y
theorem l_jr2 {B T S C W Ls hb d l tot : Nat} {c : Nat → Nat} {mem : Nat → Int64} {L : Nat → Nat} {N : Nat} (g : Geo B T S C W Ls) (gl : gL B C W Ls L) (hN : 3000 ≤ N) (hb28 : hb + 100 < 2 ^ 28) (hd0 : 0 < d) (hd : d ≤ 75) (hl : l = (d + 23) / 24) (htot : tot = l + d + 1) : ∀ (k i n1 n2 : Nat) (ux um : q_St) (D : Nat → Nat → Int64), i + k = d → k < n1 → k + 1 < n2 → VV B T S C W Ls (hb + l + i) none D ux um → jCh Ls d c ux → q_j ux 2 = mem → jLs D d (24 * l) c → uN (D 0 6) = d → jCp D l i (fun j w => mem (c j * 8 + w)) → q_i ux 24 = 0 → q_i um 26 = 0 →
    (∃ vx vm D2, q_lp (fX6_writeJournal_b57 L N) (fun _ _ _ _ => none) n1 (nI d) (nI l) (nI i) ux = some (0, vx) ∧ q_lp (fX11_commit_b29 N) (fun _ _ _ => none) n2 (nI tot) (nI (l + i)) um = some (0, vm) ∧ q_i vx 7 = 0 ∧ VV B T S C W Ls (hb + tot) none D2 vx vm ∧ Fr jI jA jJ ux vx ∧ Fr mI mA mJ um vm ∧ (q_i vx 24 = 0 ∧ q_i vm 26 = 0) ∧ ∀ x, 80 ≤ x → D2 x = D x) ∨
    (∃ vx vm D2, q_lp (fX6_writeJournal_b57 L N) (fun _ _ _ _ => none) n1 (nI d) (nI l) (nI i) ux = some (1, vx) ∧ q_lp (fX11_commit_b29 N) (fun _ _ _ => none) n2 (nI tot) (nI (l + i)) um = mkt N vm ∧ q_i vx 7 = q_i ux 7 ∧ VV B T S C W Ls (hb + tot) none D2 vx vm ∧ Fr jI jA jJ ux vx ∧ Fr mI mA mJ um vm ∧ (q_i vx 24 = 0 ∧ q_i vm 26 = 0) ∧ (∀ x, 80 ≤ x → D2 x = D x) ∧ jLs D2 d (24 * l) c ∧ uN (D2 0 6) = d ∧ jCp D2 l d (fun j w => mem (c j * 8 + w))) := by
  have hls := g.l
  intro k
  induction k with
  | zero =>
    intro i n1 n2 ux um D h1 h2 h3 v hc hm hj h6 hcp h24 h26
    have : i = d := by omega
    subst this
    obtain ⟨pg, p1, p2⟩ := x_blank (N := N) (by omega) gl.2.2.2.2.2.2.2.2.2.2.1 ux
    have v2 : VV B T S C W Ls (hb + l + i) none D (q_sj ux 3 pg) um := VV_fr v (fun _ _ _ _ _ _ => rfl) (fun _ _ => rfl) rfl (fun _ _ => rfl) (fun _ _ => rfl)
    obtain ⟨r, vx, vm, w1, w2, w3⟩ := l_write22 (N := N) (x := l + i) g gl (by omega) v2 (by omega) (by omega)
    have f1 : Fr jI jA jJ ux vx := (fr_sj1 ux (by decide)).trans ((fr_X8_write_22 w1).mono (by decide) (by decide) (by decide))
    have f2 : Fr mI mA mJ um vm := (fr_X11_write w2).mono (by decide) (by decide) (by decide)
    have k24 : q_i vx 24 = 0 := ((fr_X8_write_22 w1).1 24 (by decide)).trans h24
    have k26 : q_i vm 26 = 0 := ((fr_X11_write w2).1 26 (by decide)).trans h26
    rw [lp_1 (fX6_writeJournal_b57 L N) _ (n := n1) (by omega), fX6_writeJournal_b57, if_pos (nI_le (by omega) (by omega)), p1, qb_s, nI_add, w1, qb_s]
    rw [lp_1 (fX11_commit_b29 N) _ (n := n2) (by omega), fX11_commit_b29, if_neg (nI_ge (by omega) (by omega)), w2, qb_s]
    rcases w3 with ⟨r0, r7, vv⟩ | ⟨r1, r7, vv⟩
    · left
      rw [r0, if_pos rfl]
      exact ⟨vx, vm, D, rfl, rfl, r7, VV_le vv (by omega), f1, f2, ⟨k24, k26⟩, fun _ _ => rfl⟩
    · right
      rw [r1, if_neg (by decide), qn_s, qn_s, nI_1, lp_1 (fX11_commit_b29 N) _ (n := n2 - 1) (by omega), fX11_commit_b29, if_pos (nI_le (by omega) (by omega))]
      refine ⟨vx, q_si vm 26 0, updD D (l + i) (fun w => q_j (q_sj ux 3 pg) 3 w), rfl, rfl, r7, VV_fr (VV_le vv (by omega)) (fun _ _ _ _ _ _ => rfl) (fun _ _ => rfl) rfl (fun k q => qi_ne (by omega)) (fun _ _ => rfl), f1, f2.trans (fr_si1 vm (by decide)), ⟨k24, rfl⟩, fun x hx => ?_, jLs_upd hj (fun j z1 z2 => by omega), ?_, fun j hj2 w hw => ?_⟩
      · funext w
        unfold updD
        rw [if_neg (by omega)]
      · unfold updD
        rw [if_neg (by omega)]
        exact h6
      · unfold updD
        rw [if_neg (by omega)]
        exact hcp j hj2 w hw
  | succ k ih =>
    intro i n1 n2 ux um D h1 h2 h3 v hc hm hj h6 hcp h24 h26
    obtain ⟨c1, c2⟩ := hc i (by omega)
    obtain ⟨r, vx, vm, w1, w2, w3⟩ := l_write19 (N := N) (x := l + i) (at_ := c i * 8) g gl (by omega) v (by omega) (by omega) (by omega)
    have f1 : Fr jI jA jJ ux vx := (fr_X8_write_19 w1).mono (by decide) (by decide) (by decide)
    have f2 : Fr mI mA mJ um vm := (fr_X11_write w2).mono (by decide) (by decide) (by decide)
    have k24 : q_i vx 24 = 0 := ((fr_X8_write_19 w1).1 24 (by decide)).trans h24
    have k26 : q_i vm 26 = 0 := ((fr_X11_write w2).1 26 (by decide)).trans h26
    rw [lp_1 (fX6_writeJournal_b57 L N) _ (n := n1) (by omega), fX6_writeJournal_b57, if_neg (nI_ge (by omega) (by omega)), gl.2.2.2.2.2.2.2.2.2.1, qr_n (by omega) (by omega), c1, nI_add, show nI (c i) * (8 : Int32) = nI (c i * 8) from pk_mul _ 8, w1, qb_s]
    rw [lp_1 (fX11_commit_b29 N) _ (n := n2) (by omega), fX11_commit_b29, if_neg (nI_ge (by omega) (by omega)), w2, qb_s]
    rcases w3 with ⟨r0, r7, vv⟩ | ⟨r1, r7, vv⟩
    · left
      rw [r0, if_pos rfl, if_pos rfl]
      exact ⟨vx, vm, D, rfl, rfl, r7, VV_le vv (by omega), f1, f2, ⟨k24, k26⟩, fun _ _ => rfl⟩
    · rw [r1, if_neg (by decide), if_neg (by decide), qn_s, qn_s, qn_s, nI_1, nI_1]
      have v3 : VV B T S C W Ls (hb + l + (i + 1)) none (updD D (l + i) (fun w => q_j ux 2 (c i * 8 + w))) vx (q_si vm 26 0) := VV_fr vv (fun _ _ _ _ _ _ => rfl) (fun _ _ => rfl) rfl (fun k q => qi_ne (by omega)) (fun _ _ => rfl)
      have hc2 : jCh Ls d c vx := by
        intro j hj2
        have := hc j hj2
        rw [f1.2.1 6 (by decide)]
        exact this
      have hfar : ∀ x, 80 ≤ x → updD D (l + i) (fun w => q_j ux 2 (c i * 8 + w)) x = D x := by
        intro x hx
        funext w
        unfold updD
        rw [if_neg (by omega)]
      have h62 : uN (updD D (l + i) (fun w => q_j ux 2 (c i * 8 + w)) 0 6) = d := by
        unfold updD
        rw [if_neg (by omega)]
        exact h6
      have hcp2 : jCp (updD D (l + i) (fun w => q_j ux 2 (c i * 8 + w))) l (i + 1) (fun j w => mem (c j * 8 + w)) := by
        intro j hj2 w hw
        unfold updD
        by_cases q : j = i
        · rw [if_pos (by rw [q]), q, hm]
        · rw [if_neg (by omega)]
          exact hcp j (by omega) w hw
      have f2' : Fr mI mA mJ um (q_si vm 26 0) := f2.trans (fr_si1 vm (by decide))
      rcases ih (i + 1) (n1 - 1) (n2 - 1) vx (q_si vm 26 0) _ (by omega) (by omega) (by omega) v3 hc2 ((f1.2.2 2 (by decide)).trans hm) (jLs_upd hj (fun j z1 z2 => by omega)) h62 hcp2 k24 rfl with ⟨wx, wm, D2, z1, z2, z3, z4, z5, z6, z7, z8⟩ | ⟨wx, wm, D2, z1, z2, z3, z4, z5, z6, z7, z8, z9, z10, z11⟩
      · left
        exact ⟨wx, wm, D2, z1, z2, z3, z4, f1.trans z5, f2'.trans z6, z7, fun x hx => (z8 x hx).trans (hfar x hx)⟩
      · right
        exact ⟨wx, wm, D2, z1, z2, z3.trans r7, z4, f1.trans z5, f2'.trans z6, z7, fun x hx => (z8 x hx).trans (hfar x hx), z9, z10, z11⟩
/-- all of it -/
theorem l_journal {B T S C W Ls hb d l tot : Nat} {c : Nat → Nat} {D : Nat → Nat → Int64} {L : Nat → Nat} {N : Nat} {ux um : q_St} (g : Geo B T S C W Ls) (gl : gL B C W Ls L) (hN : 3000 ≤ N) (hb28 : hb + 100 < 2 ^ 28) (hd0 : 0 < d) (hd : d ≤ 75) (hl : l = (d + 23) / 24) (htot : tot = l + d + 1) (v : VV B T S C W Ls hb none D ux um) (hc : jCh Ls d c ux) :
    (∃ vx vm D2, fX6_writeJournal L N (nI d) ux = some (0, vx) ∧ q_lp (fX11_commit_b29 N) (fun _ _ _ => none) N (nI tot) 0 um = some (0, vm) ∧ q_i vx 7 = 0 ∧ VV B T S C W Ls (hb + tot) none D2 vx vm ∧ Fr jI jA jJ ux vx ∧ Fr mI mA mJ um vm ∧ ((D2 = D ∧ q_i vx 24 = q_i ux 24 ∧ q_i vm 26 = q_i um 26) ∨ (q_i vx 24 = 0 ∧ q_i vm 26 = 0)) ∧ ∀ x, 80 ≤ x → D2 x = D x) ∨
    (∃ vx vm D2, fX6_writeJournal L N (nI d) ux = some (1, vx) ∧ q_lp (fX11_commit_b29 N) (fun _ _ _ => none) N (nI tot) 0 um = mkt N vm ∧ q_i vx 7 = q_i ux 7 ∧ VV B T S C W Ls (hb + tot) none D2 vx vm ∧ Fr jI jA jJ ux vx ∧ Fr mI mA mJ um vm ∧ (∀ x, 80 ≤ x → D2 x = D x) ∧ jLs D2 d d c ∧ uN (D2 0 6) = d ∧ jCp D2 l d (fun j w => q_j ux 2 (c j * 8 + w))) := by
  have hls := g.l
  unfold fX6_writeJournal
  rw [show (nI d + 24 - 1) / (24 : Int32) = nI l from by
    rw [show nI d + (24 : Int32) = nI (d + 24) from nI_add d 24, show nI (d + 24) - (1 : Int32) = nI (d + 24 - 1) from pk_sub (b := 1) (by omega), show nI (d + 24 - 1) / (24 : Int32) = nI ((d + 24 - 1) / 24) from pk_div (d := 24) (by omega) (by decide) (by decide), hl]
    rfl, qn_s]
  rcases l_jr1 (N := N) (c := c) (tot := tot) g gl hN hb28 hd0 hd hl htot l 0 N N ux um D (by omega) (by omega) (by omega) v hc (fun j h => by omega) (fun h => by omega) with ⟨vx, vm, D2, z1, z2, z3, z4, z5, z6, z7, z8⟩ | ⟨vx, vm, D2, z1, z2, z3, z4, z5, z6, z7, z8, z9, z10⟩
  · left
    exact ⟨vx, vm, D2, z1, z2, z3, VV_le z4 (by omega), z5, z6, z7, z8⟩
  · have z1 : q_lp (fX6_writeJournal_b12 L N) (fun _ _ _ _ => none) N (nI d) (nI l) 0 ux = _ := z1
    have z2 : q_lp (fX11_commit_b29 N) (fun _ _ _ => none) N (nI tot) 0 um = _ := z2
    have hfl : q_i vx 24 = 0 ∧ q_i vm 26 = 0 := by
      rcases z7 with ⟨y, -⟩ | y
      · omega
      · exact y
    have hc2 : jCh Ls d c vx := by
      intro j hj2
      have := hc j hj2
      rw [z5.2.1 6 (by decide)]
      exact this
    have hm : q_j vx 2 = q_j ux 2 := z5.2.2 2 (by decide)
    rw [z1, z2]
    rcases l_jr2 (N := N) (c := c) (tot := tot) (mem := q_j ux 2) g gl hN hb28 hd0 hd hl htot d 0 N (N - l) vx vm D2 (by omega) (by omega) (by omega) z4 hc2 hm z9 z10 (fun j hj => by omega) hfl.1 hfl.2 with ⟨wx, wm, D3, y1, y2, y3, y4, y5, y6, y7, y8⟩ | ⟨wx, wm, D3, y1, y2, y3, y4, y5, y6, y7, y8, y9, y10, y11⟩
    · left
      exact ⟨wx, wm, D3, y1, y2, y3, y4, z5.trans y5, z6.trans y6, Or.inr y7, fun x hx => (y8 x hx).trans (z8 x hx)⟩
    · right
      exact ⟨wx, wm, D3, y1, y2, y3.trans z3, y4, z5.trans y5, z6.trans y6, fun x hx => (y8 x hx).trans (z8 x hx), fun j h1 h2 => y9 j (by omega) h2, y10, y11⟩
