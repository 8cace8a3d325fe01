/-! ===== RESTORE, in both ===== -/
theorem i_l2i0 {v : Int64} (h : uN v < 2 ^ 31) : Int64.toInt32 v = nI (uN v) := by
  refine Int32.toBitVec_inj.1 (BitVec.eq_of_toNat_eq ?_)
  rw [Int64.toBitVec_toInt32, BitVec.signExtend_eq_setWidth_of_le _ (by decide), BitVec.toNat_setWidth]
  show uN v % 2 ^ 32 = (BitVec.ofNat 32 (uN v)).toNat
  rw [BitVec.toNat_ofNat]
theorem l_again {B T S C W Ls hb d l : Nat} {tl : Nat → Bool} {c : Nat → Nat} {ct : Nat → Nat → Int64} {L : Nat → Nat} {N : Nat} (g : Geo B T S C W Ls) (gl : gL B C W Ls L) (hN : 3000 ≤ N) (hb28 : hb + 100 < 2 ^ 28) (hd : d ≤ 75) (hl : l = (d + 23) / 24) (he : enu tl Ls c) (hcn : cnt tl Ls = d) (h80 : ∀ j, j < d → 80 ≤ c j) : ∀ (k i x n1 n2 : Nat) (ux um : q_St) (D : Nat → Nat → Int64), i + k = d → k < n1 → Ls - x < n2 → x ≤ Ls → hPos d i x c → (∀ y, y < Ls → q_a um 34 y = b2i (tl y)) → VV B T S C W Ls (hb + i) none D ux um → (∀ y, y < Ls → q_a ux 5 y = 0) → q_i ux 22 = 0 → jLs D d d c → jCp D l d ct →
    (∃ vx vm D2, q_lp (fX6_writeToldAgain_b21 L N) (fun _ _ _ _ => none) n1 (nI d) (nI l) (nI i) ux = some (0, vx) ∧ q_lp (fX11_bringHome_b2 N) (fun _ _ => none) n2 (nI x) um = some (0, vm) ∧ q_i vx 7 = 0 ∧ VV B T S C W Ls (hb + d) none D2 vx vm ∧ Fr jI jA jJ ux vx ∧ q_i vx 24 = q_i ux 24 ∧ Fr mI mA mJ um vm ∧ q_i vm 26 = q_i um 26 ∧ hOk Ls d i c ct D D2) ∨
    (∃ vx vm D2, q_lp (fX6_writeToldAgain_b21 L N) (fun _ _ _ _ => none) n1 (nI d) (nI l) (nI i) ux = some (1, vx) ∧ q_lp (fX11_bringHome_b2 N) (fun _ _ => none) n2 (nI x) um = some (1, vm) ∧ q_i vx 7 = q_i ux 7 ∧ VV B T S C W Ls (hb + d) none D2 vx vm ∧ Fr jI jA jJ ux vx ∧ q_i vx 24 = q_i ux 24 ∧ Fr mI mA mJ um vm ∧ q_i vm 26 = q_i um 26 ∧ hOk Ls d i c ct D D2 ∧ ∀ j, i ≤ j → j < d → ∀ w, w < 8 → D2 (c j) w = ct j w) := by
  have hls := g.l
  have hwd := g.w
  obtain ⟨a1, a2, a3, a4, a5, a6⟩ := id g
  intro k
  induction k with
  | zero =>
    intro i x n1 n2 ux um D h1 h2 h3 hx hp ht v h5 h22 hj hcp
    have : i = d := by omega
    subst this
    right
    refine ⟨ux, um, D, ?_, m_last hls.2 he hcn ht hp hx h3 v.gm.2.2.2.2.2.1, rfl, v, Fr.rf _ _ _ _, rfl, Fr.rf _ _ _ _, rfl, fun y hy => Or.inl rfl, fun j q1 q2 => by omega⟩
    rw [lp_1 _ _ (by omega), fX6_writeToldAgain_b21, if_pos (nI_le (by omega) (by omega))]
  | succ k ih =>
    intro i x n1 n2 ux um D h1 h2 h3 hx hp ht v h5 h22 hj hcp
    have hci : c i < Ls := (he.1 i (by omega)).1
    have hxi := hp.2 i (Nat.le_refl _) (by omega)
    have xs := XS_clean v h5 h22
    obtain ⟨sp, p1, p2, p3⟩ := v_spot (N := N) (x := l + i) g gl v (by omega)
    have v2 : VV B T S C W Ls (hb + i) none D (q_sj ux 3 (va_cpy (q_j ux 0) (q_j ux 3) (sp * 8) 0 8)) um := VV_fr v (fun _ _ _ _ _ _ => rfl) (fun _ _ => rfl) rfl (fun _ _ => rfl) (fun _ _ => rfl)
    obtain ⟨r, vx, vm, w1, w2, w3⟩ := l_write22 (N := N) (x := c i) g gl (by omega) v2 (by omega) hci
    have f1 : Fr jI jA jJ ux vx := (fr_sj1 ux (by decide)).trans ((fr_X8_write_22 w1).mono (by decide) (by decide) (by decide))
    have f2 : Fr mI mA mJ um vm := (fr_X11_write w2).mono (by decide) (by decide) (by decide)
    have k24 : q_i vx 24 = q_i ux 24 := (fr_X8_write_22 w1).1 24 (by decide)
    have k26 : q_i vm 26 = q_i um 26 := (fr_X11_write w2).1 26 (by decide)
    have hcp8 : ∀ (K : q_St → Option (Int32 × q_St)) (u1 : q_St), q_cp (L 0) (L 10) (nI (sp * 8)) 0 8 u1 K = K u1 := by
      intro K u1
      unfold q_cp
      rw [gl.1, gl.2.2.2.2.2.2.2.2.2.2.1, if_neg (by
        rw [cl_n (show sp * 8 < 2 ^ 31 by omega), show Int32.toNatClampNeg 0 = 0 from by decide, show Int32.toNatClampNeg 8 = 8 from by decide]
        rintro ((h1 | h1 | h1) | h1)
        · exact nI_pos (by omega) h1
        · exact absurd h1 (by decide)
        · exact absurd h1 (by decide)
        · omega)]
    rw [lp_1 (fX6_writeToldAgain_b21 L N) _ (n := n1) (by omega), fX6_writeToldAgain_b21, if_neg (nI_ge (by omega) (by omega)), nI_add, if_neg (show ¬ (80 : Int32) ≤ nI (l + i) from nI_ge (a := l + i) (b := 80) (by omega) (by omega)), show nI i / (24 : Int32) = nI (i / 24) from pk_div (d := 24) (by omega) (by decide) (by decide), show nI (i / 24) * (24 : Int32) = nI (i / 24 * 24) from pk_mul _ 24, pk_sub (by omega), show i - i / 24 * 24 = i % 24 by omega, qn_s, show nI (i % 24) / (4 : Int32) = nI (i % 24 / 4) from pk_div (d := 4) (by omega) (by decide) (by decide), x_word g gl xs (by omega) (by omega), qb_s, show nI (i % 24 / 4) * (4 : Int32) = nI (i % 24 / 4 * 4) from pk_mul _ 4, pk_sub (by omega), show i % 24 - i % 24 / 4 * 4 = i % 24 % 4 by omega, show (16 : Int32) * nI (i % 24 % 4) = nI (16 * (i % 24 % 4)) from pk_mul 16 _, i_l2i _ 16 (by decide) 65535 (by decide), uN_lush _ (by omega)]
    rw [show uN (D (i / 24) (i % 24 / 4)) >>> (16 * (i % 24 % 4)) % 2 ^ 16 = c i from hj i (by omega) (by omega), qn_s, p1, qb_s, hcp8, cl_n (show sp * 8 < 2 ^ 31 by omega), show Int32.toNatClampNeg 0 = 0 from by decide, show Int32.toNatClampNeg 8 = 8 from by decide, w1, qb_s]
    rw [m_next hls.2 he hcn ht hp (by omega) h3 v.gm.2.2.2.2.2.1, w2, qb_s]
    rcases w3 with ⟨r0, r7, vv⟩ | ⟨r1, r7, vv⟩
    · left
      rw [r0, if_pos rfl, if_pos rfl]
      exact ⟨vx, vm, D, rfl, rfl, r7, VV_le vv (by omega), f1, k24, f2, k26, fun y hy => Or.inl rfl⟩
    · rw [r1, if_neg (by decide), if_neg (by decide), qn_s, nI_1]
      have ht2 : ∀ y, y < Ls → q_a vm 34 y = b2i (tl y) := fun y hy => by rw [f2.2.1 34 (by decide)]; exact ht y hy
      have hp2 : hPos d (i + 1) (c i + 1) c := by
        refine ⟨fun j hj => ?_, fun j q1 q2 => ?_⟩
        · by_cases q : j = i
          · rw [q]; omega
          · have := hp.1 j (by omega); omega
        · have := he.2.1 i j (by omega) (by omega); omega
      have hpg : ∀ w, w < 8 → q_j (q_sj ux 3 (va_cpy (q_j ux 0) (q_j ux 3) (sp * 8) 0 8)) 3 w = ct i w := by
        intro w hw
        rw [qj_eq]
        have := va8_at (q_j ux 0) (q_j ux 3) (sp * 8) 0 w hw
        rw [Nat.zero_mul, Nat.zero_add] at this
        rw [this, p3 w hw]
        exact hcp i (by omega) w hw
      have hc80 := h80 i (by omega)
      have hj2 : jLs (updD D (c i) (fun w => q_j (q_sj ux 3 (va_cpy (q_j ux 0) (q_j ux 3) (sp * 8) 0 8)) 3 w)) d d c := jLs_upd hj (fun j z1 z2 => by omega)
      have hcp2 : jCp (updD D (c i) (fun w => q_j (q_sj ux 3 (va_cpy (q_j ux 0) (q_j ux 3) (sp * 8) 0 8)) 3 w)) l d ct := by
        intro j hj3 w hw
        unfold updD
        rw [if_neg (by omega)]
        exact hcp j hj3 w hw
      rcases ih (i + 1) (c i + 1) (n1 - 1) (n2 - (c i - x) - 1) vx vm _ (by omega) (by omega) (by omega) (by omega) hp2 ht2 vv (fun y hy => by rw [f1.2.1 5 (by decide)]; exact h5 y hy) ((f1.1 22 (by decide)).trans h22) hj2 hcp2 with ⟨wx, wm, D2, z1, z2, z3, z4, z5, z5b, z6, z6b, z7⟩ | ⟨wx, wm, D2, z1, z2, z3, z4, z5, z5b, z6, z6b, z7, z8⟩
      · left
        exact ⟨wx, wm, D2, z1, z2, z3, z4, f1.trans z5, z5b.trans k24, f2.trans z6, z6b.trans k26, hOk_step (by omega) hpg z7⟩
      · right
        refine ⟨wx, wm, D2, z1, z2, z3.trans r7, z4, f1.trans z5, z5b.trans k24, f2.trans z6, z6b.trans k26, hOk_step (by omega) hpg z7, fun j q1 q2 w hw => ?_⟩
        by_cases q : j = i
        · rw [q]
          rcases z7 (c i) hci with y | ⟨j2, y1, y2, y3, y4⟩
          · rw [y]
            unfold updD
            rw [if_pos rfl]
            exact hpg w hw
          · exfalso
            have := he.2.1 i j2 (by omega) (by omega)
            omega
        · exact z8 j (by omega) q2 w hw
theorem VV_on {B T S C W Ls hb : Nat} {sm : Option Nat} {D : Nat → Nat → Int64} {ux um : q_St} (v : VV B T S C W Ls hb sm D ux um) : VV B T S C W Ls hb sm D (q_si ux 7 1) (q_si um 9 1) := by
  obtain ⟨h, t, cl, hhb, ⟨⟨gx, gm⟩, vw, vr, cr, lr, kr, vc, e1, e2, e3, e4⟩, hmk, hd⟩ := v
  refine ⟨h, t, cl, hhb, ⟨⟨gx, gm⟩, vw, vr, ?_, lr, kR_keep kr (fun k q1 q2 => qi_ne (by omega)) (fun k q1 q2 => qi_ne (by omega)), vc, e1, e2, e3, e4⟩, hmk, hd⟩
  exact ⟨rfl, cr.2.1, cr.2.2.1, cr.2.2.2.1, cr.2.2.2.2.1, cr.2.2.2.2.2.1, cr.2.2.2.2.2.2.1, cr.2.2.2.2.2.2.2.1, cr.2.2.2.2.2.2.2.2⟩
theorem DK_cg {Ls : Nat} {D D2 kv : Nat → Nat → Int64} {ux um vx vm : q_St} (hl : 256 ≤ Ls) (h : DK Ls D kv ux um) (h1 : q_i vx 24 = q_i ux 24) (h2 : q_i vm 26 = q_i um 26) (h3 : q_a vm 31 = q_a um 31) (h4 : q_a vm 34 = q_a um 34) (hD : ∀ x, x < Ls → (x < 80 ∨ ¬ q_a um 31 x = 0) → ∀ w, w < 8 → D2 x w = D x w) : DK Ls D2 kv vx vm := by
  unfold DK at h ⊢
  rw [h1, h2, h3, h4]
  rcases h with ⟨t1, t2, t3⟩ | ⟨t1, t2, d, c, tl, t3, t4, t5, t6, t7, t8, t9, t10, t11⟩
  · exact Or.inl ⟨t1, t2, fun x q1 q2 q3 w hw => (hD x q2 (Or.inr q3) w hw).trans (t3 x q1 q2 q3 w hw)⟩
  · refine Or.inr ⟨t1, t2, d, c, tl, t3, t4, t5, t6, t7, fun j q1 q2 => ?_, ?_, fun j q1 w hw => ?_, fun x q1 q2 q3 q4 w hw => (hD x q2 (Or.inr q3) w hw).trans (t11 x q1 q2 q3 q4 w hw)⟩
    · rw [hD (j / 24) (by omega) (Or.inl (by omega)) _ (by omega)]
      exact t8 j q1 q2
    · rw [hD 0 (by omega) (Or.inl (by omega)) 6 (by decide)]
      exact t9
    · rw [hD ((d + 23) / 24 + j) (by omega) (Or.inl (by omega)) w hw]
      exact t10 j q1 w hw
/-- the tree at hand becomes the one that is KEPT -/
def FG (Ls : Nat) (um vm : q_St) : Prop := rEq Ls (q_a vm) (fun k => q_a um (k + 14)) (q_j vm 0) (q_j um 1) ∧ (∀ j, j < 64 * Ls → q_a vm 18 j = vp_nar .byte (q_a um 32 j)) ∧ (∀ k, 19 ≤ k → k ≠ 33 → q_a vm k = q_a um k) ∧ q_j vm 1 = q_j um 1 ∧ (∀ k, 26 ≤ k → q_i vm k = q_i um k)
theorem l_comeBack {B T S C W Ls hb : Nat} {sm : Option Nat} {D kv : Nat → Nat → Int64} {L : Nat → Nat} {N : Nat} {ux um : q_St} (g : Geo B T S C W Ls) (gl : gL B C W Ls L) (hN : 140000 ≤ N) (hb28 : hb + 300 < 2 ^ 28) (v : VV B T S C W Ls hb sm D ux um) (dk : DK Ls D kv ux um) (hsm : ∀ b, sm = some b → ∀ x, x < Ls → x / W = b → q_a um 31 x = 0 ∧ 80 ≤ x) :
    (∃ vx vm sm2 D2, fX6_comeBack L N ux = some (0, vx) ∧ q_bnd (fX11_forget N (q_si um 9 1)) (fun _ u4 => fX11_recovers N u4) = some (0, vm) ∧ q_i vx 7 = 0 ∧ (sm2 = sm ∨ sm2 = none) ∧ VV B T S C W Ls (hb + 100) sm2 D2 vx vm ∧ DK Ls D2 kv vx vm ∧ FG Ls um vm) ∨
    (∃ vx vm D2, fX6_comeBack L N ux = some (1, vx) ∧ q_bnd (fX11_forget N (q_si um 9 1)) (fun _ u4 => fX11_recovers N u4) = some (1, vm) ∧ q_i vx 7 = 1 ∧ XS B T S C W Ls (hb + 100) vm D2 D2 (fun _ => false) vx ∧ MS Ls (fun _ => false) vm ∧ DK Ls D2 kv vx vm ∧ DH Ls D2 kv vm ∧ FG Ls um vm) := by
  have hls := g.l
  have v1 := VV_on v
  obtain ⟨um2, e2, i2, i25, j2, a2, d2, r2, b2⟩ := m_forget (N := N) (u := q_si um 9 1) hN hls.2 (v.gm.2.2.2.2.2.1)
  have xf := x_forgetAll (L := L) (N := N) (Ls := Ls) (by omega) hls.2 gl.2.2.2.2.2.2.2.2.1 (q_si ux 7 1)
  obtain ⟨ux2, hux2⟩ : ∃ q, q = (q_si (q_sa (q_si ux 7 1) 5 (fun j => if j < Ls then 0 else q_a (q_si ux 7 1) 5 j)) 22 0) := ⟨_, rfl⟩
  rw [← hux2] at xf
  have v2 : VV B T S C W Ls hb sm D ux2 um2 := by
    rw [hux2]
    exact VV_fr v1 (fun k _ _ q _ _ => by rw [qi_ne q, qi_sa]) (fun k q => by rw [qa_si, qa_ne (by omega)]) rfl (fun k q => i2 k (by omega)) (fun k q => a2 k (by omega) (by omega))
  have x24 : q_i ux2 24 = q_i ux 24 := by rw [hux2]; rfl
  have x7 : q_i ux2 7 = 1 := by rw [hux2]; rfl
  have x5 : ∀ y, y < Ls → q_a ux2 5 y = 0 := fun y hy => by rw [hux2, qa_si, qa_eq, if_pos hy]
  have x22 : q_i ux2 22 = 0 := by rw [hux2]; rfl
  have m26 : q_i um2 26 = q_i um 26 := (i2 26 (by decide)).trans rfl
  have m31 : q_a um2 31 = q_a um 31 := a2 31 (by omega) (by decide)
  have m34 : q_a um2 34 = q_a um 34 := a2 34 (by omega) (by decide)
  have fg : ∀ vm, (∀ k, 5 ≤ k → q_a vm k = q_a um2 k) → (∀ k, q_j vm k = q_j um2 k) → (∀ k, 26 ≤ k → q_i vm k = q_i um2 k) → FG Ls um vm := by
    intro vm row fj fi
    obtain ⟨q1, q2, q3, q4, q5, q6, q7⟩ := r2
    have s7r : ∀ k ∈ s7, 5 ≤ k ∧ k ≤ 18 := by decide
    refine ⟨⟨fun k hk j hj => ?_, fun j hj => ?_, fun j hj => ?_, fun j hj => ?_, fun j hj => ?_, fun j hj => ⟨?_, ?_⟩, fun j hj => ?_⟩, fun j hj => ?_, fun k h1 h2 => ?_, ?_, fun k hk => ?_⟩
    · rw [row k (s7r k hk).1]; exact q1 k hk j hj
    · rw [row 10 (by decide)]; exact q2 j hj
    · rw [row 9 (by decide)]; exact q3 j hj
    · rw [row 16 (by decide)]; exact q4 j hj
    · rw [row 13 (by decide)]; exact q5 j hj
    · rw [row 14 (by decide)]; exact (q6 j hj).1
    · rw [fj 0]; exact (q6 j hj).2
    · rw [row 17 (by decide)]; exact q7 j hj
    · rw [row 18 (by decide)]; exact b2 j hj
    · rw [row k (by omega)]; exact a2 k (by omega) h2
    · rw [fj 1]; exact j2
    · rw [fi k hk, i2 k (by omega), qi_ne (by omega)]
  unfold fX6_comeBack
  rw [qn_s, xf, qb_s, e2, qb_s]
  have hout : ∀ x, x < Ls → (x < 80 ∨ ¬ q_a um2 31 x = 0) → sm ≠ some (x / W) := by
    intro x hx hq e
    have := hsm (x / W) e x hx rfl
    rw [m31] at hq
    rcases hq with q | q
    · omega
    · exact q this.1
  rcases l_recover (N := N) g gl (by omega) v2 with ⟨vx, vm, sm2, D2, z1, z2, z3, z4, z5, z6⟩ | ⟨vx, vm, D2, z1, z2, z3, z5, z6, fm⟩
  · left
    have fx := fr_X8_recover z1
    have fm := fr_X11_recovers z2
    rw [z1, qb_s, if_pos rfl]
    refine ⟨vx, vm, sm2, D2, rfl, z2, z3, z4, VV_le z5 (by omega), ?_, fg vm (fun k hk => fm.2.1 k (by simp only [List.mem_cons, List.not_mem_nil, or_false]; omega)) (fun k => fm.2.2 k (by simp)) (fun k hk => fm.1 k (by simp only [List.mem_cons, List.not_mem_nil, or_false]; omega))⟩
    have dk2 : DK Ls D kv ux2 um2 := DK_fr dk x24 m26 m31 m34
    exact DK_cg hls.1 dk2 (fx.1 24 (by decide)) (fm.1 26 (by decide)) (fm.2.1 31 (by decide)) (fm.2.1 34 (by decide)) (fun x hx hq w hw => z6 x w hx hw (hout x hx hq))
  · have fx := fr_X8_recover z1
    have dk2 : DK Ls D kv ux2 um2 := DK_fr dk x24 m26 m31 m34
    have dk3 : DK Ls D2 kv vx vm := DK_cg hls.1 dk2 (fx.1 24 (by decide)) (fm.1 26 (by decide)) (fm.2.1 31 (by decide)) (fm.2.1 34 (by decide)) (fun x hx hq w hw => z6 x w hx hw (hout x hx hq))
    have y5 : ∀ y, y < Ls → q_a vx 5 y = 0 := fun y hy => by rw [fx.2.1 5 (by decide)]; exact x5 y hy
    have y22 : q_i vx 22 = 0 := (fx.1 22 (by decide)).trans x22
    have ms2 : ∀ wm, (∀ k, 5 ≤ k → q_a wm k = q_a um2 k) → q_i wm 25 = q_i um2 25 → MS Ls (fun _ => false) wm := by
      intro wm row r25
      refine ⟨fun x hx => ?_, ?_⟩
      · rw [row 33 (by decide), d2 x hx]; rfl
      · rw [r25, i25, cnt_no]; rfl
    have row0 : ∀ k, 5 ≤ k → q_a vm k = q_a um2 k := fun k hk => fm.2.1 k (by simp only [List.mem_cons, List.not_mem_nil, or_false]; omega)
    have j0 : ∀ k, q_j vm k = q_j um2 k := fun k => fm.2.2 k (by simp)
    have i0 : ∀ k, 25 ≤ k → q_i vm k = q_i um2 k := fun k hk => fm.1 k (by simp only [List.mem_cons, List.not_mem_nil, or_false]; omega)
    rw [z1, qb_s, if_neg (by decide), z2]
    unfold fX11_recovers_b74 fX11_recovers_b88 fX6_comeBack_b36
    rcases id dk3 with ⟨t1, t2, t3⟩ | ⟨t1, t2, d, c, tl, t3, t4, t5, t6, t7, t8, t9, t10, t11⟩
    · right
      rw [if_pos t1, if_pos t2]
      exact ⟨vx, vm, D2, rfl, rfl, z3.trans x7, XS_clean (VV_le z5 (by omega)) y5 y22, ms2 vm row0 (i0 25 (by decide)), dk3, fun x h1 h2 h3 => t3 x h1 h2 h3, fg vm row0 j0 (fun k hk => i0 k (by omega))⟩
    · rw [t1, t2, if_neg (by decide), if_neg (by decide)]
      unfold fX6_writeToldAgain fX11_bringHome
      have xs := XS_clean z5 y5 y22
      have hw0 : fX6_word L N 0 6 vx = some (D2 0 6, vx) := x_word (x := 0) (w := 6) g gl xs (by omega) (by omega)
      rw [hw0, qb_s, i_l2i0 (by rw [t9]; omega), t9, qn_s, show (nI d + 24 - 1) / (24 : Int32) = nI ((d + 23) / 24) from by
        rw [show nI d + (24 : Int32) = nI (d + 24) from nI_add d 24, show nI (d + 24) - (1 : Int32) = nI (d + 24 - 1) from pk_sub (b := 1) (by omega), show nI (d + 24 - 1) / (24 : Int32) = nI ((d + 24 - 1) / 24) from pk_div (d := 24) (by omega) (by decide) (by decide)]
        rfl, qn_s]
      have h80 : ∀ j, j < d → 80 ≤ c j := fun j hj => by
        have e := t4.1 j (by omega)
        exact (t7 _ e.1 e.2).1
      have hDK : ∀ (D3 : Nat → Nat → Int64) (wx wm : q_St), q_i wx 24 = q_i vx 24 → Fr mI mA mJ vm wm → q_i wm 26 = q_i vm 26 → hOk Ls d 0 c (fun j w => kv (c j) w) D2 D3 → DK Ls D3 kv wx wm := by
        intro D3 wx wm w24 fw w26 hok
        have low : ∀ y, y < 80 → D3 y = D2 y := by
          intro y hy
          rcases hok y (by omega) with q | ⟨j, j1, j2, j3, j4⟩
          · exact q
          · exfalso
            have := h80 j j2
            omega
        refine Or.inr ⟨w24.trans t1, w26.trans t2, d, c, tl, t3, t4, t5, by rw [fw.2.1 34 (by decide)]; exact t6, by rw [fw.2.1 31 (by decide)]; exact t7, ?_, ?_, ?_, ?_⟩
        · intro j h1 h2
          rw [low _ (by omega)]
          exact t8 j h1 h2
        · rw [low 0 (by omega)]
          exact t9
        · intro j hj w hw
          rw [low _ (by omega)]
          exact t10 j hj w hw
        · intro x h1 h2 h3 h4 w hw
          rw [fw.2.1 31 (by decide)] at h3
          rcases hok x h2 with q | ⟨j, j1, j2, j3, j4⟩
          · rw [q]
            exact t11 x h1 h2 h3 h4 w hw
          · exfalso
            have e := (t4.1 j (by omega)).2
            rw [j3, h4] at e
            cases e
      rcases l_again (N := N) (tl := tl) (c := c) (d := d) (ct := fun j w => kv (c j) w) g gl (by omega) (show hb + 100 < 2 ^ 28 by omega) t3.2 rfl t4 t5 h80 d 0 0 N N vx vm D2 (by omega) (by omega) (by omega) (by omega) ⟨fun j hj => by omega, fun j _ _ => Nat.zero_le _⟩ t6 z5 y5 y22 t8 t10 with ⟨wx, wm, D3, q1, q2, q3, q4, q5, q5b, q6, q6b, q7⟩ | ⟨wx, wm, D3, q1, q2, q3, q4, q5, q5b, q6, q6b, q7, q8⟩
      · left
        have q1 : q_lp (fX6_writeToldAgain_b21 L N) (fun _ _ _ _ => none) N (nI d) (nI ((d + 23) / 24)) 0 vx = some (0, wx) := q1
        have q2 : q_lp (fX11_bringHome_b2 N) (fun _ _ => none) N 0 vm = some (0, wm) := q2
        rw [q1, q2, qb_s, qb_s, if_pos rfl, if_pos rfl]
        exact ⟨wx, wm, none, D3, rfl, rfl, q3, Or.inr rfl, VV_le q4 (by omega), hDK D3 wx wm q5b q6 q6b q7, fg wm (fun k hk => (q6.2.1 k (by simp only [List.mem_cons, List.not_mem_nil, or_false]; omega)).trans (row0 k hk)) (fun k => (q6.2.2 k (by simp)).trans (j0 k)) (fun k hk => by
          by_cases e : k = 26
          · rw [e, q6b]; exact i0 26 (by decide)
          · exact (q6.1 k (by simp only [List.mem_cons, List.not_mem_nil, or_false]; omega)).trans (i0 k (by omega)))⟩
      · right
        have q1 : q_lp (fX6_writeToldAgain_b21 L N) (fun _ _ _ _ => none) N (nI d) (nI ((d + 23) / 24)) 0 vx = some (1, wx) := q1
        have q2 : q_lp (fX11_bringHome_b2 N) (fun _ _ => none) N 0 vm = some (1, wm) := q2
        rw [q1, q2, qb_s, qb_s, if_neg (by decide), if_neg (by decide)]
        have dk4 := hDK D3 wx wm q5b q6 q6b q7
        refine ⟨wx, wm, D3, rfl, rfl, q3.trans (z3.trans x7), XS_clean (VV_le q4 (by omega)) (fun y hy => by rw [q5.2.1 5 (by decide)]; exact y5 y hy) ((q5.1 22 (by decide)).trans y22), ms2 wm (fun k hk => (q6.2.1 k (by simp only [List.mem_cons, List.not_mem_nil, or_false]; omega)).trans (row0 k hk)) ((q6.1 25 (by decide)).trans (i0 25 (by decide))), dk4, ?_, fg wm (fun k hk => (q6.2.1 k (by simp only [List.mem_cons, List.not_mem_nil, or_false]; omega)).trans (row0 k hk)) (fun k => (q6.2.2 k (by simp)).trans (j0 k)) (fun k hk => by
          by_cases e : k = 26
          · rw [e, q6b]; exact i0 26 (by decide)
          · exact (q6.1 k (by simp only [List.mem_cons, List.not_mem_nil, or_false]; omega)).trans (i0 k (by omega)))⟩
        intro x h1 h2 h3 w hw
        rw [q6.2.1 31 (by decide)] at h3
        cases hx : tl x with
        | true =>
          obtain ⟨j, j1, j2⟩ := t4.2.2 x h2 hx
          rw [← j2]
          exact q8 j (Nat.zero_le _) (by omega) w hw
        | false =>
          rcases q7 x h2 with q | ⟨j, j1, j2, j3, j4⟩
          · rw [q]
            exact t11 x h1 h2 h3 hx w hw
          · exfalso
            have e := (t4.1 j (by omega)).2
            rw [j3, hx] at e
            cases e
