/-! ===== the store of the class: SECTORS in memory and on the disk ===== -/
theorem lvx_fr {W t : Nat} {um vm : q_St} (h3 : q_a vm 3 = q_a um 3) (h4 : q_a vm 4 = q_a um 4) : lvx W t vm = lvx W t um := by funext x; unfold lvx; rw [h3, h4]
theorem lat_fr {um vm : q_St} (h3 : q_a vm 3 = q_a um 3) : lat vm = lat um := by funext x; unfold lat; rw [h3]
theorem hol_fr {C : Nat} {um vm : q_St} (h2 : q_a vm 2 = q_a um 2) : hol C vm = hol C um := by funext x; unfold hol; rw [h2]
theorem sec_fr {ux vx : q_St} (h : q_j vx 0 = q_j ux 0) : sec vx = sec ux := by funext s w; unfold sec; rw [h]
theorem nl_fr {ux vx : q_St} (h : q_a vx 0 = q_a ux 0) : nl vx = nl ux := by funext s; unfold nl; rw [h]
theorem dsk_fr {C W Ls t : Nat} {cl : Cl} {ux vx um vm : q_St} (h : q_j vx 0 = q_j ux 0) (h3 : q_a vm 3 = q_a um 3) (h4 : q_a vm 4 = q_a um 4) : dsk C W Ls t cl vx vm = dsk C W Ls t cl ux um := by
  funext x w
  unfold dsk spt
  rw [sec_fr h, lvx_fr h3 h4, lat_fr h3]
/-- the volume stays as long as its own numbers do -/
theorem vU_fr {B T S C W Ls h t : Nat} {cl : Cl} {sm : Option Nat} {p : Nat} {ux um vx vm : q_St} (v : vU B T S C W Ls h t cl sm p ux um) (h1 : ∀ k, k ≤ 33 → k ≠ 0 → k ≠ 22 → k ≠ 24 → k ≠ 32 → q_i vx k = q_i ux k) (h2 : ∀ k, k ≤ 3 → q_a vx k = q_a ux k) (h3 : q_j vx 0 = q_j ux 0) (m1 : ∀ k, k ≤ 24 → q_i vm k = q_i um k) (m2 : ∀ k, k ≤ 4 → q_a vm k = q_a um k) : vU B T S C W Ls h t cl sm p vx vm := by
  obtain ⟨⟨gx, gm⟩, vw, vr, cr, lr, kr, vc, e1, e2, e3, e4⟩ := v
  have a0 := h2 0 (by decide)
  have b2 := m2 2 (by decide)
  have b3 := m2 3 (by decide)
  have b4 := m2 4 (by decide)
  refine ⟨⟨?_, ?_⟩, ?_, ?_, ?_, ?_, kR_keep kr (fun k q1 q2 => h1 k (by omega) (by omega) (by omega) (by omega) (by omega)) (fun k q1 q2 => m1 k (by omega)), ?_, ?_, ?_, e3, e4⟩
  · unfold gX at gx ⊢
    rw [h1 1 (by decide) (by decide) (by decide) (by decide) (by decide), h1 2 (by decide) (by decide) (by decide) (by decide) (by decide), h1 3 (by decide) (by decide) (by decide) (by decide) (by decide), h1 4 (by decide) (by decide) (by decide) (by decide) (by decide), h1 5 (by decide) (by decide) (by decide) (by decide) (by decide), h1 6 (by decide) (by decide) (by decide) (by decide) (by decide), h1 25 (by decide) (by decide) (by decide) (by decide) (by decide), h1 26 (by decide) (by decide) (by decide) (by decide) (by decide), h1 27 (by decide) (by decide) (by decide) (by decide) (by decide), h1 28 (by decide) (by decide) (by decide) (by decide) (by decide), h1 29 (by decide) (by decide) (by decide) (by decide) (by decide), h1 30 (by decide) (by decide) (by decide) (by decide) (by decide), h1 31 (by decide) (by decide) (by decide) (by decide) (by decide), h1 33 (by decide) (by decide) (by decide) (by decide) (by decide)]
    exact gx
  · unfold gM at gm ⊢
    rw [m1 0 (by decide), m1 1 (by decide), m1 2 (by decide), m1 3 (by decide), m1 4 (by decide), m1 5 (by decide), m1 6 (by decide), m1 7 (by decide), m1 8 (by decide)]
    exact gm
  · unfold vW at vw ⊢
    rw [m1 17 (by decide), m1 18 (by decide), b2, b3, b4]
    exact vw
  · unfold vR at vr ⊢
    rw [m1 17 (by decide), m1 18 (by decide), b2, b3, b4, h1 14 (by decide) (by decide) (by decide) (by decide) (by decide), h1 15 (by decide) (by decide) (by decide) (by decide) (by decide), h2 1 (by decide), h2 2 (by decide), h2 3 (by decide)]
    exact vr
  · unfold cR at cr ⊢
    rw [m1 9 (by decide), m1 10 (by decide), m1 11 (by decide), m1 12 (by decide), m1 13 (by decide), m1 14 (by decide), m1 15 (by decide), m1 16 (by decide), h1 7 (by decide) (by decide) (by decide) (by decide) (by decide), h1 8 (by decide) (by decide) (by decide) (by decide) (by decide), h1 9 (by decide) (by decide) (by decide) (by decide) (by decide), h1 10 (by decide) (by decide) (by decide) (by decide) (by decide), h1 11 (by decide) (by decide) (by decide) (by decide) (by decide), h1 12 (by decide) (by decide) (by decide) (by decide) (by decide), h1 21 (by decide) (by decide) (by decide) (by decide) (by decide), h1 23 (by decide) (by decide) (by decide) (by decide) (by decide), h1 13 (by decide) (by decide) (by decide) (by decide) (by decide)]
    exact cr
  · unfold lR at lr ⊢
    rw [a0, m2 0 (by decide), m2 1 (by decide)]
    exact lr
  · unfold vC at vc ⊢
    rw [lvx_fr b3 b4, nl_fr a0, sec_fr h3, dsk_fr h3 b3 b4, b3]
    exact vc
  · rw [hol_fr b2, b3]
    exact e1
  · rw [hol_fr b2, b3]
    exact e2
theorem VV_fr {B T S C W Ls hb : Nat} {sm : Option Nat} {D : Nat → Nat → Int64} {ux um vx vm : q_St} (v : VV B T S C W Ls hb sm D ux um) (h1 : ∀ k, k ≤ 33 → k ≠ 0 → k ≠ 22 → k ≠ 24 → k ≠ 32 → q_i vx k = q_i ux k) (h2 : ∀ k, k ≤ 3 → q_a vx k = q_a ux k) (h3 : q_j vx 0 = q_j ux 0) (m1 : ∀ k, k ≤ 24 → q_i vm k = q_i um k) (m2 : ∀ k, k ≤ 4 → q_a vm k = q_a um k) : VV B T S C W Ls hb sm D vx vm := by
  obtain ⟨h, t, cl, hhb, hv, hmk, hd⟩ := v
  refine ⟨h, t, cl, hhb, vU_fr hv h1 h2 h3 m1 m2, fun b e => by rw [m2 4 (by decide)]; exact hmk b e, fun x w hx hw => ?_⟩
  rw [dsk_fr h3 (m2 3 (by decide)) (m2 4 (by decide))]
  exact hd x w hx hw
theorem VV.gx {B T S C W Ls hb : Nat} {sm : Option Nat} {D : Nat → Nat → Int64} {ux um : q_St} (v : VV B T S C W Ls hb sm D ux um) : gX B T S C W Ls ux := by
  obtain ⟨h, t, cl, hhb, hv, -⟩ := v
  exact hv.1.1
theorem VV.gm {B T S C W Ls hb : Nat} {sm : Option Nat} {D : Nat → Nat → Int64} {ux um : q_St} (v : VV B T S C W Ls hb sm D ux um) : gM B T S C W Ls um := by
  obtain ⟨h, t, cl, hhb, hv, -⟩ := v
  exact hv.1.2
theorem VV.cr {B T S C W Ls hb : Nat} {sm : Option Nat} {D : Nat → Nat → Int64} {ux um : q_St} (v : VV B T S C W Ls hb sm D ux um) : cR ux um := by
  obtain ⟨h, t, cl, hhb, hv, -⟩ := v
  exact hv.2.2.2.1
/-- a flag of a row set anew -/
def setb (P : Nat → Bool) (x : Nat) (b : Bool) : Nat → Bool := fun i => if i = x then b else P i
theorem setb_s {P : Nat → Bool} {x : Nat} {b : Bool} : setb P x b x = b := if_pos rfl
theorem setb_n {P : Nat → Bool} {x i : Nat} {b : Bool} (h : i ≠ x) : setb P x b i = P i := if_neg h
theorem setb_id {P : Nat → Bool} {x : Nat} {b : Bool} (h : P x = b) : setb P x b = P := by
  funext i
  unfold setb
  split
  · rename_i e; rw [e, h]
  · rfl
theorem cnt_set {P : Nat → Bool} {x : Nat} : ∀ {n : Nat}, x < n → P x = false → cnt (setb P x true) n = cnt P n + 1
  | 0, h, _ => by omega
  | n + 1, h, hp => by
    simp only [cnt]
    by_cases c : x = n
    · rw [← c, hp, setb_s, cnt_congr (Q := P) (fun i hi => setb_n (by omega))]
      simp
    · rw [cnt_set (by omega) hp, setb_n (by omega)]
      omega
theorem cnt_clr {P : Nat → Bool} {x : Nat} {n : Nat} (h : x < n) (hp : P x = true) : cnt (setb P x false) n + 1 = cnt P n := by
  have e : setb (setb P x false) x true = P := by
    funext i
    unfold setb
    split
    · rename_i e; rw [e, hp]
    · rfl
  rw [← cnt_set h (show setb P x false x = false from setb_s), e]
/-- a word of a SECTOR set anew; a SECTOR set anew -/
def setW (K : Nat → Nat → Int64) (x w : Nat) (v : Int64) : Nat → Nat → Int64 := fun y j => if y = x ∧ j = w then v else K y j
theorem setW_s {K : Nat → Nat → Int64} {x w : Nat} {v : Int64} : setW K x w v x w = v := if_pos ⟨rfl, rfl⟩
theorem setW_n {K : Nat → Nat → Int64} {x w y j : Nat} {v : Int64} (h : ¬ (y = x ∧ j = w)) : setW K x w v y j = K y j := if_neg h
/-- what the class's store holds: D on the disk, K as files see it, dd which are DIRTY -/
def XS (B T S C W Ls hb : Nat) (um : q_St) (D K : Nat → Nat → Int64) (dd : Nat → Bool) (ux : q_St) : Prop := VV B T S C W Ls hb none D ux um ∧ (∀ x, x < Ls → q_a ux 5 x = b2i (dd x)) ∧ q_i ux 22 = nI (cnt dd Ls) ∧ ∀ x w, x < Ls → w < 8 → (if dd x = true then q_j ux 2 (x * 8 + w) else D x w) = K x w
theorem x_word {B T S C W Ls hb : Nat} {um : q_St} {D K : Nat → Nat → Int64} {dd : Nat → Bool} {L : Nat → Nat} {N : Nat} {ux : q_St} {x w : Nat} (g : Geo B T S C W Ls) (gl : gL B C W Ls L) (s : XS B T S C W Ls hb um D K dd ux) (hx : x < Ls) (hw : w < 8) : fX6_word L N (nI x) (nI w) ux = some (K x w, ux) := by
  have hl := g.l
  have hwd := g.w
  obtain ⟨a1, a2, a3, a4, a5, a6⟩ := id g
  obtain ⟨v, s1, s2, s3⟩ := s
  have l8 : L 8 = Ls := gl.2.2.2.2.2.2.2.2.1
  unfold fX6_word
  rw [if_neg (nI_pos (by omega)), l8, if_neg (nI_ge hx (by omega)), if_neg (nI_pos (by omega)), if_pos (show nI w < 8 from nI_lt (b := 8) hw (by omega)), qr_n hx (by omega), s1 x hx]
  have e := s3 x w hx hw
  cases hd : dd x with
  | true =>
    rw [hd, if_pos rfl] at e
    rw [b2i_t, if_neg (by decide), gl.2.2.2.2.2.2.2.1, show nI x * (8 : Int32) = nI (x * 8) from pk_mul x 8, nI_add, qr_n (by omega) (by omega), e]
  | false =>
    rw [hd, if_neg (by decide)] at e
    obtain ⟨sp, p1, p2, p3⟩ := v_spot (N := N) g gl v hx
    rw [b2i_f, if_pos rfl, p1, qb_s, nI_add, gl.1, qr_n (by omega) (by omega), p3 w hw, e]
theorem x_cword {B T S C W Ls hb : Nat} {um : q_St} {D K : Nat → Nat → Int64} {dd : Nat → Bool} {L : Nat → Nat} {N : Nat} {ux : q_St} {x w : Nat} (g : Geo B T S C W Ls) (gl : gL B C W Ls L) (s : XS B T S C W Ls hb um D K dd ux) (hx : x < Ls) (hw : w < 8) : fX6_committedWord L N (nI x) (nI w) ux = some (D x w, ux) := by
  have hl := g.l
  have hwd := g.w
  obtain ⟨a1, a2, a3, a4, a5, a6⟩ := id g
  obtain ⟨v, s1, s2, s3⟩ := s
  have l8 : L 8 = Ls := gl.2.2.2.2.2.2.2.2.1
  obtain ⟨sp, p1, p2, p3⟩ := v_spot (N := N) g gl v hx
  unfold fX6_committedWord
  rw [if_neg (nI_pos (by omega)), l8, if_neg (nI_ge hx (by omega)), if_neg (nI_pos (by omega)), if_pos (show nI w < 8 from nI_lt (b := 8) hw (by omega)), p1, qb_s, nI_add, gl.1, qr_n (by omega) (by omega), p3 w hw]
theorem x_setWord {B T S C W Ls hb : Nat} {um : q_St} {D K : Nat → Nat → Int64} {dd : Nat → Bool} {L : Nat → Nat} {N : Nat} {ux : q_St} {x w : Nat} {v : Int64} (g : Geo B T S C W Ls) (gl : gL B C W Ls L) (s : XS B T S C W Ls hb um D K dd ux) (hx : x < Ls) (hw : w < 8) : ∃ vx, fX6_setWord L N (nI x) (nI w) v ux = some ((), vx) ∧ XS B T S C W Ls hb um D (setW K x w v) (setb dd x true) vx := by
  have hl := g.l
  have hwd := g.w
  obtain ⟨a1, a2, a3, a4, a5, a6⟩ := id g
  obtain ⟨hv, s1, s2, s3⟩ := id s
  have l8 : L 8 = Ls := gl.2.2.2.2.2.2.2.2.1
  have l7 : L 7 = Ls * 8 := gl.2.2.2.2.2.2.2.1
  have hc : cnt dd Ls ≤ Ls := cnt_le dd Ls
  have fin : ∀ u, fX6_setWord_b78 L N (nI x) (nI w) v u = some ((), q_sj u 2 (vp_updL (q_j u 2) (x * 8 + w) v)) := by
    intro u
    unfold fX6_setWord_b78
    rw [show nI x * (8 : Int32) = nI (x * 8) from pk_mul x 8, nI_add, l7, qw_n (by omega) (by omega), cl_n (by omega)]
  unfold fX6_setWord
  rw [if_neg (nI_pos (by omega)), l8, if_neg (nI_ge hx (by omega)), if_neg (nI_pos (by omega)), if_pos (show nI w < 8 from nI_lt (b := 8) hw (by omega)), qr_n hx (by omega), s1 x hx]
  cases hd : dd x with
  | true =>
    rw [b2i_t, if_neg (by decide), fin]
    refine ⟨_, rfl, VV_fr hv (fun _ _ _ _ _ _ => rfl) (fun _ _ => rfl) rfl (fun _ _ => rfl) (fun _ _ => rfl), ?_, ?_, ?_⟩
    · rw [setb_id hd]; exact s1
    · rw [setb_id hd]; exact s2
    · intro y j hy hj
      rw [setb_id hd, qj_eq]
      have e := s3 y j hy hj
      by_cases c : y = x ∧ j = w
      · rw [c.1, c.2, setW_s, hd, if_pos rfl, upL_s]
      · rw [setW_n c, upL_n (by omega)]
        exact e
  | false =>
    obtain ⟨sp, p1, p2, p3⟩ := v_spot (N := N) g gl hv hx
    rw [b2i_f, if_pos rfl, p1, qb_s, show nI x * (8 : Int32) = nI (x * 8) from pk_mul x 8, cl_n (show sp * 8 < 2 ^ 31 by omega), cl_n (show x * 8 < 2 ^ 31 by omega), show Int32.toNatClampNeg 8 = 8 from by decide]
    unfold q_cp
    rw [gl.1, l7, if_neg (by
      rw [cl_n (show sp * 8 < 2 ^ 31 by omega), cl_n (show x * 8 < 2 ^ 31 by omega), show Int32.toNatClampNeg 8 = 8 from by decide]
      rintro ((h1 | h1 | h1) | h1)
      · exact nI_pos (by omega) h1
      · exact nI_pos (by omega) h1
      · exact absurd h1 (by decide)
      · omega)]
    dsimp only
    rw [qw_n hx (by omega), cl_n (by omega), nar_1, qn_s, fin]
    refine ⟨_, rfl, VV_fr hv (fun k _ q0 q1 _ _ => by rw [qi_sj, qi_ne q1]; rfl) (fun k q => by rw [qa_sj, qa_si, qa_ne (by omega)]; rfl) rfl (fun _ _ => rfl) (fun _ _ => rfl), ?_, ?_, ?_⟩
    · intro y hy
      show upd (q_a ux 5) x 1 y = _
      by_cases c : y = x
      · rw [c, up_s, setb_s]; rfl
      · rw [up_n c, setb_n c]; exact s1 y hy
    · show q_i ux 22 + 1 = _
      rw [s2, nI_1, cnt_set hx hd]
    · intro y j hy hj
      show (if setb dd x true y = true then vp_updL (va_cpy (q_j ux 0) (q_j ux 2) (sp * 8) (x * 8) 8) (x * 8 + w) v (y * 8 + j) else D y j) = _
      have e := s3 y j hy hj
      by_cases c : y = x ∧ j = w
      · rw [c.1, c.2, setW_s, setb_s, if_pos rfl, upL_s]
      · rw [setW_n c, upL_n (by omega)]
        by_cases c1 : y = x
        · rw [c1] at e ⊢
          rw [hd, if_neg (by decide)] at e
          rw [setb_s, if_pos rfl, va8_at _ _ _ _ _ hj, p3 j hj, e]
        · rw [setb_n c1, va8_ne _ _ _ hj c1]
          exact e
theorem x_forget {B T S C W Ls hb : Nat} {um : q_St} {D K : Nat → Nat → Int64} {dd : Nat → Bool} {L : Nat → Nat} {N : Nat} {ux : q_St} {x : Nat} (g : Geo B T S C W Ls) (gl : gL B C W Ls L) (s : XS B T S C W Ls hb um D K dd ux) (hx : x < Ls) : ∃ vx, fX6_forget L N (nI x) ux = some ((), vx) ∧ XS B T S C W Ls hb um D (updD K x (D x)) (setb dd x false) vx := by
  have hl := g.l
  have hwd := g.w
  obtain ⟨hv, s1, s2, s3⟩ := id s
  have l8 : L 8 = Ls := gl.2.2.2.2.2.2.2.2.1
  have hc : cnt dd Ls ≤ Ls := cnt_le dd Ls
  unfold fX6_forget
  rw [if_neg (nI_pos (by omega)), l8, if_neg (nI_ge hx (by omega)), qr_n hx (by omega), s1 x hx]
  have hk : ∀ u : q_St, q_j u 2 = q_j ux 2 → ∀ y w, y < Ls → w < 8 → (if setb dd x false y = true then q_j u 2 (y * 8 + w) else D y w) = updD K x (D x) y w := by
    intro u hu y w hy hw
    unfold updD
    by_cases c : y = x
    · rw [c, setb_s, if_neg (by decide), if_pos rfl]
    · rw [setb_n c, if_neg c, hu]
      exact s3 y w hy hw
  cases hd : dd x with
  | false =>
    rw [b2i_f, if_pos rfl]
    refine ⟨ux, rfl, hv, ?_, ?_, hk ux rfl⟩
    · rw [setb_id hd]; exact s1
    · rw [setb_id hd]; exact s2
  | true =>
    have h1 := cnt_clr hx hd
    rw [b2i_t, if_neg (by decide), qw_n hx (by omega), cl_n (by omega), nar_0, qn_s]
    refine ⟨_, rfl, VV_fr hv (fun k _ q0 q1 _ _ => qi_ne q1) (fun k q => by rw [qa_si, qa_ne (by omega)]) rfl (fun _ _ => rfl) (fun _ _ => rfl), ?_, ?_, hk _ rfl⟩
    · intro y hy
      show upd (q_a ux 5) x 0 y = _
      by_cases c : y = x
      · rw [c, up_s, setb_s]; rfl
      · rw [up_n c, setb_n c]; exact s1 y hy
    · show q_i ux 22 - 1 = _
      rw [s2, show nI (cnt dd Ls) - (1 : Int32) = nI (cnt dd Ls - 1) from pk_sub (b := 1) (by omega)]
      congr 1
      omega
theorem x_clearL {L : Nat → Nat} {N Ls x : Nat} (l7 : L 7 = Ls * 8) (hl : Ls ≤ 2048) (hx : x < Ls) : ∀ (k w n : Nat) (u : q_St), w + k = 8 → k < n → ∃ f, q_lp (fX6_clear_b42 L N) (fun _ _ _ => none) n (nI x) (nI w) u = some ((), q_sj u 2 f) ∧ (∀ j, x * 8 + w ≤ j → j < x * 8 + 8 → f j = 0) ∧ (∀ j, (j < x * 8 + w ∨ x * 8 + 8 ≤ j) → f j = q_j u 2 j) := by
  intro k
  induction k with
  | zero =>
    intro w n u h1 h2
    refine ⟨q_j u 2, ?_, fun j q1 q2 => by omega, fun _ _ => rfl⟩
    have e : q_sj u 2 (q_j u 2) = u := by
      unfold q_sj q_j
      refine Prod.ext rfl (Prod.ext rfl (funext fun j => ?_))
      show (if j = 2 then u.2.2 2 else u.2.2 j) = u.2.2 j
      split
      · rename_i e; rw [e]
      · rfl
    rw [e, lp_1 _ _ (by omega), fX6_clear_b42, if_pos (show (8 : Int32) ≤ nI w from nI_le (a := 8) (by omega) (by omega))]
  | succ k ih =>
    intro w n u h1 h2
    obtain ⟨f, f1, f2, f3⟩ := ih (w + 1) (n - 1) (q_sj u 2 (vp_updL (q_j u 2) (x * 8 + w) 0)) (by omega) (by omega)
    refine ⟨f, ?_, fun j q1 q2 => ?_, fun j q1 => ?_⟩
    · rw [lp_1 _ _ (by omega), fX6_clear_b42, if_neg (show ¬ (8 : Int32) ≤ nI w from nI_ge (a := w) (b := 8) (by omega) (by omega)), show nI x * (8 : Int32) = nI (x * 8) from pk_mul x 8, nI_add, l7, qw_n (by omega) (by omega), cl_n (by omega), qn_s, nI_1, f1, sj_sj]
    · by_cases c : j = x * 8 + w
      · rw [f3 j (by omega), qj_eq, c, upL_s]
      · exact f2 j (by omega) q2
    · rw [f3 j (by omega), qj_eq, upL_n (by omega)]
theorem x_clear {B T S C W Ls hb : Nat} {um : q_St} {D K : Nat → Nat → Int64} {dd : Nat → Bool} {L : Nat → Nat} {N : Nat} {ux : q_St} {x : Nat} (g : Geo B T S C W Ls) (gl : gL B C W Ls L) (hN : 300 ≤ N) (s : XS B T S C W Ls hb um D K dd ux) (hx : x < Ls) : ∃ vx, fX6_clear L N (nI x) ux = some ((), vx) ∧ XS B T S C W Ls hb um D (updD K x (fun _ => 0)) (setb dd x true) vx := by
  have hl := g.l
  have hwd := g.w
  obtain ⟨hv, s1, s2, s3⟩ := id s
  have l8 : L 8 = Ls := gl.2.2.2.2.2.2.2.2.1
  have l7 : L 7 = Ls * 8 := gl.2.2.2.2.2.2.2.1
  have hc : cnt dd Ls ≤ Ls := cnt_le dd Ls
  have hk : ∀ f : Nat → Int64, (∀ j, x * 8 + 0 ≤ j → j < x * 8 + 8 → f j = 0) → (∀ j, (j < x * 8 + 0 ∨ x * 8 + 8 ≤ j) → f j = q_j ux 2 j) → ∀ y w, y < Ls → w < 8 → (if setb dd x true y = true then f (y * 8 + w) else D y w) = updD K x (fun _ => 0) y w := by
    intro f f2 f3 y w hy hw
    unfold updD
    by_cases c : y = x
    · rw [c, setb_s, if_pos rfl, if_pos rfl, f2 _ (by omega) (by omega)]
    · rw [setb_n c, if_neg c, f3 _ (by omega)]
      exact s3 y w hy hw
  unfold fX6_clear fX6_clear_b40
  rw [if_neg (nI_pos (by omega)), l8, if_pos (nI_lt hx (by omega)), qr_n hx (by omega), s1 x hx]
  cases hd : dd x with
  | true =>
    obtain ⟨f, f1, f2, f3⟩ := x_clearL (N := N) l7 hl.2 hx 8 0 N ux (by omega) (by omega)
    rw [b2i_t, if_neg (by decide), show (0 : Int32) = nI 0 from rfl, f1]
    refine ⟨_, rfl, VV_fr hv (fun _ _ _ _ _ _ => rfl) (fun _ _ => rfl) rfl (fun _ _ => rfl) (fun _ _ => rfl), ?_, ?_, fun y w hy hw => by rw [qj_eq]; exact hk f f2 f3 y w hy hw⟩
    · rw [setb_id hd]; exact s1
    · rw [setb_id hd]; exact s2
  | false =>
    rw [b2i_f, if_pos rfl, qw_n hx (by omega), cl_n (by omega), nar_1, qn_s]
    obtain ⟨f, f1, f2, f3⟩ := x_clearL (N := N) l7 hl.2 hx 8 0 N (q_si (q_sa ux 5 (upd (q_a ux 5) x 1)) 22 (q_i (q_sa ux 5 (upd (q_a ux 5) x 1)) 22 + 1)) (by omega) (by omega)
    rw [show (0 : Int32) = nI 0 from rfl, f1]
    refine ⟨_, rfl, VV_fr hv (fun k _ q0 q1 _ _ => by rw [qi_sj, qi_ne q1]; rfl) (fun k q => by rw [qa_sj, qa_si, qa_ne (by omega)]) rfl (fun _ _ => rfl) (fun _ _ => rfl), ?_, ?_, fun y w hy hw => by rw [qj_eq]; exact hk f f2 f3 y w hy hw⟩
    · intro y hy
      show upd (q_a ux 5) x 1 y = _
      by_cases c : y = x
      · rw [c, up_s, setb_s]; rfl
      · rw [up_n c, setb_n c]; exact s1 y hy
    · show q_i ux 22 + 1 = _
      rw [s2, nI_1, cnt_set hx hd]
