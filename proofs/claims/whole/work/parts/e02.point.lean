/-! ===== point ===== -/
/-- the length in a NODE's first word -/
def slW (r : Int64) (len : Nat) : Int64 := (r &&& 4294967295) ||| (q_lshl (Int32.toInt64 (nI len)) 32)
theorem slW_u {r : Int64} {len : Nat} (h : len < 2 ^ 31) : uN (slW r len) = len * 2 ^ 32 + uN r % 2 ^ 32 := by
  have hm : uN r % 2 ^ 32 < 2 ^ 32 := Nat.mod_lt _ (by decide)
  have e0 : uN (slW r len) = uN ((r &&& 4294967295) ||| (q_lshl (Int32.toInt64 (nI len)) (nI 32))) := rfl
  have e1 : (len <<< 32) % 2 ^ 64 = len <<< 32 := Nat.mod_eq_of_lt (by rw [Nat.shiftLeft_eq]; omega)
  rw [e0, uN_or, uN_and, uN_lshl _ (by decide), uN_i2l h, show uN 4294967295 = 2 ^ 32 - 1 from by decide +kernel, Nat.and_two_pow_sub_one_eq_mod, e1, Nat.or_comm, ← Nat.shiftLeft_add_eq_or_of_lt hm, Nat.shiftLeft_eq]
theorem slW_hi {r : Int64} {len : Nat} (h : len < 2 ^ 31) : uN (slW r len) >>> 32 = len := by
  rw [slW_u h, sh_div]
  omega
theorem slW_oc {r : Int64} {len j : Nat} (h : len < 2 ^ 31) (hj : j < 4) : ocN (slW r len) j = ocN r j := by
  unfold ocN
  rw [slW_u h, sh_div, sh_div]
  have : j = 0 ∨ j = 1 ∨ j = 2 ∨ j = 3 := by omega
  rcases this with e | e | e | e <;> (subst e; omega)
theorem x_setLen {B T S C W Ls na hb n len : Nat} {um : q_St} {D K : Nat → Nat → Int64} {dd : Nat → Bool} {L : Nat → Nat} {N : Nat} {ux : q_St} (g : Geo B T S C W Ls) (gl : gL B C W Ls L) (hna : na = 80 + (Ls + 511) / 512) (s : XS B T S C W Ls hb um D K dd ux) (hn : n < 64) : ∃ vx, fX4_setLength L N (nI n) (nI len) ux = some ((), vx) ∧ XS B T S C W Ls hb um D (setW K (na + n) 0 (slW (K (na + n) 0) len)) (setb dd (na + n) true) vx := by
  have hl := g.l
  have e30 : q_i ux 30 = nI na := by rw [s.1.gx.2.2.2.2.2.2.2.2.2.2.2.1, hna]
  obtain ⟨u2, b1, b2⟩ := x_setWord (N := N) (v := slW (K (na + n) 0) len) g gl s (x := na + n) (w := 0) (by omega) (by omega)
  have hw : fX6_word L N (nI (na + n)) 0 ux = some (K (na + n) 0, ux) := x_word (w := 0) g gl s (by omega) (by decide)
  have b1 : fX6_setWord L N (nI (na + n)) 0 ((K (na + n) 0 &&& 4294967295) ||| (q_lshl (Int32.toInt64 (nI len)) 32)) ux = some ((), u2) := b1
  refine ⟨u2, ?_, b2⟩
  unfold fX4_setLength
  rw [e30, nI_add, hw, qb_s, qn_s, e30, nI_add, b1, qb_s]
/-- bytes on the tape -/
def tb (ux : q_St) (i : Nat) : Nat := (q_a ux 8 i).toNatClampNeg
theorem x_tape {B C W Ls n i : Nat} {L : Nat → Nat} {N : Nat} {u : q_St} {b : Nat → Nat} (gl : gL B C W Ls L) (h32 : q_i u 32 = nI n) (hn : n ≤ 1280) (hb : ∀ i, i < n → q_a u 8 i = nI (b i)) (hi : i < n) : fX7_byteOf_8 L N (nI i) u = some (nI (b i), u) := by
  have l13 : L 13 = 1280 := gl.2.2.2.2.2.2.2.2.2.2.2.2.2.1
  unfold fX7_byteOf_8
  rw [if_neg (nI_pos (by omega)), h32, if_neg (nI_ge hi (by omega)), l13, if_neg (nI_ge (by omega) (by omega)), qr_n (by omega) (by omega), hb i hi]
theorem x_text {B T S C W Ls na hb n len : Nat} {um : q_St} {D : Nat → Nat → Int64} {dd : Nat → Bool} {L : Nat → Nat} {N : Nat} {b : Nat → Nat} (g : Geo B T S C W Ls) (gl : gL B C W Ls L) (hna : na = 80 + (Ls + 511) / 512) (hn : n < 64) (hlen : len ≤ 40) (hbb : ∀ i, i < len → b i < 256) (hdd : dd (na + n) = true) : ∀ (k i m : Nat) (K : Nat → Nat → Int64) (ux : q_St), i + k = len → k < m → XS B T S C W Ls hb um D K dd ux → q_i ux 32 = nI len → (∀ i, i < len → q_a ux 8 i = nI (b i)) → (∀ j, j < i → sO (K (na + n)) (24 + j) = b j) → ∃ vx K2, q_lp (fX4_setText_8_b13 L N) (fun _ _ _ _ => none) m (nI n) (nI len) (nI i) ux = some ((), vx) ∧ XS B T S C W Ls hb um D K2 dd vx ∧ (∀ y w, y ≠ na + n → K2 y w = K y w) ∧ K2 (na + n) 0 = slW (K (na + n) 0) len ∧ (∀ j, j < len → sO (K2 (na + n)) (24 + j) = b j) ∧ Fr [13, 22] [5] [2] ux vx := by
  have hl := g.l
  intro k
  induction k with
  | zero =>
    intro i m K ux h1 h2 s h32 h8 hj
    have : i = len := by omega
    subst this
    obtain ⟨vx, a1, a2⟩ := x_setLen (N := N) (len := i) g gl hna s hn
    rw [setb_id hdd] at a2
    refine ⟨vx, _, ?_, a2, fun y w hy => setW_n (fun z => hy z.1), setW_s, fun j hj2 => ?_, (fr_X4_setLength a1).mono (by decide) (by decide) (by decide)⟩
    · rw [lp_1 _ _ (by omega), fX4_setText_8_b13, if_pos (nI_le (by omega) (by omega)), a1, qb_s]
    · unfold sO
      rw [setW_n (fun z => by omega)]
      exact hj j hj2
  | succ k ih =>
    intro i m K ux h1 h2 s h32 h8 hj
    have e30 : q_i ux 30 = nI na := by rw [s.1.gx.2.2.2.2.2.2.2.2.2.2.2.1, hna]
    obtain ⟨u1, a1, a2⟩ := x_setOctet (N := N) (n := b i) g gl s (x := na + n) (i := 24 + i) (by omega) (by omega)
    rw [setb_id hdd] at a2
    have f1 := fr_X6_setOctet a1
    have ho : ∀ j, sO (setO K (na + n) (24 + i) (b i) (na + n)) j = if j = 24 + i then b i else sO (K (na + n)) j := by
      intro j
      have := hO_set (K := K) (x := na + n) (i := 24 + i) (hbb i (by omega)) (na + n) j
      refine Eq.trans this ?_
      by_cases c : j = 24 + i
      · rw [if_pos ⟨rfl, c⟩, if_pos c]
      · rw [if_neg (fun z => c z.2), if_neg c]
        rfl
    obtain ⟨vx, K2, c1, c2, c3, c4, c5, c6⟩ := ih (i + 1) (m - 1) _ u1 (by omega) (by omega) a2 ((f1.1 32 (by decide)).trans h32) (fun j hj2 => by rw [f1.2.1 8 (by decide)]; exact h8 j hj2) (fun j hj2 => by
      rw [ho]
      by_cases c : j = i
      · rw [if_pos (by omega), c]
      · rw [if_neg (by omega)]; exact hj j (by omega))
    refine ⟨vx, K2, ?_, c2, fun y w hy => (c3 y w hy).trans (setO_w (fun z => hy z.1)), ?_, c5, (f1.mono (by decide) (by decide) (by decide)).trans c6⟩
    · rw [lp_1 _ _ (by omega), fX4_setText_8_b13, if_neg (nI_ge (by omega) (by omega)), x_tape gl h32 (by omega) h8 (by omega), qb_s, e30, nI_add, show (24 : Int32) + nI i = nI (24 + i) from nI_add 24 i, a1, qb_s, qn_s, nI_1]
      exact c1
    · rw [c4, setO_w (by omega)]
def txA (A : Nat → Nat → Nat) (n len : Nat) (b : Nat → Nat) : Nat → Nat → Nat := fun k j => if k = 16 ∧ 40 * n ≤ j ∧ j < 40 * n + len then b (j - 40 * n) else A k j
theorem txA_k {A : Nat → Nat → Nat} {n len k : Nat} {b : Nat → Nat} (h : k ≠ 16) : txA A n len b k = A k := by
  funext j
  unfold txA
  rw [if_neg (fun z => h z.1)]
theorem txA_o {A : Nat → Nat → Nat} {n len j : Nat} {b : Nat → Nat} (h : ¬ (40 * n ≤ j ∧ j < 40 * n + len)) : txA A n len b 16 j = A 16 j := by
  unfold txA
  rw [if_neg (fun z => h z.2)]
theorem RM_16 {Ls j b : Nat} {A : Nat → Nat → Nat} {nm : Nat → Int64} {um : q_St} (r : RM Ls A nm (q_a um) (q_j um 0)) : RM Ls (setA A 16 j b) nm (q_a (q_sa um 16 (upd (q_a um 16) j (sB b)))) (q_j (q_sa um 16 (upd (q_a um 16) j (sB b))) 0) := by
  obtain ⟨r1, r2, r3, r4, r6, r7, r8, r9⟩ := r
  have s7r : ∀ k ∈ s7, k ≠ 16 := by decide
  refine ⟨fun k hk i hi => ?_, ?_, ?_, fun i hi => ?_, ?_, ?_, ?_, ?_⟩
  · rw [qa_ne (s7r k hk), setA_k (s7r k hk)]; exact r1 k hk i hi
  · rw [qa_ne (by decide), setA_k (by decide)]; exact r2
  · rw [qa_ne (by decide), setA_k (by decide)]; exact r3
  · rw [qa_eq]
    by_cases c : i = j
    · rw [c, up_s, setA_s]
    · rw [up_n c, setA_n c]; exact r4 i hi
  · rw [qa_ne (by decide), setA_k (by decide)]; exact r6
  · rw [qa_ne (by decide), setA_k (by decide)]; exact r7
  · rw [qa_ne (by decide), setA_k (by decide)]; exact r8
  · rw [qa_ne (by decide), setA_k (by decide)]; exact r9
theorem m_text {Ls n len : Nat} {A : Nat → Nat → Nat} {nm : Nat → Int64} {N : Nat} {b : Nat → Nat} (hn : n < 64) (hlen : len ≤ 40) : ∀ (k i m : Nat) (u : q_St), i + k = len → k < m → RM Ls (txA A n i b) nm (q_a u) (q_j u 0) → (∀ i, i < len → q_a u 35 i = sB (b i)) → ∃ w, q_lp (fX11_point_b106 N) (fun _ _ _ _ => none) m (nI len) (nI n) (nI i) u = some (nI n, w) ∧ RM Ls (txA A n len b) nm (q_a w) (q_j w 0) ∧ Fr [] [16] [] u w := by
  intro k
  induction k with
  | zero =>
    intro i m u h1 h2 r h35
    have : i = len := by omega
    subst this
    exact ⟨u, by rw [lp_1 _ _ (by omega), fX11_point_b106, if_pos (nI_le (by omega) (by omega))], r, Fr.rf _ _ _ _⟩
  | succ k ih =>
    intro i m u h1 h2 r h35
    have r2 := RM_16 (j := 40 * n + i) (b := b i) r
    have e : setA (txA A n i b) 16 (40 * n + i) (b i) = txA A n (i + 1) b := by
      funext k' j
      unfold setA txA
      by_cases c : k' = 16 ∧ j = 40 * n + i
      · rw [if_pos c, if_pos (by omega), show j - 40 * n = i by omega]
      · rw [if_neg c]
        by_cases c2 : k' = 16 ∧ 40 * n ≤ j ∧ j < 40 * n + i
        · rw [if_pos c2, if_pos (by omega)]
        · rw [if_neg c2, if_neg (by omega)]
    rw [e] at r2
    obtain ⟨w, w1, w2, w3⟩ := ih (i + 1) (m - 1) _ (by omega) (by omega) r2 (fun j hj => by rw [qa_ne (by decide)]; exact h35 j hj)
    refine ⟨w, ?_, w2, (fr_sa1 u (by decide)).trans w3⟩
    rw [lp_1 _ _ (by omega), fX11_point_b106, if_neg (nI_ge (by omega) (by omega)), qr_n (by omega) (by omega), h35 i (by omega), nar_sB, show (40 : Int32) * nI n = nI (40 * n) from pk_mul 40 n, nI_add, qw_n (by omega) (by omega), cl_n (by omega), qn_s, nI_1]
    exact w1
theorem bnA_sz {A : Nat → Nat → Nat} {n k sz sz2 par own bits : Nat} : setA (bnA A n k sz par own bits) 6 n sz2 = bnA A n k sz2 par own bits := by
  funext r j
  unfold setA bnA
  by_cases c : r = 6 ∧ j = n
  · rw [if_pos c, c.1, c.2]; simp
  · rw [if_neg c]
    by_cases c2 : j = n
    · rw [if_pos c2, if_pos c2, if_neg (show ¬ r = 6 from fun z => c ⟨z, c2⟩), if_neg (show ¬ r = 6 from fun z => c ⟨z, c2⟩)]
    · rw [if_neg c2, if_neg c2]
theorem bnA_tx {A : Nat → Nat → Nat} {n k sz par own bits j0 nd len : Nat} {b : Nat → Nat} : txA (bnA (setA A 14 j0 nd) n k sz par own bits) n len b = bnA (setA (txA A n len b) 14 j0 nd) n k sz par own bits := by
  funext r j
  by_cases c : r = 16
  · subst c
    rw [bnA_r (by decide), setA_k (by decide)]
    unfold txA
    by_cases c2 : 40 * n ≤ j ∧ j < 40 * n + len
    · rw [if_pos ⟨rfl, c2⟩, if_pos ⟨rfl, c2⟩]
    · rw [if_neg (fun z => c2 z.2), if_neg (fun z => c2 z.2), bnA_r (by decide), setA_k (by decide)]
  · rw [txA_k c]
    unfold bnA setA
    rw [txA_k c]
/-- the tape is let go -/
theorem fin_tp {B T S C W Ls na k : Nat} {vx vm : q_St} (h : Iv B T S C W Ls na k vx vm) (h27 : q_i vm 27 = 0) : Iq B T S C W Ls na k (q_si vx 32 0) vm := by
  refine ⟨Iv_tp h (fr_si1 vx (by decide)) (Fr.rf _ _ _ _) ⟨0, 0, Or.inl rfl, by decide, qi_eq, h27, fun i hi => absurd hi (Nat.not_lt_zero _)⟩, ?_⟩
  rw [qi_eq, h27]
/-- how a call with the tape begins -/
theorem tp_beg {B T S C W Ls na k : Nat} {ux um : q_St} (h : Iq B T S C W Ls na k ux um) : ∃ n, n ≤ 1280 ∧ q_i um 27 = nI n ∧ q_i ux 32 = nI n ∧ (∀ i, i < n → tb ux i < 256 ∧ q_a ux 8 i = nI (tb ux i) ∧ q_a um 35 i = sB (tb ux i)) ∧ Iv B T S C W Ls na k ux (q_si um 27 0) := by
  obtain ⟨hI, eq⟩ := h
  obtain ⟨sm, D, kv, Ak, nk, al, on⟩ := id hI
  obtain ⟨n, m, n0, n1, n2, n3, n4⟩ := al.2.2.2.2.2.2.1
  have emn : m = n := by
    rw [n2, n3] at eq
    exact (nI_inj (by omega) (by omega) eq).symm
  subst emn
  refine ⟨m, n1, n3, n2, fun i hi => ?_, Iv_tp hI (Fr.rf _ _ _ _) (fr_si1 um (by decide)) ⟨m, 0, Or.inr rfl, n1, n2, qi_eq, fun i hi => n4 i hi⟩⟩
  obtain ⟨b, b1, b2, b3⟩ := n4 i hi
  have e : tb ux i = b := by unfold tb; rw [b2, cl_n (by omega)]
  rw [e]
  exact ⟨b1, b2, b3⟩
theorem p_point {B T S C W Ls na : Nat} {L : Nat → Nat} {N : Nat} (g : Geo B T S C W Ls) (gl : gL B C W Ls L) (hna : na = 80 + (Ls + 511) / 512) (hN : 140000 ≤ N) : st_point (Iq B T S C W Ls na) L N := by
  intro k ux um x0 v hk h
  have hl := g.l
  obtain ⟨len, n1, n2, n3, n4, hI⟩ := tp_beg h
  unfold fX10_point fX11_point
  rw [qn_s, qn_s, n2]
  rcases l_begins (N := N) g gl hna hN hk hI with ⟨vx, vm, z1, z2, z3⟩ | ⟨ux2, um2, D, kv, Ak, nk, K, dd, A, nm, z1, z2, t, c40⟩
  · have e27 : q_i vm 27 = 0 := ((fr_X11_begins z2).1 27 (by decide)).trans qi_eq
    rw [z1, z2, qb_s, qb_s, if_pos rfl, if_pos rfl]
    unfold fX10_point_b25 fX10_point_b45
    rw [if_pos (by decide), qn_s]
    exact ⟨_, _, vm, rfl, rfl, fin_tp z3 e27⟩
  · have e27 : q_i um2 27 = 0 := ((fr_X11_begins z2).1 27 (by decide)).trans qi_eq
    have e32 : q_i ux2 32 = nI len := ((fr_X6_commitOver z1).1 32 (by decide)).trans n3
    have e8 : q_a ux2 8 = q_a ux 8 := (fr_X6_commitOver z1).2.1 8 (by decide)
    have e35 : q_a um2 35 = q_a um 35 := (fr_X11_begins z2).2.1 35 (by decide)
    rw [z1, z2, qb_s, qb_s, if_neg (by decide), if_neg (by decide)]
    have x := t.x g gl hna
    have rm := t.rm
    have stay : Iq B T S C W Ls na (k + 1) (q_si ux2 32 0) um2 := fin_tp (Tn_Iv t (by omega) (by omega)) e27
    unfold fX10_enter
    obtain ⟨r, y1, y2, y3, y4⟩ := l_refAdd (N := N) t g gl hna (by omega) x0 v
    rw [y1, y2, qb_s, qb_s]
    by_cases cr : r = 0
    · obtain ⟨d, hd, e, hkd, hnm⟩ := y3 cr
      subst e
      rw [if_pos cr, if_pos cr, if_pos rfl, e32]
      by_cases c0 : len = 0
      · rw [c0, if_pos (show nI 0 = (0 : Int32) from rfl), if_pos (show nI 0 = (0 : Int32) from rfl), qb_s]
        unfold fX10_point_b25 fX10_point_b45
        rw [if_pos (by decide), qn_s]
        exact ⟨_, _, um2, rfl, rfl, stay⟩
      · rw [if_neg (nI_ne0 (by omega) (by omega)), if_neg (nI_ne0 (by omega) (by omega))]
        by_cases cl40 : len ≤ 40
        · rw [if_pos (show nI len ≤ (40 : Int32) from nI_le (b := 40) cl40 (by decide)), if_pos (show nI len ≤ (40 : Int32) from nI_le (b := 40) cl40 (by decide))]
          unfold fX10_enter_b47
          rw [x_lowestFree x (by omega), m_freeNode rm (by omega) (fun n hn => x.k4 hn), qb_s, qb_s]
          obtain ⟨n, hne⟩ : ∃ q, q = fnd (fun n => decide (A 5 n = 0)) 64 0 := ⟨_, rfl⟩
          rw [← hne]
          by_cases cn : n < 64
          · have h0 : A 5 n = 0 := by
              have := fnd_yes (fun n => decide (A 5 n = 0)) 64 0 (by omega)
              rw [← hne] at this
              exact of_decide_eq_true this
            rw [if_neg (fun z => (slX_no (by omega)).mp z cn), if_neg (fun z => (slX_no (by omega)).mp z cn)]
            unfold slX
            rw [if_pos cn]
            obtain ⟨q, w1, w2, w3⟩ := l_hasRoom (N := N) t g gl hna (by omega) hd hkd
            rw [w1, w2, qb_s, qb_s]
            cases hq : q with
            | false =>
              rw [b2i_f, if_pos rfl, if_pos rfl, qb_s]
              unfold fX10_point_b25 fX10_point_b45
              rw [if_pos (by decide), qn_s]
              exact ⟨_, _, um2, rfl, rfl, stay⟩
            | true =>
              rw [b2i_t, if_neg (by decide), if_neg (by decide)]
              obtain ⟨wx, w, hw, ew⟩ := t.wh
              obtain ⟨vx, vm, A', f, K', dd', dm, a1, a2, a3, a4, a5, a5b, a6, a7, a8, a9, a10, a11, a12, a13, a14, a15, a16, a17⟩ := l_mk (N := N) (k := 4) (m := 0) (v := v) t g gl hna (by omega) hd hkd cn h0 (by decide) ew (w3 hq)
              have a1' : ∃ u11, fX4_begin L N (nI n) 4 (q_i ux2 0) 0 ux2 = some ((), u11) ∧ fX3_add L N (nI d) v (nI n) u11 = some ((), vx) := by
                obtain ⟨r0, u11, q1, q2⟩ := q_bnd_some a1
                refine ⟨u11, ?_, q2⟩
                rw [wx, ew]
                exact q1
              obtain ⟨u11, c1, c2⟩ := a1'
              have a2' : ∃ u14, fX11_enter N (nI d) v (nI n) (-1) um2 = some ((), u14) ∧ fX11_born N (nI n) 4 (nI d) u14 = some (nI n, vm) := by
                obtain ⟨r0, u14, q1, q2⟩ := q_bnd_some a2
                exact ⟨u14, q1, q2⟩
              obtain ⟨u14, c3, c4⟩ := a2'
              rw [c1, qb_s, c2, qb_s, qb_s, c3, qb_s, c4, qb_s, qw_n cn (by decide), cl_n (by omega)]
              have v32 : q_i vx 32 = nI len := (a16.1 32 (by decide)).trans e32
              have v8 : q_a vx 8 = q_a ux 8 := (a16.2.1 8 (by decide)).trans e8
              obtain ⟨vx2, K2, d1, d2, d3, d4, d5, d6⟩ := x_text (N := N) (n := n) (len := len) (b := tb ux) g gl hna cn cl40 (fun i hi => (n4 i hi).1) a5b len 0 N K' vx (by omega) (by omega) a3 v32 (fun i hi => by rw [v8]; exact (n4 i hi).2.1) (fun j hj => absurd hj (Nat.not_lt_zero _))
              have hmin : q_min (nI len) 40 = nI len := if_neg (show ¬ (40 : Int32) < nI len from nI_nlt (a := 40) cl40 (by decide))
              have d1' : fX4_setText_8 L N (nI n) vx = some ((), vx2) := by
                unfold fX4_setText_8
                rw [v32, hmin, qn_s]
                exact d1
              have rm2 := RM_7 (n := n) (k0 := 6) (v := len) a6 (by decide)
              obtain ⟨um3, hum3⟩ : ∃ q, q = q_sa vm 6 (upd (q_a vm 6) n (nI len)) := ⟨_, rfl⟩
              rw [← hum3, bnA_sz] at rm2
              have t0 : ∀ X : Nat → Nat → Nat, txA X n 0 (tb ux) = X := fun X => by
                funext k' j
                unfold txA
                rw [if_neg (by omega)]
              obtain ⟨w5, p1, p2, p3⟩ := m_text (N := N) (n := n) (len := len) (b := tb ux) cn cl40 len 0 N um3 (by omega) (by omega) (by rw [t0]; exact rm2) (fun i hi => by rw [hum3, qa_ne (by decide), a17.2.1 35 (by decide), e35]; exact (n4 i hi).2.2)
              rw [bnA_tx] at p2
              unfold fX10_point_b25 fX10_point_b45
              have p1 : q_lp (fX11_point_b106 N) (fun _ _ _ _ => none) N (nI len) (nI n) 0 um3 = some (nI n, w5) := p1
              rw [← hum3, p1, if_neg (nI_pos (by omega)), d1', qb_s, qn_s]
              have f3 : Fr [] [6] [] vm um3 := by rw [hum3]; exact fr_sa1 _ (by decide)
              have m27 : q_i w5 27 = 0 := by
                rw [p3.1 27 (by decide), f3.1 27 (by decide), a17.1 27 (by decide), e27]
              have ms5 : MS Ls dm w5 := ⟨by rw [p3.2.1 33 (by decide), f3.2.1 33 (by decide)]; exact a4.1, by rw [p3.1 25 (by decide), f3.1 25 (by decide)]; exact a4.2⟩
              have tk : ∀ k', k' ≠ 16 → txA A' n len (tb ux) k' = A' k' := fun k' h' => txA_k h'
              have twx : TW B W Ls (na + 64) (txA A' n len (tb ux)) nm := by
                obtain ⟨t1, t2, t3, t4⟩ := a8
                refine ⟨?_, ?_, ?_, ?_⟩
                · unfold TW1 at t1 ⊢
                  rw [tk 5 (by decide), tk 6 (by decide), tk 7 (by decide), tk 8 (by decide), tk 11 (by decide), tk 12 (by decide), tk 13 (by decide), tk 15 (by decide), tk 17 (by decide), tk 18 (by decide)]
                  obtain ⟨q1, q2, q3, q4, q5, q6, q7⟩ := t1
                  refine ⟨q1, q2, q3, q4, q5, fun j => ?_, q7⟩
                  unfold txA
                  split
                  · rename_i z
                    exact (n4 (j - 40 * n) (by omega)).1
                  · exact q6 j
                · unfold TW2 szp at t2 ⊢
                  rw [tk 5 (by decide), tk 6 (by decide), tk 9 (by decide), tk 10 (by decide)]
                  exact t2
                · unfold TW3 at t3 ⊢
                  rw [tl_sc (tk 5 (by decide)) (tk 8 (by decide)) (tk 9 (by decide)) (tk 10 (by decide)) (tk 13 (by decide)), tk 17 (by decide)]
                  exact t3
                · unfold TW4 at t4 ⊢
                  rw [tk 5 (by decide), tk 7 (by decide), tk 8 (by decide), tk 14 (by decide), tk 15 (by decide)]
                  simp only [upn_cg (tk 7 (by decide))]
                  exact t4
              have rxx : RXx W Ls na (setA (txA A' n len (tb ux)) 14 (48 * d + f) n) (setN nm (48 * d + f) v) K2 n := by
                have r0 := RXx_n (K2 := K2) a7 d3 hna a8.2.2.1 cn (fun m r => congrFun (congrFun (tl_sc (setA_k (by decide)) (setA_k (by decide)) (setA_k (by decide)) (setA_k (by decide)) (setA_k (by decide))) m) r)
                have sk : ∀ k', k' ≠ 16 → setA (txA A' n len (tb ux)) 14 (48 * d + f) n k' = setA A' 14 (48 * d + f) n k' := by
                  intro k' h'
                  funext j
                  unfold setA
                  rw [tk k' h']
                obtain ⟨r1, r2, r3⟩ := r0
                refine ⟨fun z hz => ?_, fun m hm hne2 => ?_, fun m r hm hne2 ht => ?_⟩
                · rw [sk 17 (by decide)]; exact r1 z hz
                · have q := r2 m hm hne2
                  obtain ⟨s1, s2, s3, s4, s5, s6⟩ := q
                  unfold mNode
                  rw [sk 5 (by decide), sk 6 (by decide), sk 7 (by decide), sk 8 (by decide), sk 9 (by decide), sk 10 (by decide), sk 11 (by decide), sk 12 (by decide), sk 13 (by decide), sk 15 (by decide)]
                  refine ⟨s1, s2, s3, s4, s5, fun z i hi => ?_⟩
                  have h40 : A' 5 m = 4 → A' 6 m ≤ 40 := fun z => (a8.1.2.2.2.1 m hm z).2
                  rw [setA_k (by decide)] at z hi
                  have := h40 z
                  rw [setA_k (by decide), txA_o (by omega), s6 (by rw [setA_k (by decide)]; exact z) i (by rw [setA_k (by decide)]; exact hi), setA_k (by decide)]
                · rw [tl_sc (sk 5 (by decide)) (sk 8 (by decide)) (sk 9 (by decide)) (sk 10 (by decide)) (sk 13 (by decide))] at ht ⊢
                  have q := r3 m r hm hne2 ht
                  unfold mRole at q ⊢
                  rw [sk 5 (by decide), sk 9 (by decide), sk 10 (by decide), sk 14 (by decide), sk 18 (by decide)]
                  exact q
              have nbx : NB W (txA A' n len (tb ux)) Ak dd' := by
                unfold NB at a15 ⊢
                rw [tl_sc (tk 5 (by decide)) (tk 8 (by decide)) (tk 9 (by decide)) (tk 10 (by decide)) (tk 13 (by decide)), tk 5 (by decide), tk 18 (by decide)]
                exact a15
              have fin : Tn B T S C W Ls na (300 * k + 200) D kv Ak nk K2 dd' (bnA (setA (txA A' n len (tb ux)) 14 (48 * d + f) n) n 4 len 0 w 52) (setN nm (48 * d + f) v) vx2 w5 := by
                refine Tn_mk t d2 ms5 a5 cn (by rw [tk 5 (by decide), a9]; exact h0) hd (by rw [tk 5 (by decide), a9]; exact hkd) (Or.inr (Or.inr ⟨rfl, by omega, cl40⟩)) (by decide) hw (by decide) (isNm_ok hnm) twx (by rw [tk 8 (by decide)]; exact a10) (by rw [tk 14 (by decide)]; exact a11) p2 rxx ?_ (by rw [tk 17 (by decide)]; exact a14) nbx ((d6.1 7 (by decide)).trans (a16.1 7 (by decide))) ((d6.1 24 (by decide)).trans (a16.1 24 (by decide))) ((d6.1 0 (by decide)).trans (a16.1 0 (by decide))) ?_ (fun q q1 q2 q3 => ?_) (fun q q1 q2 q3 => ?_) ?_
                · have w0 : K2 (na + n) 0 = slW (bgW 4 w 0 0) len := by rw [d4, a12, setW_s]; rfl
                  obtain ⟨b1, b2, b3, b4, b5⟩ := bg_facts (k := 4) (w := w) (m := 0) (one := 0) (by decide) hw (by decide) (Or.inl rfl)
                  unfold mNode
                  rw [bnA_5, bnA_6, bnA_11, w0, slW_oc (by omega) (by decide), slW_oc (by omega) (by decide), slW_oc (by omega) (by decide), slW_oc (by omega) (by decide), slW_hi (by omega), b1, b2, b3, b4, bnA_r (r := 16) (by decide), setA_k (show (16 : Nat) ≠ 14 by decide)]
                  refine ⟨rfl, fun _ => ⟨rfl, by rw [if_pos rfl], by rw [if_neg (by decide)], by rw [if_pos (by decide)]⟩, fun z => absurd z (by decide), fun z => absurd z (by decide), fun z => absurd z (by decide), fun _ i hi => ?_⟩
                  rw [d5 i hi]
                  unfold txA
                  rw [if_pos (by omega), show 40 * n + i - 40 * n = i by omega]
                · refine ⟨len, 0, Or.inr rfl, n1, (d6.1 32 (by decide)).trans v32, m27, fun i hi => ⟨tb ux i, (n4 i hi).1, ?_, ?_⟩⟩
                  · rw [d6.2.1 8 (by decide), v8]; exact (n4 i hi).2.1
                  · rw [p3.2.1 35 (by decide), f3.2.1 35 (by decide), a17.2.1 35 (by decide), e35]; exact (n4 i hi).2.2
                · rw [p3.1 q (by simp), f3.1 q (by simp)]
                  exact a17.1 q (by simp only [List.mem_cons, List.not_mem_nil, or_false]; omega)
                · rw [p3.2.1 q (by simp only [List.mem_cons, List.not_mem_nil, or_false]; omega), f3.2.1 q (by simp only [List.mem_cons, List.not_mem_nil, or_false]; omega)]
                  exact a17.2.1 q (by simp only [List.mem_cons, List.not_mem_nil, or_false]; omega)
                · rw [p3.2.2 1 (by decide), f3.2.2 1 (by decide)]
                  exact a17.2.2 1 (by decide)
              exact ⟨_, _, w5, rfl, rfl, fin_tp (Tn_Iv fin (by omega) (by omega)) m27⟩
          · rw [if_pos ((slX_no (by omega)).mpr cn), if_pos ((slX_no (by omega)).mpr cn), qb_s]
            unfold fX10_point_b25 fX10_point_b45
            rw [if_pos (by decide), qn_s]
            exact ⟨_, _, um2, rfl, rfl, stay⟩
        · rw [if_neg (show ¬ nI len ≤ (40 : Int32) from nI_ge (a := 40) (by omega) (by omega)), if_neg (show ¬ nI len ≤ (40 : Int32) from nI_ge (a := 40) (by omega) (by omega)), qb_s]
          unfold fX10_point_b25 fX10_point_b45
          rw [if_pos (by decide), qn_s]
          exact ⟨_, _, um2, rfl, rfl, stay⟩
    · rw [if_neg cr, if_neg cr, qb_s]
      unfold fX10_point_b25 fX10_point_b45
      rw [if_pos (y4 cr), qn_s]
      exact ⟨_, _, um2, rfl, rfl, stay⟩
