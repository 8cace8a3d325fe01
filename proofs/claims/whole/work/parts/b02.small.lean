/-! ===== feed, as, clean ===== -/
theorem nar_by (x : Int32) : vp_nar .byte x = Int8.toInt32 (Int32.toInt8 x) := rfl
def bN (x : Int32) (s : Nat) : Nat := (x.toBitVec.toNat >>> s) % 256
theorem bN_lt (x : Int32) (s : Nat) : bN x s < 256 := Nat.mod_lt _ (by decide)
theorem nI_bv (n : Nat) : (nI n).toBitVec = BitVec.ofNat 32 n := rfl
theorem nar_idem (y : Int8) : vp_nar .byte (Int8.toInt32 y) = Int8.toInt32 y := by
  rw [nar_by]
  congr 1
  simp
theorem byX (x : Int32) {s : Nat} (h : s = 0 ∨ s = 8 ∨ s = 16 ∨ s = 24) : (q_iush x (nI s)) &&& 255 = nI (bN x s) := by
  refine Int32.toBitVec_inj.1 (BitVec.eq_of_toNat_eq ?_)
  have e : (q_iush x (nI s)).toBitVec.toNat = x.toBitVec.toNat >>> s := by
    show (x.toUInt32 >>> ((nI s).toUInt32 &&& Int32.toUInt32 31)).toNat = x.toUInt32.toNat >>> s
    rw [UInt32.toNat_shiftRight]
    congr 1
    rcases h with h | h | h | h <;> (subst h; decide +kernel)
  rw [Int32.toBitVec_and, BitVec.toNat_and, e, nI_bv, BitVec.toNat_ofNat, show (255 : Int32).toBitVec.toNat = 2 ^ 8 - 1 from by decide, Nat.and_two_pow_sub_one_eq_mod]
  have := bN_lt x s
  unfold bN at this ⊢
  omega
theorem byM (x : Int32) {s : Nat} (h : s = 0 ∨ s = 8 ∨ s = 16 ∨ s = 24) : vp_nar .byte (Int8.toInt32 (Int32.toInt8 (x >>> (nI s &&& 31)))) = sB (bN x s) := by
  have hs : s ≤ 24 := by omega
  rw [nar_idem]
  unfold sB
  rw [nar_by]
  congr 1
  refine Int8.toBitVec_inj.1 ?_
  rw [Int32.toBitVec_toInt8, Int32.toBitVec_toInt8, Int32.toBitVec_shiftRight, nI_bv]
  have e : (((BitVec.ofNat 32 s : BitVec 32) &&& (31 : Int32).toBitVec).smod 32).toNat = s := by
    rcases h with h | h | h | h <;> (subst h; decide +kernel)
  have e2 : (nI s &&& 31).toBitVec = (BitVec.ofNat 32 s) &&& (31 : Int32).toBitVec := by rw [Int32.toBitVec_and, nI_bv]
  rw [e2, BitVec.signExtend_eq_setWidth_of_le _ (by decide), BitVec.signExtend_eq_setWidth_of_le _ (by decide), BitVec.sshiftRight_eq', e]
  refine BitVec.eq_of_getLsbD_eq fun i hi => ?_
  rw [BitVec.getLsbD_setWidth, BitVec.getLsbD_setWidth, BitVec.getLsbD_sshiftRight, BitVec.getLsbD_ofNat]
  have h1 : s + i < 32 := by omega
  have h2 : ¬ 32 ≤ i := by omega
  have h3 : i < 32 := by omega
  unfold bN
  rw [show 256 = 2 ^ 8 from rfl, Nat.testBit_mod_two_pow, Nat.testBit_shiftRight]
  simp [h1, h2, h3, hi, BitVec.getLsbD]
/-- the tapes, n bytes long -/
def TP (n : Nat) (ux um : q_St) : Prop := n ≤ 1280 ∧ q_i ux 32 = nI n ∧ q_i um 27 = nI n ∧ ∀ i, i < n → ∃ b, b < 256 ∧ q_a ux 8 i = nI b ∧ q_a um 35 i = sB b
theorem l_app1 {B C W Ls n : Nat} {L : Nat → Nat} {N : Nat} {ux um : q_St} (gl : gL B C W Ls L) (t : TP n ux um) (hn : n < 1280) (x : Int32) {s : Nat} (h : s = 0 ∨ s = 8 ∨ s = 16 ∨ s = 24) (m : Nat) (hm : 0 < m) :
    ∃ vx vm, q_lp (fX7_append_8_b3 L N) (fun _ _ _ => none) m x (nI s) ux = q_lp (fX7_append_8_b3 L N) (fun _ _ _ => none) (m - 1) x (nI s + (-8)) vx ∧ q_lp (fX11_tape_b3 N) (fun _ _ _ => none) m x (nI s) um = q_lp (fX11_tape_b3 N) (fun _ _ _ => none) (m - 1) x (nI s + (-8)) vm ∧ TP (n + 1) vx vm := by
  obtain ⟨t0, t1, t2, t3⟩ := t
  have hs : ¬ nI s < 0 := nI_pos (by omega)
  rw [lp_1 (fX7_append_8_b3 L N) _ hm, fX7_append_8_b3, if_neg hs, t1, gl.2.2.2.2.2.2.2.2.2.2.2.2.2.1, if_neg (nI_ge hn (by omega)), qw_n (by omega) (by omega), qn_s, cl_n (by omega), byX x h]
  unfold fX7_append_8_b45
  rw [qn_s]
  rw [lp_1 (fX11_tape_b3 N) _ hm, fX11_tape_b3, if_neg hs, t2, qw_n (by omega) (by omega), qn_s, qn_s, cl_n (by omega), byM x h]
  refine ⟨_, _, rfl, rfl, by omega, ?_, ?_, fun i hi => ?_⟩
  · show q_i ux 32 + 1 = _
    rw [t1, nI_1]
  · show q_i um 27 + 1 = _
    rw [t2, nI_1]
  · show ∃ b, b < 256 ∧ upd (q_a ux 8) n (nI (bN x s)) i = nI b ∧ upd (q_a um 35) n (sB (bN x s)) i = sB b
    by_cases c : i = n
    · rw [c, up_s, up_s]
      exact ⟨bN x s, bN_lt x s, rfl, rfl⟩
    · rw [up_n c, up_n c]
      exact t3 i (by omega)
theorem l_app {B C W Ls n : Nat} {L : Nat → Nat} {N : Nat} {ux um : q_St} (gl : gL B C W Ls L) (hN : 300 ≤ N) (t : TP n ux um) (hn : n + 4 ≤ 1280) (x : Int32) : ∃ vx vm, fX7_append_8 L N x ux = some ((), vx) ∧ fX11_tape N x um = some ((), vm) ∧ TP (n + 4) vx vm := by
  obtain ⟨x1, m1, a1, b1, t1⟩ := l_app1 (N := N) gl t (by omega) x (s := 24) (by omega) N (by omega)
  obtain ⟨x2, m2, a2, b2, t2⟩ := l_app1 (N := N) gl t1 (by omega) x (s := 16) (by omega) (N - 1) (by omega)
  obtain ⟨x3, m3, a3, b3, t3⟩ := l_app1 (N := N) gl t2 (by omega) x (s := 8) (by omega) (N - 1 - 1) (by omega)
  obtain ⟨x4, m4, a4, b4, t4⟩ := l_app1 (N := N) gl t3 (by omega) x (s := 0) (by omega) (N - 1 - 1 - 1) (by omega)
  rw [show nI 24 + (-8) = nI 16 from by decide] at a1 b1
  rw [show nI 16 + (-8) = nI 8 from by decide] at a2 b2
  rw [show nI 8 + (-8) = nI 0 from by decide] at a3 b3
  rw [show nI 0 + (-8) = (-8 : Int32) from by decide] at a4 b4
  refine ⟨x4, m4, ?_, ?_, t4⟩
  · unfold fX7_append_8
    refine a1.trans (a2.trans (a3.trans (a4.trans ?_)))
    rw [lp_1 _ _ (by omega), fX7_append_8_b3, if_pos (by decide)]
  · unfold fX11_tape
    refine b1.trans (b2.trans (b3.trans (b4.trans ?_)))
    rw [lp_1 _ _ (by omega), fX11_tape_b3, if_pos (by decide)]
theorem p_feed {B T S C W Ls na : Nat} {L : Nat → Nat} {N : Nat} (gl : gL B C W Ls L) (hN : 300 ≤ N) : st_feed (Iq B T S C W Ls na) L N := by
  intro k ux um x0 x1 x2 x3 x4 hk hq
  obtain ⟨h, eq⟩ := hq
  obtain ⟨sm, D, kv, Ak, nk, al, on⟩ := id h
  obtain ⟨n, m, a0, a1, a2, a3, a4⟩ := al.2.2.2.2.2.2.1
  have emn : m = n := by
    rw [a2, a3] at eq
    exact (nI_inj (by omega) (by omega) eq).symm
  subst emn
  have tp : TP m ux um := ⟨a1, a2, a3, a4⟩
  obtain ⟨n1, n2, n3, n4⟩ := id tp
  unfold fX10_feed fX11_feed
  rw [n2, n3, show nI m + (20 : Int32) = nI (m + 20) from nI_add m 20]
  by_cases c : m + 20 ≤ 1280
  · rw [if_pos (show nI (m + 20) ≤ (1280 : Int32) from nI_le (b := 1280) c (by omega)), if_pos (show nI m ≤ (1260 : Int32) from nI_le (b := 1260) (by omega) (by omega))]
    obtain ⟨u1, w1, a1, b1, t1⟩ := l_app (N := N) gl hN tp (by omega) x0
    obtain ⟨u2, w2, a2, b2, t2⟩ := l_app (N := N) gl hN t1 (by omega) x1
    obtain ⟨u3, w3, a3, b3, t3⟩ := l_app (N := N) gl hN t2 (by omega) x2
    obtain ⟨u4, w4, a4, b4, t4⟩ := l_app (N := N) gl hN t3 (by omega) x3
    obtain ⟨u5, w5, a5, b5, t5⟩ := l_app (N := N) gl hN t4 (by omega) x4
    rw [a1, qb_s, a2, qb_s, a3, qb_s, a4, qb_s, a5, qb_s, b1, qb_s, b2, qb_s, b3, qb_s, b4, qb_s, b5, qb_s]
    refine ⟨1, u5, w5, rfl, rfl, Iv_up (Iv_tp h ?_ ?_ ⟨_, _, Or.inl rfl, t5⟩), t5.2.1.trans t5.2.2.1.symm⟩
    · exact (((((fr_X7_append_8 a1).trans (fr_X7_append_8 a2)).trans (fr_X7_append_8 a3)).trans (fr_X7_append_8 a4)).trans (fr_X7_append_8 a5)).mono (by decide) (by decide) (by decide)
    · exact (((((fr_X11_tape b1).trans (fr_X11_tape b2)).trans (fr_X11_tape b3)).trans (fr_X11_tape b4)).trans (fr_X11_tape b5)).mono (by decide) (by decide) (by decide)
  · rw [if_neg (show ¬ nI (m + 20) ≤ (1280 : Int32) from nI_ge (a := 1280) (by omega) (by omega)), if_neg (show ¬ nI m ≤ (1260 : Int32) from nI_ge (a := 1260) (by omega) (by omega))]
    exact ⟨0, ux, um, rfl, rfl, Iv_up h, eq⟩
theorem Iv_wh {B T S C W Ls na k : Nat} {ux um : q_St} {c : Int32} (h : Iv B T S C W Ls na k ux um) (hw : ∃ w, w < 16 ∧ c = nI w) : Iv B T S C W Ls na k (q_si ux 0 c) (q_si um 28 c) := by
  obtain ⟨sm, D, kv, Ak, nk, al, on⟩ := h
  have v := VV_fr (vx := q_si ux 0 c) (vm := q_si um 28 c) al.1 (fun k _ q _ _ _ => qi_ne q) (fun _ _ => rfl) rfl (fun k q => qi_ne (by omega)) (fun _ _ => rfl)
  refine ⟨sm, D, kv, Ak, nk, Al_fr al v rfl rfl (fun _ _ _ _ => rfl) rfl al.2.2.2.2.2.2.1 ⟨rfl, hw⟩, ?_⟩
  rcases on with q | ⟨q1, q2⟩
  · exact Or.inl q
  · refine Or.inr ⟨q1, ?_⟩
    rw [q1] at v
    exact On_fr q2 v rfl (fun _ _ _ => rfl) rfl rfl rfl rfl rfl rfl rfl
/-- a number that isn't negative and below n -/
theorem i_nat {x : Int32} {n : Nat} (h0 : ¬ x < 0) (h1 : x < nI n) (hn : n < 2 ^ 31) : ∃ m, m < n ∧ x = nI m := by
  have a := i_nlt.mp h0
  rw [Int32.le_iff_toInt_le] at a
  rw [Int32.lt_iff_toInt_lt, nI_toInt hn] at h1
  have a2 : (0 : Int32).toInt = 0 := by decide
  refine ⟨x.toInt.toNat, by omega, Int32.toInt_inj.mp ?_⟩
  rw [nI_toInt (by omega)]
  omega
theorem p_as {B T S C W Ls na : Nat} {L : Nat → Nat} {N : Nat} : st_as (Iv B T S C W Ls na) L N := by
  intro k ux um x0 hk h
  have e9 := Iv_on h
  obtain ⟨sm, D, kv, Ak, nk, al, on⟩ := id h
  obtain ⟨w1, -⟩ := al.2.2.2.2.2.2.2
  unfold fX10_as fX11_as
  rw [e9]
  by_cases c0 : q_i ux 7 = 0
  · rw [if_pos c0, if_pos c0]
    exact ⟨-99, ux, um, rfl, rfl, Iv_up h⟩
  · rw [if_neg c0, if_neg c0]
    by_cases c1 : x0 < 0
    · rw [if_pos c1, if_pos c1]
      exact ⟨-15, ux, um, rfl, rfl, Iv_up h⟩
    · rw [if_neg c1, if_neg c1]
      by_cases c2 : x0 < 16
      · obtain ⟨m, m1, m2⟩ := i_nat (n := 16) c1 c2 (by decide)
        rw [if_pos c2, if_pos (show x0 ≤ 15 by rw [m2]; exact nI_le (b := 15) (by omega) (by omega)), qn_s, qn_s, qn_s, qn_s, w1]
        exact ⟨_, _, _, rfl, rfl, Iv_up (Iv_wh h ⟨m, m1, m2⟩)⟩
      · rw [if_neg c2, if_neg (fun q => c2 (by
          rw [Int32.le_iff_toInt_le] at q
          rw [Int32.lt_iff_toInt_lt]
          have a1 : (15 : Int32).toInt = 15 := by decide
          have a2 : (16 : Int32).toInt = 16 := by decide
          omega))]
        exact ⟨-15, ux, um, rfl, rfl, Iv_up h⟩
theorem p_clean {B T S C W Ls na : Nat} {L : Nat → Nat} {N : Nat} (g : Geo B T S C W Ls) (gl : gL B C W Ls L) (hN : 300 ≤ N) : st_clean (Iv B T S C W Ls na) L N := by
  intro k ux um hk h
  have e9 := Iv_on h
  obtain ⟨sm, D, kv, Ak, nk, al, on⟩ := id h
  unfold fX10_clean fX11_clean
  rw [e9]
  rcases on with c0 | ⟨q1, q2⟩
  · rw [if_pos c0, if_pos c0]
    exact ⟨-99, ux, um, rfl, rfl, Iv_up h⟩
  · have c1 := q2.1
    rw [c1, if_neg (by decide), if_neg (by decide)]
    subst q1
    obtain ⟨h0, t, cl, hhb, hv, -, hd⟩ := al.1
    obtain ⟨cl2, t2, vx, vm, r, s1, s2, s3, s4, s5⟩ := l_step (N := N) g gl hN hv (fun _ => rfl)
    have fx := fr_X8_step s1
    have fm := fr_X11_step s2
    rw [s1, s2, qb_s, qb_s]
    have v2 : VV B T S C W Ls (300 * k) none D vx vm := ⟨h0, t2, cl2, hhb, s3, (fun b e => by cases e), fun x w hx hw => (s4 x w hx hw).trans (hd x w hx hw)⟩
    have tp : tpR vx vm := by
      have := al.2.2.2.2.2.2.1
      unfold tpR at this ⊢
      rw [fx.1 32 (by decide), fm.1 27 (by decide), fx.2.1 8 (by decide), fm.2.1 35 (by decide)]
      exact this
    have wh : whR vx vm := by
      have := al.2.2.2.2.2.2.2
      unfold whR at this ⊢
      rw [fx.1 0 (by decide), fm.1 28 (by decide)]
      exact this
    have al2 := Al_fr al v2 (fx.1 24 (by decide)) (fm.1 26 (by decide)) (fun k a1 a2 a3 => fm.2.1 k (by simp only [List.mem_cons, List.not_mem_nil, or_false]; omega)) (fm.2.2 1 (by decide)) tp wh
    refine ⟨r, vx, vm, rfl, rfl, Iv_up ⟨none, D, kv, Ak, nk, al2, ?_⟩⟩
    rcases s5 with ⟨s6, s7⟩ | ⟨s6, s7, s8⟩
    · exact Or.inl s7
    · exact Or.inr ⟨rfl, On_fr q2 v2 s7 (fun k a1 a2 => fm.2.1 k (by simp only [List.mem_cons, List.not_mem_nil, or_false]; omega)) (fm.2.1 31 (by decide)) (fm.2.1 33 (by decide)) (fm.1 25 (by decide)) (fm.2.2 0 (by decide)) (fx.2.1 5 (by decide)) (fx.1 22 (by decide)) (fx.2.2 2 (by decide))⟩
