/-! ===== put into a LAID FILE ===== -/
theorem l_putL {B T S C W Ls na hb n a len base : Nat} {um : q_St} {D K0 : Nat → Nat → Int64} {d0 : Nat → Bool} {L : Nat → Nat} {N : Nat} {ux : q_St} {b : Nat → Nat} (g : Geo B T S C W Ls) (gl : gL B C W Ls L) (hna : na = 80 + (Ls + 511) / 512) (hn : n < 64) (hlen : len ≤ 1280) (haW : a + len ≤ 64 * W) (hbL : base + W ≤ Ls) (hb64 : na + 64 ≤ base) (hho : sH (K0 (na + n)) 18 * W = base) (hbb : ∀ i, i < len → b i < 256) (h32 : q_i ux 32 = nI len) (h8 : ∀ i, i < len → q_a ux 8 i = nI (b i)) :
    ∀ (r i m : Nat) (x5 : Int32) (K1 : Nat → Nat → Int64) (d1 : Nat → Bool) (u : q_St), len - i ≤ r → i ≤ len → (i = 0 ∨ (a + i) % 64 = 0 ∨ i = len) → len - i < m → XS B T S C W Ls hb um D K1 d1 u → (∀ y j, (∀ q, q < W → y ≠ base + q) → K1 y j = K0 y j) → (∀ q o, q < W → o < 64 → sO (K1 (base + q)) o = if a ≤ 64 * q + o ∧ 64 * q + o < a + i then b (64 * q + o - a) else sO (K0 (base + q)) o) → (∀ z, d1 z = true ↔ d0 z = true ∨ ∃ i', i' < i ∧ base + (a + i') / 64 = z) → Fr [13, 22] [5] [2] ux u →
    ∃ v K2 d2, q_lp (fX0_write_8_b25 L N) (fun _ _ _ _ _ _ => none) m (nI n) (nI a) 1 x5 (nI i) u = some ((), v) ∧ XS B T S C W Ls hb um D K2 d2 v ∧ (∀ y j, (∀ q, q < W → y ≠ base + q) → K2 y j = K0 y j) ∧ (∀ q o, q < W → o < 64 → sO (K2 (base + q)) o = if a ≤ 64 * q + o ∧ 64 * q + o < a + len then b (64 * q + o - a) else sO (K0 (base + q)) o) ∧ (∀ z, d2 z = true ↔ d0 z = true ∨ ∃ i', i' < len ∧ base + (a + i') / 64 = z) ∧ Fr [13, 22] [5] [2] ux v := by
  have hl := g.l
  intro r
  induction r with
  | zero =>
    intro i m x5 K1 d1 u q1 q2 q3 q4 xs e1 e2 e3 fr
    have : i = len := by omega
    subst this
    refine ⟨u, K1, d1, ?_, xs, e1, e2, e3, fr⟩
    rw [lp_1 _ _ (by omega), fX0_write_8_b25, fr.1 32 (by decide), h32, if_pos (nI_le (by omega) (by omega)), if_neg (by decide)]
  | succ r ih =>
    intro i m x5 K1 d1 u q1 q2 q3 q4 xs e1 e2 e3 fr
    by_cases ci : i = len
    · subst ci
      refine ⟨u, K1, d1, ?_, xs, e1, e2, e3, fr⟩
      rw [lp_1 _ _ (by omega), fX0_write_8_b25, fr.1 32 (by decide), h32, if_pos (nI_le (by omega) (by omega)), if_neg (by decide)]
    · obtain ⟨p, hpe⟩ : ∃ p, p = (a + i) / 64 := ⟨_, rfl⟩
      have hpW : p < W := by omega
      obtain ⟨c, hc⟩ : ∃ c, c = min (64 - (a + i) % 64) (len - i) := ⟨_, rfl⟩
      have e30 : q_i u 30 = nI na := by rw [xs.1.gx.2.2.2.2.2.2.2.2.2.2.2.1, hna]
      have e31 := xs.1.gx.2.2.2.2.2.2.2.2.2.2.2.2.1
      have hh : fX4_holderOf L N (nI n) u = some (nI (sH (K0 (na + n)) 18), u) := by
        have eK : K1 (na + n) = K0 (na + n) := by funext j; exact e1 _ _ (fun q hq => by omega)
        unfold fX4_holderOf
        rw [e30, nI_add, show (18 : Int32) = nI 18 from rfl, Xs_half g gl xs (by omega) (by omega) (by decide), qb_s, eK]
      have hlb : fX0_laidBlock L N (nI n) (nI p) u = some (nI (base + p), u) := by
        unfold fX0_laidBlock
        rw [if_neg (nI_pos (by omega)), e31, if_pos (nI_lt hpW (by omega)), hh, qb_s, e31, pk_mul, nI_add, hho]
      obtain ⟨v, K2, b1, b2, b3, b4, b5⟩ := x_pc (N := N) (x1 := nI n) (x4 := 1) (x5 := x5) (X := base + p) (m := m) (a := a) (i := i) (u := u) (b := b) g gl (by omega) hlen (by omega) hbb (by omega) (by omega) hc (by omega) ((fr.1 32 (by decide)).trans h32) (by rw [if_neg (by decide), ← hpe]; exact hlb) xs ((fr.1 32 (by decide)).trans h32) (fun j hj => by rw [fr.2.1 8 (by decide)]; exact h8 j hj)
      obtain ⟨v2, K3, d3, c1, c2, c3, c4, c5, c6⟩ := ih (i + c) (m - c) (nI (base + p)) K2 (setb d1 (base + p) true) v (by omega) (by omega) (by omega) (by omega) b2 (fun y j hy => by rw [b3 y j (hy p hpW)]; exact e1 y j hy) (fun q o hq ho => by
        by_cases cq : q = p
        · rw [cq, b4 o ho, e2 p o hpW ho]
          have hm : 64 * p + (a + i) % 64 = a + i := by omega
          by_cases c1 : (a + i) % 64 ≤ o ∧ o < (a + i) % 64 + c
          · rw [if_pos c1, if_pos (by omega), show 64 * p + o - a = i + (o - (a + i) % 64) by omega]
          · rw [if_neg c1]
            by_cases c2 : a ≤ 64 * p + o ∧ 64 * p + o < a + i
            · rw [if_pos c2, if_pos (by omega)]
            · rw [if_neg c2, if_neg (by omega)]
        · have eK : K2 (base + q) = K1 (base + q) := by funext j; exact b3 _ _ (by omega)
          rw [eK, e2 q o hq ho]
          by_cases c2 : a ≤ 64 * q + o ∧ 64 * q + o < a + i
          · rw [if_pos c2, if_pos (by omega)]
          · rw [if_neg c2, if_neg (by omega)]) (fun z => by
        rw [sbt, e3 z]
        constructor
        · rintro (h | h | ⟨i', h1, h2⟩)
          · exact Or.inr ⟨i, by omega, by rw [← hpe]; exact h.symm⟩
          · exact Or.inl h
          · exact Or.inr ⟨i', by omega, h2⟩
        · rintro (h | ⟨i', h1, h2⟩)
          · exact Or.inr (Or.inl h)
          · by_cases cc : i' < i
            · exact Or.inr (Or.inr ⟨i', cc, h2⟩)
            · left
              rw [← h2, hpe]
              omega) (fr.trans b5)
      exact ⟨v2, K3, d3, b1.trans c1, c2, c3, c4, c5, c6⟩
theorem l_putLaid {B T S C W Ls na hb n a len : Nat} {D kv : Nat → Nat → Int64} {Ak : Nat → Nat → Nat} {nk : Nat → Int64} {K : Nat → Nat → Int64} {dd : Nat → Bool} {A : Nat → Nat → Nat} {nm : Nat → Int64} {L : Nat → Nat} {N : Nat} {ux um : q_St} {b : Nat → Nat} (g : Geo B T S C W Ls) (gl : gL B C W Ls L) (hna : na = 80 + (Ls + 511) / 512) (hN : 140000 ≤ N) (t : Tn B T S C W Ls na hb D kv Ak nk K dd A nm ux um) (hn : n < 64) (h3 : A 5 n = 3) (hlen : len ≤ 1280) (hlen1 : 1 ≤ len) (hal : a + len ≤ 64 * W) (h32 : q_i ux 32 = nI len) (hb8 : ∀ i, i < len → b i < 256 ∧ q_a ux 8 i = nI (b i) ∧ q_a um 35 i = sB (b i)) :
    ∃ vx vm K2 dd2 A2, fX0_write_8 L N (nI n) (nI a) ux = some ((), vx) ∧ fX11_put_b198 N (nI n) (nI a) (nI len) um = some (nI len, vm) ∧ Tn B T S C W Ls na hb D kv Ak nk K2 dd2 A2 nm vx vm ∧ cnt dd2 Ls ≤ cnt dd Ls + 30 ∧ q_i vx 32 = nI len ∧ q_i vm 27 = q_i um 27 := by
  have hl := g.l
  have hw := g.w
  have x := t.x g gl hna
  obtain ⟨al, h7, dh, xs, ms, h80, rm, tw, rx, nb⟩ := id t
  obtain ⟨base, hbase⟩ : ∃ q, q = A 13 (12 * n) := ⟨_, rfl⟩
  have t3 := tw.2.2.1
  have htl : ∀ q, q < W → tl A W n (1114 + q) = base + q := fun q hq => by rw [tl_l h3 hq, hbase]
  have h0 := (tw.1.2.2.2.2.1 n hn h3).2.1
  rw [← hbase] at h0
  have hr : ∀ q, q < W → na + 64 ≤ base + q ∧ base + q < Ls ∧ A 17 (base + q) = 1 := fun q hq => by
    have := t3.2.1 n (1114 + q) hn (by rw [htl q hq]; omega)
    rw [htl q hq] at this
    exact this
  have hbL : base + W ≤ Ls := by
    have := hr (W - 1) (by omega)
    omega
  have hb64 := (hr 0 (by omega)).1
  have hho : sH (K (na + n)) 18 * W = base := by rw [hbase]; exact (rx.2.1 n hn).2.2.2.2.1 h3
  obtain ⟨vx, K2, d2, x1, x2, x3, x4, x5, x6⟩ := l_putL (N := N) (b := b) (K0 := K) (d0 := dd) g gl hna hn hlen hal hbL (by omega) hho (fun i hi => (hb8 i hi).1) h32 (fun i hi => (hb8 i hi).2.1) len 0 N 0 K dd ux (by omega) (by omega) (Or.inl rfl) (by omega) xs (fun _ _ _ => rfl) (fun q o _ _ => by rw [if_neg (by omega)]) (fun z => ⟨fun h => Or.inl h, fun h => by
    rcases h with h | ⟨i, h, -⟩
    · exact h
    · exact absurd h (Nat.not_lt_zero _)⟩) (Fr.rf _ _ _ _)
  obtain ⟨A2, hA2⟩ : ∃ q, q = wrA A base a len b := ⟨_, rfl⟩
  have e : ∀ k, k ≠ 18 → A2 k = A k := fun k hk => by rw [hA2]; exact wrA_k hk
  have et : tl A2 W = tl A W := tl_sc (e 5 (by decide)) (e 8 (by decide)) (e 9 (by decide)) (e 10 (by decide)) (e 13 (by decide))
  have e18 : ∀ j, A2 18 j = if 64 * base + a ≤ j ∧ j < 64 * base + a + len then b (j - (64 * base + a)) else A 18 j := fun j => by rw [hA2]; exact wrA_18
  have lo : ∀ i, i < len → 64 * (base + (a + i) / 64) + (a + i) % 64 = 64 * base + a + i := fun i hi => by omega
  obtain ⟨w4, d4, v1, v2, v3, v4, v5⟩ := m_bytes (N := N) (n := n) (a := a) (len := len) (Ax := A2) (Am := A) (nm := nm) (X := fun q => base + q) (b := b) (dm := dd) (w0 := um) (Ls := Ls) (by omega) hlen (by omega) (fun i hi => (hr _ (by omega)).2.1) (fun i hi => by
      show A2 18 (64 * (base + (a + i) / 64) + (a + i) % 64) = b i
      rw [lo i hi, e18, if_pos (by omega), show 64 * base + a + i - (64 * base + a) = i by omega]) (fun j hj => by
      rw [e18, if_neg (fun z => ?_)]
      have := hj (j - (64 * base + a)) (by omega)
      refine this ?_
      show j = 64 * (base + (a + (j - (64 * base + a))) / 64) + (a + (j - (64 * base + a))) % 64
      rw [lo _ (by omega)]
      omega) (fun k hk => (e k hk).symm) (fun i hi => (hb8 i hi).2.2) (fun w q5 _ q13 i hi => by
      unfold fX11_sectorOf
      rw [qr_n hn (by decide), q5, rm.r7 (by decide) hn, h3, if_pos (show nI 3 = (3 : Int32) from rfl), show (12 : Int32) * nI n = nI (12 * n) from pk_mul 12 n, qr_n (by omega) (by omega), q13, rm.2.2.2.2.1 _ (by omega), ← hbase, nI_add]) len 0 N A dd um (by omega) (by omega) rm (fun _ _ => rfl) (fun j => Or.inr ⟨rfl, fun i' hi' => absurd hi' (Nat.not_lt_zero _)⟩) ms (fun z => ⟨fun h => Or.inl h, fun h => by
        rcases h with h | ⟨i, h, -⟩
        · exact h
        · exact absurd h (Nat.not_lt_zero _)⟩) (Fr.rf _ _ _ _)
  have out : ∀ m r, m < 64 → tl A W m r ≠ 0 → ¬ (m = n ∧ ∃ q, q < W ∧ r = 1114 + q) → ∀ q, q < W → tl A W m r ≠ base + q := by
    intro m r hm ht hne q hq z
    rw [← htl q hq] at z
    have := t3.1 m r n (1114 + q) hm hn ht z
    exact hne ⟨this.1, q, hq, this.2⟩
  have twf : TW B W Ls (na + 64) A2 nm := by
    obtain ⟨q1, q2, q3, q4⟩ := tw
    refine ⟨?_, ?_, ?_, ?_⟩
    · unfold TW1 at q1 ⊢
      rw [e 5 (by decide), e 6 (by decide), e 7 (by decide), e 8 (by decide), e 11 (by decide), e 12 (by decide), e 13 (by decide), e 15 (by decide), e 16 (by decide), e 17 (by decide)]
      obtain ⟨p1, p2, p3, p4, p5, p6, p7, p8⟩ := q1
      refine ⟨p1, p2, p3, p4, p5, p6, fun j => ?_, p8⟩
      rw [e18]
      split
      · exact (hb8 _ (by omega)).1
      · exact p7 j
    · have es : szp A2 = szp A := by funext m; unfold szp; rw [e 6 (by decide)]
      unfold TW2 at q2 ⊢
      rw [es, e 5 (by decide), e 9 (by decide), e 10 (by decide)]
      exact q2
    · unfold TW3 at q3 ⊢
      rw [et, e 17 (by decide)]
      exact q3
    · unfold TW4 at q4 ⊢
      rw [e 5 (by decide), e 7 (by decide), e 8 (by decide), e 14 (by decide), e 15 (by decide)]
      simp only [upn_cg (e 7 (by decide))]
      exact q4
  have rxf : RX W Ls na A2 nm K2 := by
    obtain ⟨r1, r2, r3⟩ := rx
    refine ⟨fun y hy => ?_, fun m hm => ?_, fun m r hm ht => ?_⟩
    · rw [x3 _ _ (fun q hq => by have := hr q hq; omega), e 17 (by decide)]
      exact r1 y hy
    · have eK : K2 (na + m) = K (na + m) := by funext j; exact x3 _ _ (fun q hq => by have := hr q hq; omega)
      have q := r2 m hm
      rw [eK]
      unfold mNode at q ⊢
      rw [e 5 (by decide), e 6 (by decide), e 7 (by decide), e 8 (by decide), e 9 (by decide), e 10 (by decide), e 11 (by decide), e 12 (by decide), e 13 (by decide), e 15 (by decide), e 16 (by decide)]
      exact q
    · rw [et] at ht ⊢
      obtain ⟨o1, o2, o3, o4, o5⟩ := r3 m r hm ht
      by_cases cc : m = n ∧ ∃ q, q < W ∧ r = 1114 + q
      · obtain ⟨cm, q, hq, cr⟩ := cc
        subst cm
        unfold mRole
        rw [e 5 (by decide), h3]
        refine ⟨fun _ j hj => ?_, fun z => (by cases z), fun z => (by cases z), fun z => (by cases z), fun z => (by cases z)⟩
        have old := o1 (Or.inr h3) j hj
        rw [cr, htl q hq] at old ⊢
        rw [x4 q j hq hj, e18]
        by_cases c1 : a ≤ 64 * q + j ∧ 64 * q + j < a + len
        · rw [if_pos c1, if_pos (by omega), show 64 * (base + q) + j - (64 * base + a) = 64 * q + j - a by omega]
        · rw [if_neg c1, if_neg (by omega)]
          exact old
      · have ho := out m r hm ht cc
        have eK : K2 (tl A W m r) = K (tl A W m r) := by funext j; exact x3 _ _ ho
        rw [eK]
        unfold mRole
        rw [e 5 (by decide), e 9 (by decide), e 10 (by decide), e 14 (by decide)]
        refine ⟨fun z j hj => ?_, o2, o3, o4, o5⟩
        rw [e18, if_neg (fun y => ?_)]
        · exact o1 z j hj
        · have := ho (tl A W m r - base) (by omega)
          omega
  have fin : Tn B T S C W Ls na hb D kv Ak nk K2 d2 A2 nm vx w4 := by
    refine Tn_end t x2 v3 (fun z hz => ?_) (fun z hz hdz => ?_) v2 twf rxf ?_ (x6.1 7 (by decide)) (x6.1 24 (by decide)) (x6.1 0 (by decide)) (tpR_fr al.2.2.2.2.2.2.1 (x6.1 32 (by decide)) (v5.1 27 (by decide)) (x6.2.1 8 (by decide)) (v5.2.1 35 (by decide))) (fun q q1 q2 q3 => v5.1 q (by simp only [List.mem_cons, List.not_mem_nil, or_false]; omega)) (fun q q1 q2 q3 => v5.2.1 q (by simp only [List.mem_cons, List.not_mem_nil, or_false]; omega)) (v5.2.2 1 (by decide))
    · rw [Bool.eq_iff_iff, v4 z, x5 z]
    · rw [e 17 (by decide)]
      rcases (x5 z).mp hdz with q | ⟨i, q1, q2⟩
      · exact h80 z hz q
      · have := hr ((a + i) / 64) (by omega)
        rw [q2] at this
        exact ⟨by omega, this.2.2⟩
    · intro m r hm2 q ht hdz j hj
      rw [et] at ht hdz ⊢
      rw [e 5 (by decide)] at q
      rw [e18, if_neg (fun y => ?_)]
      · refine nb m r hm2 q ht ?_ j hj
        cases hq : dd (tl A W m r) with
        | false => rfl
        | true =>
          rw [(x5 _).mpr (Or.inl hq)] at hdz
          cases hdz
      · rw [(x5 _).mpr (Or.inr ⟨64 * tl A W m r + j - (64 * base + a), by omega, by omega⟩)] at hdz
        cases hdz
  refine ⟨vx, w4, K2, d2, A2, ?_, v1, fin, ?_, (x6.1 32 (by decide)).trans h32, v5.1 27 (by decide)⟩
  · unfold fX0_write_8 fX0_write_8_b17
    rw [x_kindOf x hn, qb_s, h3, if_pos (show nI 3 = (3 : Int32) from rfl)]
    exact x1
  · refine cnt_img (f := fun i => base + a / 64 + i) 30 dd (fun z hz h => ?_)
    rcases (x5 z).mp h with q | ⟨i, q1, q2⟩
    · exact Or.inl q
    · exact Or.inr ⟨(a + i) / 64 - a / 64, by omega, by rw [← q2]; show base + a / 64 + ((a + i) / 64 - a / 64) = _; omega⟩
