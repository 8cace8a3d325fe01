/-! ===== lay: the end of both ===== -/
theorem gM_fr {B T S C W Ls : Nat} {um vm : q_St} (h : gM B T S C W Ls um) (e : ∀ k, k < 9 → q_i vm k = q_i um k) : gM B T S C W Ls vm := by
  unfold gM at h ⊢
  rw [e 0 (by decide), e 1 (by decide), e 2 (by decide), e 3 (by decide), e 4 (by decide), e 5 (by decide), e 6 (by decide), e 7 (by decide), e 8 (by decide)]
  exact h
theorem cnt_dB {dd : Nat → Bool} {s Ls i n : Nat} (hL : Ls ≤ 2048) (h : s + i ≤ Ls) : cnt (dB dd s i) n ≤ cnt dd n + 4 := by
  have a0 : cnt (dB dd s i) n ≤ cnt (setb (setb (setb (setb dd 80 true) 81 true) 82 true) 83 true) n := by
    refine cnt_mono (fun z _ hz => ?_)
    rcases dB_t i z h hz with q | q
    · exact sbt.mpr (Or.inr (sbt.mpr (Or.inr (sbt.mpr (Or.inr (sbt.mpr (Or.inr q)))))))
    · have : z = 80 ∨ z = 81 ∨ z = 82 ∨ z = 83 := by omega
      rcases this with e | e | e | e
      · exact sbt.mpr (Or.inr (sbt.mpr (Or.inr (sbt.mpr (Or.inr (sbt.mpr (Or.inl e)))))))
      · exact sbt.mpr (Or.inr (sbt.mpr (Or.inr (sbt.mpr (Or.inl e)))))
      · exact sbt.mpr (Or.inr (sbt.mpr (Or.inl e)))
      · exact sbt.mpr (Or.inl e)
  have a1 := cnt_up1 (P := setb (setb (setb dd 80 true) 81 true) 82 true) (x := 83) (n := n)
  have a2 := cnt_up1 (P := setb (setb dd 80 true) 81 true) (x := 82) (n := n)
  have a3 := cnt_up1 (P := setb dd 80 true) (x := 81) (n := n)
  have a4 := cnt_up1 (P := dd) (x := 80) (n := n)
  omega
theorem l_layEnd {B T S C W Ls na hb d n b : Nat} {D kv : Nat → Nat → Int64} {Ak : Nat → Nat → Nat} {nk : Nat → Int64} {K : Nat → Nat → Int64} {dd : Nat → Bool} {A : Nat → Nat → Nat} {nm : Nat → Int64} {L : Nat → Nat} {N : Nat} {ux um : q_St} {v : Int64} (t : Tn B T S C W Ls na hb D kv Ak nk K dd A nm ux um) (g : Geo B T S C W Ls) (gl : gL B C W Ls L) (hna : na = 80 + (Ls + 511) / 512) (hN : 140000 ≤ N) (hd : d < 64) (hkd : A 5 d = 2) (hn : n < 64) (h0 : A 5 n = 0) (hbB : b < B) (hbW : b * W + W ≤ Ls) (hbe : ∀ x, x / W = b → A 17 x = 0) (hv : okN v) (room : rom W Ls na d (bdA A W b)) (hoc : ∀ x j, x / W = b → j < 64 → sO (K x) j = A 18 (64 * x + j) ∧ A 18 (64 * x + j) = Ak 18 (64 * x + j)) (c40 : cnt dd Ls ≤ 40) :
    ∃ (u1 u2 u3 vx vm : q_St) (K' : Nat → Nat → Int64) (dd' : Nat → Bool) (A' : Nat → Nat → Nat) (nm' : Nat → Int64), fX5_takeBand L N (nI b) ux = some ((), u1) ∧ fX4_begin L N (nI n) 3 (q_i u1 0) 52 u1 = some ((), u2) ∧ fX4_setHolder L N (nI n) (nI b) u2 = some ((), u3) ∧ fX3_add L N (nI d) v (nI n) u3 = some ((), vx) ∧ q_lp (fX11_lay_b179 N) (fun _ _ _ _ _ _ => none) N (nI d) v (nI n) (nI b) (nI (b * W)) um = some (nI n, vm) ∧ Tn B T S C W Ls na hb D kv Ak nk K' dd' A' nm' vx vm ∧ cnt dd' Ls ≤ 75 ∧ q_i vm 27 = q_i um 27 := by
  have hl := g.l
  have hw := g.w
  obtain ⟨g1, g2, g3, g4, g5, g6⟩ := id g
  obtain ⟨al, h71, dh, xs, ms, h80, rm, tw, rx, nb⟩ := id t
  obtain ⟨wx, w, hw16, ew⟩ := t.wh
  have hdn : d ≠ n := fun z => by rw [z, h0] at hkd; exact absurd hkd (by decide)
  have hn0 : n ≠ 0 := fun z => by rw [z, tw.1.2.1.1] at h0; exact absurd h0 (by decide)
  have gm := al.1.gm
  have h8n : A 8 n = 0 := (tw.1.1 n hn).2.2.2.2.2.2 (by omega)
  have ib : ∀ x, x / W = b ↔ b * W ≤ x ∧ x < b * W + W := fun x => in_bnd (by omega)
  have low : na + 64 ≤ b * W := by
    rcases Nat.lt_or_ge (b * W) (na + 64) with q | q
    · have := tw.2.2.1.2.2.2 _ q
      rw [hbe _ ((ib _).mpr ⟨Nat.le_refl _, by omega⟩)] at this
      omega
    · exact q
  obtain ⟨x1, K1, p1, p2, p3, p4, p5⟩ := x_takeBand (N := N) g gl (by omega) hbW xs rx.1
  have e0 : q_i x1 0 = nI w := by rw [p5.1 0 (by decide), wx, ew]
  obtain ⟨x2, x3, K2, r1, r2, r3, r4, r5, r6, r7⟩ := x_layNode (N := N) (w := w) g gl (by omega) hna p2 hn (show b < 8 by omega)
  rw [← e0] at r1
  obtain ⟨w2, s1, s2, s3, s4⟩ := m_layTake (N := N) (x1 := nI d) (x2 := v) (x6 := nI n) (A := A) (nm := nm) (d0 := dd) (w0 := um) g hN hbW gm.2.2.2.2.1 gm.2.2.2.2.2.2.2.1 W 0 N um (by omega) (by omega) rm ms (Fr.rf _ _ _ _)
  have s1 : q_lp (fX11_lay_b179 N) (fun _ _ _ _ _ _ => none) N (nI d) v (nI n) (nI b) (nI (b * W)) um = layE N (nI d) v (nI n) (nI b) w2 := s1
  have tv := ly_TV (w := w) hw tw (show 0 < na + 64 by omega) hn h0 hbB hbW hbe hw16
  obtain ⟨E, hE⟩ : ∃ q, q = lyA (bdA A W b) W n b w := ⟨_, rfl⟩
  rw [← hE] at tv
  have eo : ∀ k j, j ≠ n → k ≠ 13 → k ≠ 17 → E k j = A k j := fun k j hj h13 h17 => by rw [hE, ly_o hj h13, bdA_k h17]
  have er : ∀ k, (k ≠ 5 ∧ k ≠ 6 ∧ k ≠ 7 ∧ k ≠ 8 ∧ k ≠ 15 ∧ k ≠ 11 ∧ k ≠ 12) → k ≠ 13 → k ≠ 17 → E k = A k := fun k q1 q2 q3 => by rw [hE, ly_k q1 q2, bdA_k q3]
  have e17 : E 17 = bdA A W b 17 := by rw [hE]; exact ly_k (by decide) (by decide)
  have e5n : E 5 n = 3 := by rw [hE, ly_n (by decide), bnA_5]
  have e8n : E 8 n = 0 := by rw [hE, ly_n (by decide), bnA_8]
  have e13 : ∀ j, j ≠ 12 * n → E 13 j = A 13 j := fun j hj => by rw [hE, ly_13, if_neg hj, bdA_k (by decide)]
  have etl : ∀ m r, m < 64 → tl E W m r = if m = n then (if 1114 ≤ r ∧ r - 1114 < W then b * W + (r - 1114) else 0) else tl A W m r := fun m r hm => by rw [hE]; exact ly_tl (fun m hm => (tw.1.1 m hm).2.2.2.2.2.1) hm
  have kn : ∀ y j, na ≤ y → y ≠ na + n → K2 y j = K y j := fun y j q1 q2 => (r4 y j q2).trans (p4 y j (Or.inr (by omega)))
  have rxx : RXx W Ls na E nm K2 n := by
    refine ⟨fun x hx => ?_, fun m hm hne => ?_, fun m r hm hne ht => ?_⟩
    · have := p3 x hx
      rw [e17, r4 _ _ (by omega)]
      exact this
    · have ek : K2 (na + m) = K (na + m) := by funext j; exact kn _ _ (by omega) (by omega)
      have q := rx.2.1 m hm
      rw [ek]
      unfold mNode at q ⊢
      rw [eo 5 m hne (by decide) (by decide), eo 6 m hne (by decide) (by decide), eo 7 m hne (by decide) (by decide), eo 8 m hne (by decide) (by decide), eo 11 m hne (by decide) (by decide), eo 12 m hne (by decide) (by decide), eo 15 m hne (by decide) (by decide), er 9 (by decide) (by decide) (by decide), er 10 (by decide) (by decide) (by decide), er 16 (by decide) (by decide) (by decide)]
      obtain ⟨q1, q2, q3, q4, q5, q6⟩ := q
      refine ⟨q1, q2, fun z => ⟨fun k hk => ?_, (q3 z).2⟩, q4, fun z => ?_, q6⟩
      · rw [e13 (12 * m + k) (by omega)]
        exact (q3 z).1 k hk
      · rw [e13 (12 * m) (by omega)]
        exact q5 z
    · rw [etl m r hm, if_neg hne] at ht ⊢
      have q := rx.2.2 m r hm ht
      have hx := (tw.2.2.1.2.1 m r hm ht).1
      have ek : K2 (tl A W m r) = K (tl A W m r) := by funext j; exact kn _ _ (by omega) (by omega)
      rw [ek]
      unfold mRole at q ⊢
      rw [eo 5 m hne (by decide) (by decide), er 9 (by decide) (by decide) (by decide), er 10 (by decide) (by decide) (by decide), er 14 (by decide) (by decide) (by decide), er 18 (by decide) (by decide) (by decide)]
      exact q
  obtain ⟨dd3, hdd3⟩ : ∃ q, q = setb (dB dd (b * W) W) (na + n) true := ⟨_, rfl⟩
  rw [← hdd3] at r3
  have nbE : NB W E Ak dd3 := by
    intro m r hm q ht hdf j hj
    rw [er 18 (by decide) (by decide) (by decide)]
    by_cases c : m = n
    · rw [etl m r hm, if_pos c] at ht ⊢
      by_cases c2 : 1114 ≤ r ∧ r - 1114 < W
      · rw [if_pos c2]; exact (hoc _ j ((ib _).mpr (by omega)) hj).2
      · rw [if_neg c2] at ht; exact absurd rfl ht
    · rw [etl m r hm, if_neg c] at ht hdf ⊢
      rw [eo 5 m c (by decide) (by decide)] at q
      refine nb m r hm q ht ?_ j hj
      cases hq : dd (tl A W m r) with
      | false => rfl
      | true =>
        rw [hdd3, setb_k (dB_u W _ hq)] at hdf
        cases hdf
  have h80E : ∀ x, x < Ls → dd3 x = true → 80 ≤ x ∧ E 17 x = 1 := by
    intro x hx hdx
    rw [e17, bdA_17]
    have a : 80 ≤ x ∧ A 17 x = 1 := by
      rw [hdd3] at hdx
      rcases sbt.mp hdx with q | q
      · exact ⟨by omega, tw.2.2.1.2.2.2 x (by omega)⟩
      · rcases dB_t W x hbW q with q | q
        · exact h80 x hx q
        · exact ⟨q.1, tw.2.2.1.2.2.2 x (by omega)⟩
    refine ⟨a.1, ?_⟩
    split
    · rfl
    · exact a.2
  have roomE : rom W Ls na d E := by
    have z1 : sF E d = sF (bdA A W b) d := by funext j; unfold sF; rw [er 14 (by decide) (by decide) (by decide), bdA_k (by decide)]
    have z2 : frB E W none = frB (bdA A W b) W none := by funext x; unfold frB; rw [e17]
    have z3 : E 8 d = bdA A W b 8 d := by rw [eo 8 d hdn (by decide) (by decide), bdA_k (by decide)]
    unfold rom at room ⊢
    rw [z1, z2, z3]
    exact room
  have e8 : bdA A W b 8 = E 8 := by
    funext j
    rw [bdA_k (by decide)]
    by_cases c : j = n
    · rw [c, h8n, e8n]
    · rw [eo 8 j c (by decide) (by decide)]
  have e14m : bdA A W b 14 = E 14 := by rw [bdA_k (by decide), er 14 (by decide) (by decide) (by decide)]
  obtain ⟨vx, vm, A', Am', f, K', dd', dm', sx, b1, b2, b3, b4, b5, b6, b7, b8, b9, b10, b11, b12, b13, b14, b15, b16, b17, b18, b19, b20, b21, b22⟩ := l_add2 (N := N) (v := v) (nd := n) (e := n) (d := d) (A := E) (Am := bdA A W b) (dm := dB dd (b * W) W) (Ak := Ak) g gl hna (by omega) r3 s3 s2 e8 e14m e17.symm (fun i hi => by rw [bdA_k (by decide), e13 _ (by omega)]) (gM_fr gm (fun k hk => s4.1 k (by simp only [List.mem_cons, List.not_mem_nil, or_false]; omega))) tv rxx hdn hd (by rw [eo 5 d hdn (by decide) (by decide)]; exact hkd) (by rw [bdA_k (by decide)]; exact hkd) hn0 hn (some b) (fun k e => by
    cases e
    refine ⟨hbB, fun x _ hx => ?_⟩
    rw [e17, bdA_17, if_pos hx]) roomE h80E nbE
  have b2 : fX11_enter N (nI d) v (nI n) (nI b) w2 = some ((), vm) := b2
  have im : ∀ k, k ≠ 25 → q_i vm k = q_i um k := fun k hk => by
    rw [b22.1 k (by simp only [List.mem_cons, List.not_mem_nil, or_false]; omega), s4.1 k (by simp only [List.mem_cons, List.not_mem_nil, or_false]; omega)]
  obtain ⟨y1, c1, c2, c3⟩ := m_born (N := N) (n := n) (k := 3) (d := d) (w := w) g hna b7 b4 ((im 8 (by decide)).trans gm.2.2.2.2.2.2.2.2) hn (by decide) ((im 28 (by decide)).trans ew)
  rw [if_neg (by decide), if_neg (by decide)] at c2
  have c1 : fX11_born N (nI n) 3 (nI d) vm = some (nI n, y1) := c1
  have fc := fr_X11_born c1
  obtain ⟨y2, hy2⟩ : ∃ q, q = q_sa y1 6 (upd (q_a y1 6) n (nI (64 * W))) := ⟨_, rfl⟩
  obtain ⟨y3, hy3⟩ : ∃ q, q = q_sa y2 13 (upd (q_a y2 13) (12 * n) (nI (b * W))) := ⟨_, rfl⟩
  have d1 := RM_7 (n := n) (k0 := 6) (v := 64 * W) c2 (by decide)
  rw [← hy2] at d1
  have d2 := RM_13 (j := 12 * n) (v := b * W) d1
  rw [← hy3, ly_set] at d2
  have eA : lyA Am' W n b w = A' := by
    rcases b6 with ⟨q1, q2⟩ | ⟨y, q1, q2⟩
    · rw [q1, q2, hE]
    · have h12 : A' 8 d ≤ 12 := (b9.1.1 d hd).2.2.2.2.2.1
      rw [q1, gA_8, if_pos rfl, eo 8 d hdn (by decide) (by decide)] at h12
      rw [q1, q2, hE, ly_gA hdn (by rw [bdA_k (by decide)]; omega)]
  rw [eA] at d2
  have iy : ∀ k, k ≠ 25 → q_i y3 k = q_i um k := fun k hk => by
    rw [hy3, hy2]
    exact (fc.1 k (by simp only [wi_X11_born, List.mem_cons, List.not_mem_nil, or_false]; omega)).trans (im k hk)
  have ay : ∀ k, (k ≤ 4 ∨ 19 ≤ k) → k ≠ 33 → q_a y3 k = q_a um k := fun k hk hk2 => by
    rw [hy3, qa_ne (by omega), hy2, qa_ne (by omega), fc.2.1 k (by simp only [wa_X11_born, List.mem_cons, List.not_mem_nil, or_false]; omega), b22.2.1 k (by simp only [List.mem_cons, List.not_mem_nil, or_false]; omega), s4.2.1 k (by simp only [List.mem_cons, List.not_mem_nil, or_false]; omega)]
  have msy : MS Ls (setb dm' (na + n) true) y3 := by
    rw [hy3, hy2]
    exact c3
  have i4 : q_i y1 4 = nI W := (fc.1 4 (by decide)).trans ((im 4 (by decide)).trans gm.2.2.2.2.1)
  have lay : layE N (nI d) v (nI n) (nI b) w2 = some (nI n, y3) := by
    unfold layE
    rw [b2, qb_s, c1, qb_s, qw_n hn (by decide), cl_n (by omega), i4, show (64 : Int32) * nI W = nI (64 * W) from pk_mul 64 W, ← hy2, show (12 : Int32) * nI n = nI (12 * n) from pk_mul 12 n, qw_n (by omega) (by decide), cl_n (by omega), show q_i y2 4 = nI W from by rw [hy2]; exact i4, pk_mul b W, ← hy3]
  have a5 : A' 5 = E 5 := b11 5 (by decide) (by decide) (by decide) (by decide)
  have a7 : A' 7 = E 7 := b11 7 (by decide) (by decide) (by decide) (by decide)
  have a11 : A' 11 = E 11 := b11 11 (by decide) (by decide) (by decide) (by decide)
  have a12 : A' 12 = E 12 := b11 12 (by decide) (by decide) (by decide) (by decide)
  have a14 : A' 14 = E 14 := b11 14 (by decide) (by decide) (by decide) (by decide)
  have a15 : A' 15 = E 15 := b11 15 (by decide) (by decide) (by decide) (by decide)
  have a13n : A' 13 (12 * n) = b * W := by rw [← eA, ly_13, if_pos rfl]
  have twf := ly_TW (A0 := A) (n := n) (d := d) (f := f) (v := v) tw hn h0 b9 hd (by rw [a5, eo 5 d hdn (by decide) (by decide)]; exact hkd) hv b12 b13 (fun m hm => by rw [a5, eo 5 m hm (by decide) (by decide)]) (by rw [a5]; exact e5n) (fun m hm => by rw [a7, eo 7 m hm (by decide) (by decide)]) (by rw [a14, er 14 (by decide) (by decide) (by decide)]) (fun m hm => by rw [a15, eo 15 m hm (by decide) (by decide)]) (by rw [a15, hE, ly_n (by decide), bnA_15])
  have f5 : setA A' 14 (48 * d + f) n 5 n = 3 := by rw [setA_k (by decide), a5]; exact e5n
  have f11 : setA A' 14 (48 * d + f) n 11 n = w := by rw [setA_k (by decide), a11, hE, ly_n (by decide), bnA_11]
  have f12 : setA A' 14 (48 * d + f) n 12 n = 52 := by rw [setA_k (by decide), a12, hE, ly_n (by decide), bnA_12]
  have f15 : setA A' 14 (48 * d + f) n 15 n = 1 := by rw [setA_k (by decide), a15, hE, ly_n (by decide), bnA_15]
  have etA : tl (setA A' 14 (48 * d + f) n) W = tl A' W := tl_sc (setA_k (by decide)) (setA_k (by decide)) (setA_k (by decide)) (setA_k (by decide)) (setA_k (by decide))
  have rxf : RX W Ls na (setA A' 14 (48 * d + f) n) (setN nm (48 * d + f) v) K' := by
    refine RX_of b8 (fun _ => ?_) (fun _ r ht => ?_)
    · have ek : K' (na + n) = K2 (na + n) := by funext j; exact b14 n hn (Ne.symm hdn) j
      obtain ⟨m1, m2, m3, m4, m5⟩ := bg_facts (k := 3) (w := w) (m := 52) (one := 1) (by decide) hw16 (by decide) (Or.inr rfl)
      unfold mNode
      rw [ek, r5, f5, f11, f12, f15, m1, m2, m3, m4, m5]
      refine ⟨rfl, fun _ => ⟨rfl, by rw [if_neg (by decide)], by rw [if_pos (by decide)], by rw [if_neg (by decide)]⟩, fun z => absurd z (by decide), fun z => absurd z (by decide), fun _ => ?_, fun z => absurd z (by decide)⟩
      rw [r6, setA_k (by decide), a13n]
    · rw [etA] at ht ⊢
      have et : tl A' W n r = if 1114 ≤ r ∧ r - 1114 < W then b * W + (r - 1114) else 0 := by
        unfold tl
        rw [a5, e5n, if_neg (by decide), if_neg (by decide), if_pos rfl, a13n]
      rw [et] at ht
      by_cases c2 : 1114 ≤ r ∧ r - 1114 < W
      · rw [if_pos c2] at et ht
        have eE : tl E W n r = b * W + (r - 1114) := by rw [etl n r hn, if_pos rfl, if_pos c2]
        obtain ⟨-, q2, q3⟩ := b15 n r hn (Ne.symm hdn) (by rw [eE]; exact ht)
        rw [eE] at q2 q3
        rw [et]
        have ek : K' (b * W + (r - 1114)) = K (b * W + (r - 1114)) := by
          funext j
          rw [q3 j]
          exact kn _ _ (by omega) (by omega)
        rw [ek]
        refine ⟨fun _ j hj => ?_, fun z => absurd (f5.symm.trans z) (by decide), fun z => absurd (f5.symm.trans z) (by decide), fun z => absurd (f5.symm.trans z) (by decide), fun z => absurd (f5.symm.trans z) (by decide)⟩
        rw [setA_k (by decide)]
        rcases q2 j with q | q
        · rw [q, er 18 (by decide) (by decide) (by decide)]
          exact (hoc _ j ((ib _).mpr (by omega)) hj).1
        · omega
      · rw [if_neg c2] at ht
        exact absurd rfl ht
  have nbf : NB W (setA A' 14 (48 * d + f) n) Ak dd' := by
    unfold NB at b18 ⊢
    rw [etA, setA_k (show (5 : Nat) ≠ 14 by decide), setA_k (show (18 : Nat) ≠ 14 by decide)]
    exact b18
  have hdd : ∀ x, x < Ls → setb dm' (na + n) true x = dd' x := by
    intro x _
    by_cases c : x = na + n
    · rw [c, setb_s, (b5 _).1, hdd3, setb_s, Bool.or_true]
    · rw [setb_n c, (b5 x).1, (b5 x).2, hdd3, setb_n c]
  have fx : Fr [13, 22] [5] [2] ux vx := (p5.trans r7).trans b21
  have fin : Tn B T S C W Ls na hb D kv Ak nk K' dd' (setA A' 14 (48 * d + f) n) (setN nm (48 * d + f) v) vx y3 := Tn_end t b3 msy hdd (fun x hx hdx => by rw [setA_k (by decide)]; exact b17 x hx hdx) d2 twf rxf nbf (fx.1 7 (by decide)) (fx.1 24 (by decide)) (fx.1 0 (by decide)) (tpR_fr al.2.2.2.2.2.2.1 (fx.1 32 (by decide)) (iy 27 (by decide)) (fx.2.1 8 (by decide)) (ay 35 (by decide) (by decide))) (fun k q1 q2 q3 => iy k q1) (fun k q1 q2 q3 => ay k q1 q3) (by rw [hy3, hy2]; exact (fc.2.2 1 (by decide)).trans ((b22.2.2 1 (by decide)).trans (s4.2.2 1 (by decide))))
  refine ⟨x1, x2, x3, vx, y3, K', dd', _, _, p1, r1, r2, b1, s1.trans lay, fin, ?_, iy 27 (by decide)⟩
  have z1 := cnt_dB (dd := dd) (s := b * W) (Ls := Ls) (i := W) (n := Ls) hl.2 hbW
  have z2 := cnt_up1 (P := dB dd (b * W) W) (x := na + n) (n := Ls)
  rw [← hdd3] at z2
  omega
