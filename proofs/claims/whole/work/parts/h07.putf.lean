/-! ===== put into a FILE ===== -/
theorem l_putFile {B T S C W Ls na hb n a len p1 p2 : Nat} {D kv : Nat → Nat → Int64} {Ak : Nat → Nat → Nat} {nk : Nat → Int64} {K : Nat → Nat → Int64} {dd : Nat → Bool} {A : Nat → Nat → Nat} {nm : Nat → Int64} {L : Nat → Nat} {N : Nat} {ux um : q_St} {b : Nat → Nat} (g : Geo B T S C W Ls) (gl : gL B C W Ls L) (hna : na = 80 + (Ls + 511) / 512) (hN : 140000 ≤ N) (t : Tn B T S C W Ls na hb D kv Ak nk K dd A nm ux um) (hn : n < 64) (h1 : A 5 n = 1) (hlen : len ≤ 1280) (hlen1 : 1 ≤ len) (hal : a + len ≤ 68352) (hp1 : p1 = a / 64) (hp2 : p2 = (a + len - 1) / 64) (hfc : cnt (msR A W n p1 p2) 1102 ≤ Ls - uC A Ls) (h32 : q_i ux 32 = nI len) (hb8 : ∀ i, i < len → b i < 256 ∧ q_a ux 8 i = nI (b i) ∧ q_a um 35 i = sB (b i)) :
    ∃ vx vm K2 dd2 A2, fX0_write_8 L N (nI n) (nI a) ux = some ((), vx) ∧ q_lp (fX11_put_b135 N) (fun _ _ _ _ _ _ => none) N (nI n) (nI a) (nI len) (nI p2) (nI p1) um = some (nI len, vm) ∧ Tn B T S C W Ls na hb D kv Ak nk K2 dd2 A2 nm vx vm ∧ cnt dd2 Ls ≤ cnt dd Ls + 30 ∧ q_i vx 32 = nI len ∧ q_i vm 27 = q_i um 27 := by
  have hl := g.l
  have x := t.x g gl hna
  obtain ⟨al, h7, dh, xs, ms, h80, rm, tw, rx, nb⟩ := id t
  have gm := al.1.gm
  have ft := FT_of (W := W) tw.2.1 hn h1
  have hu : uC A Ls ≤ Ls := cnt_le _ _
  have ps : PS B T S C W Ls na hb n um D Ak nm ux um dd (ndB p1 p2) A A K dd dd (fun _ => False) ux um := ⟨xs, ms, rm, RXf_of tw.1 rx hn h1, tw.1, tw.2.2.1, h1, fun _ _ => rfl, ⟨ft.1, ft.2.2.1⟩, h80, nb, fun z hz h => Or.inl h, by
    have : cnt (msR A W n p1 p2) 1102 + uC A Ls ≤ Ls := by omega
    exact this, Fr.rf _ _ _ _, Fr.rf _ _ _ _, fun z hz => ⟨fun h => Or.inl h, fun h => by rcases h with h | h; exact h; exact h.elim⟩⟩
  obtain ⟨m', m2', y5, Af, Amf, Kf, ddf, dmf, WSf, uf, wf, d0, d0', d1, d2, pf, ov, ws, keep, kk, k9, k10, new⟩ := l_putF (N := N) (b := b) g gl hna (by omega) gm hn hlen hlen1 hp1 hp2 (by omega) (fun i hi => (hb8 i hi).1) h32 (fun i hi => (hb8 i hi).2.1) len 0 N N 0 A A K dd dd (fun _ => False) ux um (by omega) (by omega) (Or.inl rfl) (by omega) (by omega) ps ⟨fun i hi => absurd hi (Nat.not_lt_zero _), fun i hi => absurd hi (Nat.not_lt_zero _), fun _ _ => rfl⟩ (fun z => ⟨fun h => h.elim, fun ⟨i, h, _⟩ => absurd h (Nat.not_lt_zero _)⟩)
  have r9 := PS_r9 pf hn
  obtain ⟨xsf, msf, rmf, rxff, t1f, t3f, h1f, hAmf, fff, h80f, nbf, dzf, fcf, fxf, fmf, relf⟩ := pf
  have hpc : ∀ p, p1 ≤ p → p ≤ p2 → tl Af W n p ≠ 0 := by
    intro p q1 q2
    by_cases c : p = p1
    · have := ov.1 0 (by omega)
      rw [c, hp1]; exact this
    · have := ov.1 (64 * p - a) (by omega)
      rw [show (a + (64 * p - a)) / 64 = p by omega] at this
      exact this
  have hpi : ∀ i, i < len → p1 ≤ (a + i) / 64 ∧ (a + i) / 64 ≤ p2 ∧ (a + i) / 64 < 1068 := by
    intro i hi
    omega
  obtain ⟨sz, hsz⟩ : ∃ q, q = if a + len ≤ A 6 n then A 6 n else a + len := ⟨_, rfl⟩
  have h6 := (tw.1.1 n hn).2.2.2.2.1
  have k6 := kk 6 (by decide) (by decide) (by decide) (by decide)
  have hs1 : A 6 n ≤ sz ∧ a + len ≤ sz ∧ sz ≤ 68352 := by
    rw [hsz]
    split <;> omega
  have twf := pt_TW tw hn h1 hs1.1 hs1.2.1 hs1.2.2 hlen1 hp1 hp2 t1f t3f fff keep kk k9 k10 new hpc
  have e : ∀ k, k ≠ 6 → setA Af 6 n sz k = Af k := fun k hk => setA_k hk
  have et : tl (setA Af 6 n sz) W = tl Af W := tl_sc (e 5 (by decide)) (e 8 (by decide)) (e 9 (by decide)) (e 10 (by decide)) (e 13 (by decide))
  have sid : a + len ≤ A 6 n → setA Af 6 n sz = Af ∧ setA Amf 6 n sz = Amf := by
    intro c
    rw [hsz, if_pos c]
    exact ⟨setA_id (by rw [k6]), setA_id (by rw [hAmf 6 (by decide), k6])⟩
  -- the class: its length
  have hx : ∃ u2 K2 d2x, q_lp (fX0_write_8_b25 L N) (fun _ _ _ _ _ _ => none) m' (nI n) (nI a) 0 y5 (nI len) uf = some ((), u2) ∧ XS B T S C W Ls hb um D K2 d2x u2 ∧ RXf W Ls na (setA Af 6 n sz) nm K2 n ∧ (∀ z, d2x z = true ↔ ddf z = true ∨ (¬ a + len ≤ A 6 n ∧ z = na + n)) ∧ Fr [13, 22] [5] [2] ux u2 := by
    have e30 : q_i uf 30 = nI na := by rw [xsf.1.gx.2.2.2.2.2.2.2.2.2.2.2.1, hna]
    have e32 : q_i uf 32 = nI len := (fxf.1 32 (by decide)).trans h32
    have hsc := rxff.2.1.2.2.2.2
    have hlo : fX4_lengthOf L N (nI n) uf = some (nI (A 6 n), uf) := by
      have hu : uN (q_lush (Kf (na + n) 0) (nI 32)) = A 6 n := by rw [uN_lush _ (by decide), hsc, k6]
      have hw : fX6_word L N (nI (na + n)) 0 uf = some (Kf (na + n) 0, uf) := x_word (w := 0) g gl xsf (by omega) (by decide)
      unfold fX4_lengthOf
      rw [e30, nI_add, hw, qb_s, show (32 : Int32) = nI 32 from rfl, i_l2i0 (by rw [hu]; omega), hu]
    by_cases c : a + len ≤ A 6 n
    · refine ⟨uf, Kf, ddf, ?_, xsf, by rw [(sid c).1]; exact rxff, fun z => ⟨fun h => Or.inl h, fun h => by rcases h with h | h; exact h; exact absurd c h.1⟩, fxf⟩
      rw [lp_1 _ _ d0, fX0_write_8_b25, e32, if_pos (nI_le (by omega) (by omega)), if_pos rfl, hlo, qb_s, nI_add, if_pos (nI_le c (by omega))]
    · obtain ⟨u2, a1, a2⟩ := x_setLen (N := N) (len := sz) g gl hna xsf hn
      refine ⟨u2, _, _, ?_, a2, RXf_len (by omega) hna t3f hn (by omega) rxff, fun z => ?_, fxf.trans ((fr_X4_setLength a1).mono (by decide) (by decide) (by decide))⟩
      · have es : sz = a + len := by rw [hsz, if_neg c]
        rw [es] at a1
        rw [lp_1 _ _ d0, fX0_write_8_b25, e32, if_pos (nI_le (by omega) (by omega)), if_pos rfl, hlo, qb_s, nI_add, if_neg (nI_ge (by omega) (by omega)), e32, nI_add, a1, qb_s]
      · rw [sbt]
        constructor
        · rintro (h | h)
          · exact Or.inr ⟨c, h⟩
          · exact Or.inl h
        · rintro (h | h)
          · exact Or.inr h
          · exact Or.inl h.2
  obtain ⟨u2, K2, d2x, x1, x2, x3, x4, x5⟩ := hx
  -- the reference: its length
  have hm : ∃ w3 d3, q_lp (fX11_put_b135 N) (fun _ _ _ _ _ _ => none) m2' (nI n) (nI a) (nI len) (nI p2) (nI (p2 + 1)) wf = fX11_put_b198 N (nI n) (nI a) (nI len) w3 ∧ RM Ls (setA Amf 6 n sz) nm (q_a w3) (q_j w3 0) ∧ MS Ls d3 w3 ∧ (∀ z, d3 z = true ↔ dmf z = true ∨ (¬ a + len ≤ A 6 n ∧ z = na + n)) ∧ Fr [25] [6, 9, 10, 17, 18, 33] [] um w3 ∧ q_a w3 9 = q_a wf 9 := by
    have hr6 : q_a wf 6 n = nI (A 6 n) := by rw [rmf.1 6 (by decide) n hn, hAmf 6 (by decide), k6]
    by_cases c : a + len ≤ A 6 n
    · refine ⟨wf, dmf, ?_, by rw [(sid c).2]; exact rmf, msf, fun z => ⟨fun h => Or.inl h, fun h => by rcases h with h | h; exact h; exact absurd c h.1⟩, fmf, rfl⟩
      rw [lp_1 _ _ d0', fX11_put_b135, if_pos (nI_lt (by omega) (by omega)), qr_n hn (by decide), hr6, nI_add, if_pos (nI_le c (by omega))]
    · have es : sz = a + len := by rw [hsz, if_neg c]
      obtain ⟨w5, hw5⟩ : ∃ q, q = q_sa wf 6 (upd (q_a wf 6) n (nI sz)) := ⟨_, rfl⟩
      have r6 := RM_7 (n := n) (k0 := 6) (v := sz) rmf (by decide)
      rw [← hw5] at r6
      have ms5 : MS Ls dmf w5 := ⟨by rw [hw5, qa_ne (by decide)]; exact msf.1, by rw [hw5]; exact msf.2⟩
      have f5 : Fr [25] [6, 9, 10, 17, 18, 33] [] wf w5 := by rw [hw5]; exact fr_sa1 _ (by decide)
      have f5' := fmf.trans f5
      obtain ⟨w6, s1, s2⟩ := m_soilNode (N := N) (n := n) g hna ((f5'.1 8 (by decide)).trans gm.2.2.2.2.2.2.2.2) ms5 hn
      have f6 := fr_X11_soilNode s1
      refine ⟨w6, _, ?_, RM_fr r6 (fun k q1 q2 => f6.2.1 k (by simp only [List.mem_cons, List.not_mem_nil, or_false]; omega)) (f6.2.2 0 (by decide)), s2, fun z => ?_, f5'.trans (f6.mono (by decide) (by decide) (by decide)), ?_⟩
      · rw [lp_1 _ _ d0', fX11_put_b135, if_pos (nI_lt (by omega) (by omega)), qr_n hn (by decide), hr6, nI_add, if_neg (nI_ge (by omega) (by omega)), qw_n hn (by decide), cl_n (by omega), ← es, ← hw5, s1, qb_s]
      · rw [sbt]
        constructor
        · rintro (h | h)
          · exact Or.inr ⟨c, h⟩
          · exact Or.inl h
        · rintro (h | h)
          · exact Or.inr h
          · exact Or.inl h.2
      · rw [f6.2.1 9 (by decide), hw5, qa_ne (by decide)]
  obtain ⟨w3, d3, y1, y2, y3, y4, y5', y6⟩ := hm
  -- the bytes of the reference
  have hr5 : q_a w3 5 n = nI 1 := by rw [y2.1 5 (by decide) n hn, setA_k (by decide), hAmf 5 (by decide), h1f]
  obtain ⟨w4, d4, v1, v2, v3, v4, v5⟩ := m_bytes (N := N) (n := n) (a := a) (len := len) (Ax := setA Af 6 n sz) (Am := setA Amf 6 n sz) (nm := nm) (X := fun q => tl Af W n q) (b := b) (dm := d3) (w0 := w3) (Ls := Ls) (by omega) hlen (by omega) (fun i hi => (t3f.2.1 n _ hn (ov.1 i hi)).2.1) (fun i hi => by rw [e 18 (by decide)]; exact ov.2.1 i hi) (fun j hj => by rw [e 18 (by decide), setA_k (by decide)]; exact ov.2.2 j hj) (fun k hk => by
      funext j
      by_cases c : k = 6
      · subst c
        by_cases c2 : j = n
        · rw [c2, setA_s, setA_s]
        · rw [setA_n c2, setA_n c2, hAmf 6 (by decide)]
      · rw [setA_k c, setA_k c, hAmf k hk]) (fun i hi => by rw [y5'.2.1 35 (by decide)]; exact (hb8 i hi).2.2) (fun w q5 q9 _ i hi => by
      have hq := hpi i hi
      have h0 := ov.1 i hi
      unfold fX11_sectorOf
      rw [qr_n hn (by decide), q5, hr5, if_neg (show ¬ nI 1 = (3 : Int32) by decide), show (1068 : Int32) * nI n = nI (1068 * n) from pk_mul 1068 n, nI_add, qr_n (by omega) (by omega), q9, y6, r9.1 _ hq.2.2]
      unfold i0
      rw [if_neg h0]) len 0 N (setA Amf 6 n sz) d3 w3 (by omega) (by omega) y2 (fun _ _ => rfl) (fun j => Or.inr ⟨rfl, fun i' hi' => absurd hi' (Nat.not_lt_zero _)⟩) y3 (fun z => ⟨fun h => Or.inl h, fun h => by
        rcases h with h | ⟨i, h, -⟩
        · exact h
        · exact absurd h (Nat.not_lt_zero _)⟩) (Fr.rf _ _ _ _)
  have fm4 : Fr [25] [6, 9, 10, 17, 18, 33] [] um w4 := y5'.trans (v5.mono (by decide) (by decide) (by decide))
  have hddz : ∀ z, z < Ls → (d2x z = true → dd z = true ∨ (80 ≤ z ∧ z < na) ∨ z = na + n ∨ ∃ r, ndB p1 p2 r = true ∧ r < 1102 ∧ tl Af W n r = z) := by
    intro z hz h
    rcases (x4 z).mp h with q | q
    · exact dzf z hz q
    · exact Or.inr (Or.inr (Or.inl q.2))
  have fin : Tn B T S C W Ls na hb D kv Ak nk K2 d2x (setA Af 6 n sz) nm u2 w4 := by
    refine Tn_end t x2 v3 (fun z hz => ?_) (fun z hz hdz => ?_) v2 twf (RX_ofF (by rw [e 5 (by decide)]; exact h1f) x3) ?_ (x5.1 7 (by decide)) (x5.1 24 (by decide)) (x5.1 0 (by decide)) (tpR_fr al.2.2.2.2.2.2.1 (x5.1 32 (by decide)) (fm4.1 27 (by decide)) (x5.2.1 8 (by decide)) (fm4.2.1 35 (by decide))) (fun q q1 q2 q3 => fm4.1 q (by simp only [List.mem_cons, List.not_mem_nil, or_false]; omega)) (fun q q1 q2 q3 => fm4.2.1 q (by simp only [List.mem_cons, List.not_mem_nil, or_false]; omega)) (fm4.2.2 1 (by decide))
    · rw [Bool.eq_iff_iff, v4 z, x4 z, y4 z, relf z hz, ws z]
      constructor
      · rintro ((h | h) | h)
        · exact Or.inl (Or.inl h)
        · exact Or.inr h
        · exact Or.inl (Or.inr h)
      · rintro ((h | h) | h)
        · exact Or.inl (Or.inl h)
        · exact Or.inr h
        · exact Or.inl (Or.inr h)
    · rw [e 17 (by decide)]
      rcases (x4 z).mp hdz with q | q
      · exact h80f z hz q
      · rw [q.2]
        exact ⟨by omega, t3f.2.2.2 _ (by omega)⟩
    · intro m r hm2 q ht hdz j hj
      rw [et] at ht hdz ⊢
      rw [e 5 (by decide)] at q
      rw [e 18 (by decide)]
      refine nbf m r hm2 q ht ?_ j hj
      cases hq : ddf (tl Af W m r) with
      | false => rfl
      | true =>
        rw [(x4 _).mpr (Or.inl hq)] at hdz
        cases hdz
  refine ⟨u2, w4, K2, d2x, _, ?_, ?_, fin, ?_, (x5.1 32 (by decide)).trans h32, fm4.1 27 (by decide)⟩
  · unfold fX0_write_8 fX0_write_8_b17
    rw [x_kindOf x hn, qb_s, h1, if_neg (show ¬ nI 1 = (3 : Int32) by decide)]
    exact d1.trans x1
  · have e0 : (if (0 : Nat) = len then p2 + 1 else (a + 0) / 64) = p1 := by rw [if_neg (by omega), hp1]; rfl
    rw [e0] at d2
    rw [d2, y1]
    exact v1
  · refine cnt_img (f := fun i => if i < 21 then tl Af W n (p1 + i) else if i = 21 then tl Af W n 1068 else if i = 22 then tl Af W n 1069 else if i < 25 then tl Af W n (1070 + ((p1 - 44) / 32 + (i - 23))) else if i = 25 then na + n else 80 + (i - 26)) 30 dd (fun z hz h => ?_)
    rcases hddz z hz h with q | q | q | ⟨r, q1, q2, q3⟩
    · exact Or.inl q
    · refine Or.inr ⟨26 + (z - 80), by omega, ?_⟩
      show (if _ then _ else _) = z
      rw [if_neg (by omega), if_neg (by omega), if_neg (by omega), if_neg (by omega), if_neg (by omega)]
      omega
    · refine Or.inr ⟨25, by omega, ?_⟩
      exact q.symm
    · right
      rw [← q3]
      have hr := of_decide_eq_true q1
      rcases hr with y | y | y | y
      · refine ⟨r - p1, by omega, ?_⟩
        show (if _ then _ else _) = _
        rw [if_pos (by omega), show p1 + (r - p1) = r by omega]
      · refine ⟨21, by omega, ?_⟩
        rw [y.1]; rfl
      · refine ⟨22, by omega, ?_⟩
        rw [y.1]; rfl
      · refine ⟨23 + (r - 1070 - (p1 - 44) / 32), by omega, ?_⟩
        show (if _ then _ else _) = _
        rw [if_neg (by omega), if_neg (by omega), if_neg (by omega), if_pos (by omega), show 1070 + ((p1 - 44) / 32 + (23 + (r - 1070 - (p1 - 44) / 32) - 23)) = r by omega]
