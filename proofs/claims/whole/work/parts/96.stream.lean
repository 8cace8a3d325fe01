/-! ===== STREAMING and RECOVERING, in both ===== -/
theorem nlv_mark {B T S C W Ls h t : Nat} {cl : Cl} {sm : Option Nat} {p : Nat} {ux um : q_St} (v : vU B T S C W Ls h t cl sm p ux um) {x : Nat} (hx : x < Ls) (hmk : q_a um 4 (x / W) = nI h) : lvx W t um x = false := by
  obtain ⟨⟨gx, gm⟩, vw, -⟩ := v
  have hh := vw.2.2.2.2.1
  unfold lvx
  rw [hmk]
  rcases vw.2.2.2.2.2.2.1 x hx with q | ⟨q, hq, eq⟩
  · have : ¬ nI h ≤ q_a um 3 x := by rw [q]; exact fun z => (i_nlt.mpr z) (m1_lt h (by omega))
    simp [this]
  · have : ¬ nI h ≤ q_a um 3 x := by rw [eq]; exact nI_ge hq (by omega)
    simp [this]
theorem hom_o {W Ls x : Nat} {cl : Cl} (h : ∀ b lim sf tr, cl = some (b, lim, sf, tr) → b ≠ x / W) : hom W Ls cl x = x := by
  unfold hom
  split
  · rename_i b lim tr
    rw [if_neg (h b lim true tr rfl)]
  · rfl
theorem mk_band {W x b : Nat} (h : x / W = b) : b * W + x % W = x := by
  have := Nat.div_add_mod x W
  rw [← h, Nat.mul_comm]
  exact this
theorem l_endS {B T S C W Ls h t b : Nat} {cl : Cl} {ct : Nat → Nat → Int64} {L : Nat → Nat} {N : Nat} {ux um : q_St} (g : Geo B T S C W Ls) (gl : gL B C W Ls L) (hN : 300 ≤ N) (v : flU B T S C W Ls h t cl b W ct ux um) (hmk : q_a um 4 b = nI h) :
    (∃ vx vm, fX8_endStream L N ux = some (0, vx) ∧ mfe N um = some (0, vm) ∧ vU B T S C W Ls h t cl (some b) (prg cl) vx vm ∧ q_i vx 7 = 0 ∧ q_a vm 4 = q_a um 4 ∧ ∀ x w, x < Ls → w < 8 → dsk C W Ls t cl vx vm x w = dsk C W Ls t cl ux um x w) ∨
    (∃ t2 vx vm, fX8_endStream L N ux = some (1, vx) ∧ mfe N um = some (1, vm) ∧ vU B T S C W Ls h t2 cl none (prg cl) vx vm ∧ q_i vx 7 = q_i ux 7 ∧ ∀ x w, x < Ls → w < 8 → dsk C W Ls t2 cl vx vm x w = if x / W = b then ct (x % W) w else dsk C W Ls t cl ux um x w) := by
  have hw := g.w
  obtain ⟨v, hc⟩ := v
  obtain ⟨⟨gx, gm⟩, vw, vr, cr, lr, ⟨k1, ks⟩, vc, e1, e2, e3, e4⟩ := id v
  have hbo : ∀ x, x / W = b → ∀ b' lim sf tr, cl = some (b', lim, sf, tr) → b' ≠ x / W := by
    intro x hx b' lim sf tr he e
    rw [hx] at e
    exact (vc.2 b' lim sf tr he).1.2 (by rw [e])
  unfold fX8_endStream mfe
  rcases l_record (L := L) (N := N) cr.2.1 with ⟨s1, s2⟩ | ⟨c, s1, s2⟩
  · left
    rw [s1, s2, qb_s, qb_s, if_pos rfl, if_pos rfl]
    exact ⟨_, _, rfl, rfl, off_rec v, rfl, rfl, fun _ _ _ _ => rfl⟩
  · right
    have m1 : vU B T S C W Ls h t cl none (prg cl) (q_si (q_si (q_si ux 8 c) 12 (q_i ux 12 + 1)) 20 (-1)) (q_si (q_si (q_si um 10 c) 14 (q_i um 14 + 1)) 24 (-1)) := by
      refine ⟨⟨gx, gm⟩, vw, vr, (on_rec (c := c) cr : cR (q_si (q_si ux 8 c) 12 (q_i ux 12 + 1)) (q_si (q_si um 10 c) 14 (q_i um 14 + 1))), lr, ⟨?_, rfl, rfl⟩, ⟨fun x hx q1 q2 => ?_, fun b' lim sf tr he => ?_⟩, e1, e2, e3, (fun b' he => by cases he)⟩
      · cases cl with
        | none => exact k1
        | some q => exact k1
      · by_cases hxb : x / W = b
        · rw [hom_o (hbo x hxb)]
          have := (hc (x % W) (Nat.mod_lt x (by omega))).1
          rw [mk_band hxb] at this
          exact this
        · exact vc.1 x hx q1 (fun z => by cases z; exact hxb rfl)
      · obtain ⟨r1, r2, r3, r4⟩ := vc.2 b' lim sf tr he
        exact ⟨⟨r1.1, (fun z => by cases z)⟩, r2, r3, r4⟩
    obtain ⟨⟨gx2, gm2⟩, vw2, vr2, -⟩ := id m1
    have o := old_ok (T := T) (S := S) vw2
    have ox := x_oldest (N := N) g gl gx2 vw2 vr2 hN
    have om := m_oldest (N := N) g gm2 vw2 hN
    obtain ⟨n1, n2⟩ := mv_tail g m1 o.1 o.2.1 o.2.2
    rw [s1, s2, qb_s, qb_s, if_neg (by decide), if_neg (by decide), qn_s, qn_s, ox, om, qb_s, qb_s, qn_s, qn_s]
    refine ⟨_, _, _, rfl, rfl, n1, rfl, fun x w hx hw8 => ?_⟩
    rw [n2 x w hx]
    by_cases hxb : x / W = b
    · rw [if_pos hxb]
      have hlv := nlv_mark v hx (by rw [hxb]; exact hmk)
      have := (hc (x % W) (Nat.mod_lt x (by omega))).2 w hw8
      rw [mk_band hxb] at this
      show sec ux (if lvx W t um x = true then Ls + W + lat um x % C else hom W Ls cl x) w = ct (x % W) w
      rw [hlv, if_neg (by decide), hom_o (hbo x hxb)]
      exact this
    · rw [if_neg hxb]
      rfl
theorem bo8_fr {L : Nat → Nat} {N : Nat} {o r : Int32} {u v : q_St} (h : fX7_byteOf_8 L N o u = some (r, u)) (h1 : q_i v 32 = q_i u 32) (h2 : q_a v 8 = q_a u 8) : fX7_byteOf_8 L N o v = some (r, v) := by
  unfold fX7_byteOf_8 at h ⊢
  rw [h1, h2]
  by_cases c0 : o < 0
  · rw [if_pos c0] at h ⊢; cases h; rfl
  · rw [if_neg c0] at h ⊢
    by_cases c1 : q_i u 32 ≤ o
    · rw [if_pos c1] at h ⊢; cases h; rfl
    · rw [if_neg c1] at h ⊢
      by_cases c2 : nI (L 13) ≤ o
      · rw [if_pos c2] at h ⊢; cases h; rfl
      · rw [if_neg c2] at h ⊢
        unfold q_rd at h ⊢
        by_cases c3 : o < 0 ∨ L 13 ≤ o.toNatClampNeg
        · rw [if_pos c3] at h; cases h
        · rw [if_neg c3] at h ⊢; cases h; rfl
theorem nxt_lt {n : Nat} (h : 0 < n) : ∀ m, nxt n m < n
  | 0 => h
  | m + 1 => by
    have := nxt_lt h m
    simp only [nxt]
    split <;> omega
theorem nxt_0 : ∀ m, nxt 0 m = 0
  | 0 => rfl
  | m + 1 => by simp only [nxt]; rw [if_pos (Nat.zero_le _)]
theorem tpQ_8 {B C W Ls : Nat} {L : Nat → Nat} {N n : Nat} {u : q_St} (gl : gL B C W Ls L) (h0 : 0 < n) (hn : n ≤ 1280) (h : q_i u 32 = nI n) : tpQ (fX7_byteOf_8 L N) 32 n (q_a u 8) u := by
  refine ⟨h, fun m => ?_⟩
  have hl := nxt_lt h0 m
  unfold fX7_byteOf_8
  rw [if_neg (nI_pos (by omega)), h, if_neg (nI_ge hl (by omega)), gl.2.2.2.2.2.2.2.2.2.2.2.2.2.1, if_neg (nI_ge (by omega) (by omega)), qr_n (by omega) (by omega)]
theorem tpQ_8P {L : Nat → Nat} {N n : Nat} {tb : Nat → Int32} (u : q_St) (pg : Nat → Int64) (h : tpQ (fX7_byteOf_8 L N) 32 n tb u) : tpQ (fX7_byteOf_8 L N) 32 n tb (q_sj u 1 pg) := ⟨h.1, fun m => bo8_fr (h.2 m) rfl rfl⟩
theorem tpQ_8S {L : Nat → Nat} {N n : Nat} {tb : Nat → Int32} (u : q_St) (x r : Int32) (v : q_St) (hf : fX2_writeShingle_18 L N x 0 u = some (r, v)) (h : tpQ (fX7_byteOf_8 L N) 32 n tb u) : tpQ (fX7_byteOf_8 L N) 32 n tb v := by
  have f := fr_X2_writeShingle_18 hf
  exact ⟨(f.1 32 (by decide)).trans h.1, fun m => bo8_fr (h.2 m) (f.1 32 (by decide)) (f.2.1 8 (by decide))⟩
theorem tpQ_9 {L : Nat → Nat} {N : Nat} {u : q_St} (h : q_i u 33 = 0) : tpQ (fX7_byteOf_9 L N) 33 0 (fun _ => 0) u := by
  refine ⟨h, fun m => ?_⟩
  unfold fX7_byteOf_9
  rw [nxt_0, if_neg (by decide), h, if_pos (by decide)]
theorem tpQ_9P {L : Nat → Nat} {N : Nat} (u : q_St) (pg : Nat → Int64) (h : tpQ (fX7_byteOf_9 L N) 33 0 (fun _ => 0) u) : tpQ (fX7_byteOf_9 L N) 33 0 (fun _ => 0) (q_sj u 1 pg) := tpQ_9 h.1
theorem tpQ_9S {L : Nat → Nat} {N : Nat} (u : q_St) (x r : Int32) (v : q_St) (hf : fX2_writeShingle_18 L N x 0 u = some (r, v)) (h : tpQ (fX7_byteOf_9 L N) 33 0 (fun _ => 0) u) : tpQ (fX7_byteOf_9 L N) 33 0 (fun _ => 0) v := tpQ_9 (((fr_X2_writeShingle_18 hf).1 33 (by decide)).trans h.1)
/-- the STREAMED band is marked -/
theorem str_vU {B T S C W Ls h t b : Nat} {cl : Cl} {ux um : q_St} {c : Int32} (g : Geo B T S C W Ls) (v : vU B T S C W Ls h t cl none (prg cl) ux um) (hb : b < B) (hcl : ∀ b' lim sf tr, cl = some (b', lim, sf, tr) → b' ≠ b) :
    vU B T S C W Ls h t cl (some b) (prg cl) (q_si (q_sa (q_si (q_si ux 8 c) 12 (q_i ux 12 + 1)) 1 (upd (q_a ux 1) b (nI h))) 20 (nI b)) (q_si (q_sa (q_si (q_si um 10 c) 14 (q_i um 14 + 1)) 4 (upd (q_a um 4) b (nI h))) 24 (nI b)) ∧
    ∀ x w, x < Ls → w < 8 → ¬ x / W = b → dsk C W Ls t cl (q_si (q_sa (q_si (q_si ux 8 c) 12 (q_i ux 12 + 1)) 1 (upd (q_a ux 1) b (nI h))) 20 (nI b)) (q_si (q_sa (q_si (q_si um 10 c) 14 (q_i um 14 + 1)) 4 (upd (q_a um 4) b (nI h))) 24 (nI b)) x w = dsk C W Ls t cl ux um x w := by
  have hw := g.w
  obtain ⟨a1, a2, a3, a4, a5, a6⟩ := id g
  obtain ⟨⟨gx, gm⟩, vw, vr, cr, lr, ⟨k1, ks⟩, vc, e1, e2, e3, e4⟩ := id v
  obtain ⟨um2, hum2⟩ : ∃ q, q = (q_si (q_sa (q_si (q_si um 10 c) 14 (q_i um 14 + 1)) 4 (upd (q_a um 4) b (nI h))) 24 (nI b)) := ⟨_, rfl⟩
  rw [← hum2]
  have oth : ∀ x, ¬ x / W = b → lvx W t um2 x = lvx W t um x := by
    intro x hx
    rw [hum2]
    show (decide (nI t ≤ q_a um 3 x) && decide (upd (q_a um 4) b (nI h) (x / W) ≤ q_a um 3 x)) = _
    rw [up_n hx]
    rfl
  have hlat : ∀ x, lat um2 x = lat um x := by intro x; rw [hum2]; rfl
  have dk : ∀ x w, ¬ x / W = b → dsk C W Ls t cl (q_si (q_sa (q_si (q_si ux 8 c) 12 (q_i ux 12 + 1)) 1 (upd (q_a ux 1) b (nI h))) 20 (nI b)) um2 x w = dsk C W Ls t cl ux um x w := by
    intro x w hx
    show sec ux (if lvx W t um2 x = true then Ls + W + lat um2 x % C else hom W Ls cl x) w = _
    rw [oth x hx, hlat]
    rfl
  refine ⟨⟨⟨gx, by rw [hum2]; exact gm⟩, ?_, ?_, by rw [hum2]; exact on_rec cr, by rw [hum2]; exact lr, ⟨?_, rfl, by rw [hum2]; rfl⟩, ⟨?_, ?_⟩, by rw [hum2]; exact e1, by rw [hum2]; exact e2, e3, (fun b' he => by cases he; exact hb)⟩, fun x w hx hw8 hxb => dk x w hxb⟩
  · rw [hum2]
    refine ⟨vw.1, vw.2.1, vw.2.2.1, vw.2.2.2.1, vw.2.2.2.2.1, vw.2.2.2.2.2.1, vw.2.2.2.2.2.2.1, fun b' hb' => ?_⟩
    show ∃ k, k ≤ h ∧ upd (q_a um 4) b (nI h) b' = nI k
    by_cases hbb : b' = b
    · rw [hbb, up_s]; exact ⟨h, Nat.le_refl _, rfl⟩
    · rw [up_n hbb]; exact vw.2.2.2.2.2.2.2 b' hb'
  · rw [hum2]
    refine ⟨vr.1, vr.2.1, vr.2.2.1, vr.2.2.2.1, fun b' hb' => ?_⟩
    show upd (q_a ux 1) b (nI h) b' = upd (q_a um 4) b (nI h) b'
    by_cases hbb : b' = b
    · rw [hbb, up_s, up_s]
    · rw [up_n hbb, up_n hbb]; exact vr.2.2.2.2 b' hb'
  · rw [hum2]
    cases cl with
    | none => exact k1
    | some q => exact k1
  · intro x hx q1 q2
    have hxb : ¬ x / W = b := fun e => q2 (by rw [e])
    exact vc.1 x hx ((oth x hxb).symm.trans q1) (fun z => by cases z)
  · intro b' lim sf tr he
    obtain ⟨r1, r2, r3, r4⟩ := vc.2 b' lim sf tr he
    have hbb := hcl b' lim sf tr he
    have hb' := e3 b' lim sf tr he
    refine ⟨⟨r1.1, fun z => hbb (by cases z; rfl)⟩, fun x hx q1 q2 => ?_, fun i hi q1 => ⟨(r3 i hi q1).1, fun q2 w hw8 => ?_⟩, r4⟩
    · rw [oth x (by rw [q1]; exact hbb)]
      refine r2 x hx q1 ?_
      rw [hum2] at q2
      exact q2
    · have hxb : ¬ (b' * W + i) / W = b := by rw [(in_band hb' hi).2]; exact hbb
      rw [dk _ w hxb]
      refine (r3 i hi q1).2 ?_ w hw8
      rw [hum2] at q2
      exact q2
theorem cl_band {T : Nat} {cl : Cl} {sm : Option Nat} {ux um : q_St} {b : Nat} (kr : kR T cl sm ux um) (h : ¬ q_i um 19 = nI b) : ∀ b' lim sf tr, cl = some (b', lim, sf, tr) → b' ≠ b := by
  intro b' lim sf tr he e
  rw [he] at kr
  exact h (by rw [← e]; exact kr.1.2.1)
theorem l_stream {B T S C W Ls hb b n : Nat} {D : Nat → Nat → Int64} {L : Nat → Nat} {N : Nat} {ux um : q_St} (g : Geo B T S C W Ls) (gl : gL B C W Ls L) (hN : 800 ≤ N) (v : VV B T S C W Ls hb none D ux um) (hbB : b < B) (hcl : ¬ q_i um 19 = nI b) (h0 : 0 < n) (hn : n ≤ 1280) (h32 : q_i ux 32 = nI n) :
    ∃ r vx vm, fX8_stream_8 L N (nI b) ux = some (r, vx) ∧ fX11_stream N (nI b) um = some (r, vm) ∧ ((r = 0 ∧ q_i vx 7 = 0 ∧ ∃ sm D2, (sm = none ∨ sm = some b) ∧ VV B T S C W Ls hb sm D2 vx vm ∧ ∀ x w, x < Ls → w < 8 → ¬ x / W = b → D2 x w = D x w) ∨
      (r = 1 ∧ q_i vx 7 = q_i ux 7 ∧ VV B T S C W Ls hb none (fun x w => if x / W = b then ctw n (q_a ux 8) (x % W) w else D x w) vx vm)) := by
  have hw := g.w
  obtain ⟨a1, a2, a3, a4, a5, a6⟩ := id g
  obtain ⟨h, t, cl, hhb, hv, -, hd⟩ := v
  obtain ⟨⟨gx, gm⟩, vw, vr, cr, lr, kr, -⟩ := id hv
  have hclb := cl_band kr hcl
  unfold fX8_stream_8 fX11_stream
  rw [if_neg (nI_pos (by omega)), gl.2.2.1, if_neg (nI_ge hbB (by omega))]
  rcases l_record (L := L) (N := N) cr.2.1 with ⟨s1, s2⟩ | ⟨c, s1, s2⟩
  · rw [s1, s2, qb_s, qb_s, if_pos rfl, if_pos rfl]
    exact ⟨0, _, _, rfl, rfl, Or.inl ⟨rfl, rfl, none, D, Or.inl rfl, ⟨h, t, cl, hhb, off_rec hv, (fun b e => by cases e), hd⟩, fun _ _ _ _ _ => rfl⟩⟩
  · obtain ⟨m1, m2⟩ := str_vU (c := c) g hv hbB hclb
    rw [s1, s2, qb_s, qb_s, if_neg (by decide), if_neg (by decide), qw_n hbB (by omega), qw_n (by omega) (by omega), cl_n (by omega), qn_s, qn_s]
    have eh : q_i ux 14 = nI h := vr.1.trans vw.1
    have E1 : (q_si (q_sa (q_si (q_si ux 8 c) 12 (q_i ux 12 + 1)) 1 (upd (q_a (q_si (q_si ux 8 c) 12 (q_i ux 12 + 1)) 1) b (q_i (q_si (q_si ux 8 c) 12 (q_i ux 12 + 1)) 14))) 20 (nI b)) = (q_si (q_sa (q_si (q_si ux 8 c) 12 (q_i ux 12 + 1)) 1 (upd (q_a ux 1) b (nI h))) 20 (nI b)) := by
      rw [← eh]; rfl
    have E2 : (q_si (q_sa (q_si (q_si um 10 c) 14 (q_i um 14 + 1)) 4 (upd (q_a (q_si (q_si um 10 c) 14 (q_i um 14 + 1)) 4) b (q_i (q_si (q_si um 10 c) 14 (q_i um 14 + 1)) 17))) 24 (nI b)) = (q_si (q_sa (q_si (q_si um 10 c) 14 (q_i um 14 + 1)) 4 (upd (q_a um 4) b (nI h))) 24 (nI b)) := by
      rw [← vw.1]; rfl
    rw [E1, E2]
    obtain ⟨ux2, hux2⟩ : ∃ q, q = (q_si (q_sa (q_si (q_si ux 8 c) 12 (q_i ux 12 + 1)) 1 (upd (q_a ux 1) b (nI h))) 20 (nI b)) := ⟨_, rfl⟩
    obtain ⟨um2, hum2⟩ : ∃ q, q = (q_si (q_sa (q_si (q_si um 10 c) 14 (q_i um 14 + 1)) 4 (upd (q_a um 4) b (nI h))) 24 (nI b)) := ⟨_, rfl⟩
    have k8 : q_a ux2 8 = q_a ux 8 := by rw [hux2]; rfl
    have k32 : q_i ux2 32 = nI n := by rw [hux2]; exact h32
    have k7 : q_i ux2 7 = q_i ux 7 := by rw [hux2]; rfl
    have k4 : q_a um2 4 b = nI h := by rw [hum2]; exact up_s
    rw [← hux2, ← hum2] at m1 m2 ⊢
    have hQ : tpQ (fX7_byteOf_8 L N) 32 n (q_a ux 8) ux2 := by rw [← k8]; exact tpQ_8 gl h0 hn k32
    have hf := l_fillt (N := N) (b := b) g gl (by omega) (by omega) tpQ_8P tpQ_8S T 0 N N ux2 um2 (by omega) (by omega) (by omega) ⟨m1, fun j hj => by omega⟩ hQ
    rw [gf_8]
    unfold fX11_fill
    rcases hf with ⟨wx, wm, z1, z2, z3, z4, z5, z6⟩ | ⟨wx, wm, z1, z2, z3, z4, z5, z6⟩
    · have z1 : q_lp (gf4 (fX7_byteOf_8 L N) 32 L N) (fun _ _ _ => none) N 0 0 ux2 = some (0, wx) := z1
      have z2 : q_lp (fX11_fill_b2 N) (fun _ _ => none) N 0 um2 = some (0, wm) := z2
      rw [z1, z2, qb_s, qb_s, if_pos rfl]
      refine ⟨0, wx, wm, rfl, rfl, Or.inl ⟨rfl, z4, some b, dsk C W Ls t cl wx wm, Or.inr rfl, ⟨h, t, cl, hhb, z3, (fun b' e => by cases e; rw [z5]; exact k4), fun _ _ _ _ => rfl⟩, fun x w hx hw8 hxb => ((z6 x w hx hw8 hxb).trans (m2 x w hx hw8 hxb)).trans (hd x w hx hw8)⟩⟩
    · have z1 : q_lp (gf4 (fX7_byteOf_8 L N) 32 L N) (fun _ _ _ => none) N 0 0 ux2 = some (1, wx) := z1
      have z2 : q_lp (fX11_fill_b2 N) (fun _ _ => none) N 0 um2 = mfe N wm := z2
      rw [z1, z2, qb_s, if_neg (by decide)]
      rcases l_endS (N := N) g gl (by omega) z3 (by rw [z5]; exact k4) with ⟨yx, ym, y1, y2, y3, y4, y5, y6⟩ | ⟨t2, yx, ym, y1, y2, y3, y4, y6⟩
      · rw [y1, y2, qb_s, qb_s, if_pos rfl]
        exact ⟨0, yx, ym, rfl, rfl, Or.inl ⟨rfl, y4, some b, dsk C W Ls t cl yx ym, Or.inr rfl, ⟨h, t, cl, hhb, y3, (fun b' e => by cases e; rw [y5, z5]; exact k4), fun _ _ _ _ => rfl⟩, fun x w hx hw8 hxb => (((y6 x w hx hw8).trans (z6 x w hx hw8 hxb)).trans (m2 x w hx hw8 hxb)).trans (hd x w hx hw8)⟩⟩
      · rw [y1, y2, qb_s, qb_s, if_neg (by decide)]
        refine ⟨1, yx, ym, rfl, rfl, Or.inr ⟨rfl, y4.trans (z4.trans k7), ⟨h, t2, cl, hhb, y3, (fun b' e => by cases e), fun x w hx hw8 => ?_⟩⟩⟩
        rw [y6 x w hx hw8]
        dsimp only
        by_cases hxb : x / W = b
        · rw [if_pos hxb, if_pos hxb]
        · rw [if_neg hxb, if_neg hxb]
          exact ((z6 x w hx hw8 hxb).trans (m2 x w hx hw8 hxb)).trans (hd x w hx hw8)
