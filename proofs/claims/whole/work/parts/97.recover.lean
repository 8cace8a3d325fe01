/-! ===== RECOVERING, in both ===== -/
theorem mst_5 {N : Nat} {um : q_St} (hk : fX11_nextKind N um = some (5, um)) : fX11_step N um = q_lp (fX11_step_b197 N) (fun _ _ _ _ => none) N 5 1 0 um := by
  unfold fX11_step
  rw [hk, qb_s, if_neg (by decide), if_neg (by decide), if_neg (by decide), if_neg (by decide), if_pos rfl]
theorem mst_6 {N : Nat} {um : q_St} (hk : fX11_nextKind N um = some (6, um)) : fX11_step N um = q_bnd (fX11_done N um) (fun r42 u43 => fX11_step_b248 N 6 r42 u43) := by
  unfold fX11_step
  rw [hk, qb_s, if_neg (by decide), if_neg (by decide), if_neg (by decide), if_neg (by decide), if_neg (by decide), if_pos rfl]
theorem l_recL {B T S C W Ls h t b lim : Nat} {sm : Option Nat} {L : Nat → Nat} {N : Nat} (g : Geo B T S C W Ls) (gl : gL B C W Ls L) (hN : 300 ≤ N) : ∀ (k tr n1 n2 : Nat) (ux um : q_St), tr + k = T → k < n1 → k + 1 < n2 → vU B T S C W Ls h t (some (b, lim, true, tr)) sm (8 * tr) ux um →
    (∃ cl2 vx vm, q_lp (fX8_recover_b27 L N) (fun _ _ => none) n1 (nI tr) ux = some (0, vx) ∧ q_lp (fX11_recovers_b38 N) (fun _ => none) n2 um = some (0, vm) ∧ vU B T S C W Ls h t cl2 sm (prg cl2) vx vm ∧ q_i vx 7 = 0 ∧ q_a vm 4 = q_a um 4 ∧ ∀ x w, x < Ls → w < 8 → dsk C W Ls t cl2 vx vm x w = dsk C W Ls t (some (b, lim, true, tr)) ux um x w) ∨
    (∃ t2 vx vm, q_lp (fX8_recover_b27 L N) (fun _ _ => none) n1 (nI tr) ux = fX8_recover_b62 L N vx ∧ q_lp (fX11_recovers_b38 N) (fun _ => none) n2 um = fX11_recovers_b57 N vm ∧ vU B T S C W Ls h t2 none sm 0 vx vm ∧ q_i vx 7 = q_i ux 7 ∧ q_a vm 4 = upd (q_a um 4) b (nI lim) ∧ (∀ x w, x < Ls → w < 8 → dsk C W Ls t2 none vx vm x w = dsk C W Ls t (some (b, lim, true, tr)) ux um x w) ∧ Fr wi_X11_step wa_X11_step wj_X11_step um vm) := by
  obtain ⟨a1, a2, a3, a4, a5, a6⟩ := id g
  intro k
  induction k with
  | zero =>
    intro tr n1 n2 ux um h1 h2 h3 v
    have : tr = T := by omega
    subst this
    obtain ⟨⟨gx, gm⟩, vw, vr, cr, lr, ⟨k1, ks⟩, vc, e1, e2, e3, e4⟩ := id v
    have hb : b < B := e3 b lim true tr rfl
    have hk : fX11_nextKind N um = some (6, um) := by
      have := (l_nextKind (N := N) g gl hN v).2
      unfold knd at this
      dsimp only at this
      rw [if_neg (by omega)] at this
      exact this
    rw [lp_1 (fX8_recover_b27 L N) _ (n := n1) (by omega), fX8_recover_b27, gx.2.1, if_pos (nI_le (by omega) (by omega)), lp_1 (fX11_recovers_b38 N) _ (n := n2) (by omega), fX11_recovers_b38, k1.2.1, if_neg (m1_ne b (by omega)), mst_6 hk]
    rcases l_done (N := N) g gl hN v with ⟨vx, vm, f1, f2, f3, f4, f6, f5⟩ | ⟨t2, vx, vm, f1, f2, f3, f4, f6, f5⟩
    · left
      rw [f1, f2, qb_s, qb_s, if_pos rfl]
      unfold fX11_step_b248
      rw [if_pos rfl, qb_s, if_pos rfl]
      exact ⟨some (b, lim, true, tr), vx, vm, rfl, rfl, f3, f4, f6, f5⟩
    · right
      have hs : fX11_step N um = some (6, vm) := (mst_6 hk).trans (by rw [f2, qb_s]; unfold fX11_step_b248; rw [if_neg (by decide)])
      rw [f1, f2, qb_s, qb_s, if_neg (by decide)]
      unfold fX11_step_b248
      rw [if_neg (by decide), qb_s, if_neg (by decide), lp_1 (fX11_recovers_b38 N) _ (n := n2 - 1) (by omega), fX11_recovers_b38, f3.2.2.2.2.2.1.1.2.1, if_pos rfl]
      exact ⟨t2, vx, vm, rfl, rfl, f3, f4, f6, f5, fr_X11_step hs⟩
  | succ k ih =>
    intro tr n1 n2 ux um h1 h2 h3 v
    obtain ⟨⟨gx, gm⟩, vw, vr, cr, lr, ⟨k1, ks⟩, vc, e1, e2, e3, e4⟩ := id v
    have hb : b < B := e3 b lim true tr rfl
    have hk : fX11_nextKind N um = some (5, um) := by
      have := (l_nextKind (N := N) g gl hN v).2
      unfold knd at this
      dsimp only at this
      rw [if_pos (by omega)] at this
      exact this
    rw [lp_1 (fX8_recover_b27 L N) _ (n := n1) (by omega), fX8_recover_b27, gx.2.1, if_neg (nI_ge (by omega) (by omega)), lp_1 (fX11_recovers_b38 N) _ (n := n2) (by omega), fX11_recovers_b38, k1.2.1, if_neg (m1_ne b (by omega)), mst_5 hk]
    unfold fX8_bringBack
    rcases l_backL (N := N) g gl hN (show tr < T by omega) 8 0 N N ux um (by omega) (by omega) (by omega) v with ⟨vx, vm, f1, f2, f3, f4, f6, f5⟩ | ⟨vx, vm, f1, f2, f3, f4, f6, f5⟩
    · left
      have f1 : q_lp (fX8_bringBack_b2 L N) (fun _ _ => none) N 0 ux = some (0, vx) := f1
      have f2 : q_lp (fX11_step_b197 N) (fun _ _ _ _ => none) N 5 1 0 um = some (-99, vm) := f2
      rw [f1, f2, qb_s, qb_s, if_pos rfl, if_pos rfl]
      exact ⟨some (b, lim, true, tr), vx, vm, rfl, rfl, f3, f4, f6, f5⟩
    · have f1 : q_lp (fX8_bringBack_b2 L N) (fun _ _ => none) N 0 ux = some (1, vx) := f1
      have f2 : q_lp (fX11_step_b197 N) (fun _ _ _ _ => none) N 5 1 0 um = some (5, vm) := f2
      rw [f1, f2, qb_s, qb_s, if_neg (by decide), if_neg (by decide), qn_s, nI_1]
      rcases ih (tr + 1) (n1 - 1) (n2 - 1) vx vm (by omega) (by omega) (by omega) f3 with ⟨cl2, wx, wm, z1, z2, z3, z4, z5, z6⟩ | ⟨t2, wx, wm, z1, z2, z3, z4, z5, z6, z7⟩
      · exact Or.inl ⟨cl2, wx, wm, z1, z2, z3, z4, z5.trans f6, fun x w hx hw8 => (z6 x w hx hw8).trans (f5 x w hx hw8)⟩
      · refine Or.inr ⟨t2, wx, wm, z1, z2, z3, z4.trans f4, ?_, fun x w hx hw8 => (z6 x w hx hw8).trans (f5 x w hx hw8), (fr_X11_step ((mst_5 hk).trans f2)).trans z7⟩
        rw [z5, f6]
/-- behind the cleaner: a band that was being STREAMED is filled -/
theorem l_rec62 {B T S C W Ls hb h t : Nat} {sm : Option Nat} {L : Nat → Nat} {N : Nat} {ux um : q_St} (g : Geo B T S C W Ls) (gl : gL B C W Ls L) (hN : 800 ≤ N) (hhb : h ≤ hb) (v : vU B T S C W Ls h t none sm 0 ux um) (hmk : ∀ b, sm = some b → q_a um 4 b = nI h) :
    (∃ vx vm sm2 D2, fX8_recover_b62 L N ux = some (0, vx) ∧ fX11_recovers_b57 N um = some (0, vm) ∧ q_i vx 7 = 0 ∧ (sm2 = sm ∨ sm2 = none) ∧ VV B T S C W Ls hb sm2 D2 vx vm ∧ ∀ x w, x < Ls → w < 8 → sm ≠ some (x / W) → D2 x w = dsk C W Ls t none ux um x w) ∨
    (∃ vx vm D2, fX8_recover_b62 L N ux = some (1, vx) ∧ fX11_recovers_b57 N um = fX11_recovers_b74 N vm ∧ q_i vx 7 = q_i ux 7 ∧ VV B T S C W Ls hb none D2 vx vm ∧ (∀ x w, x < Ls → w < 8 → sm ≠ some (x / W) → D2 x w = dsk C W Ls t none ux um x w) ∧ Fr wi_X11_fill wa_X11_fill wj_X11_fill um vm) := by
  have hw := g.w
  obtain ⟨a1, a2, a3, a4, a5, a6⟩ := id g
  obtain ⟨⟨gx, gm⟩, vw, vr, cr, lr, ⟨k1, ks⟩, vc, e1, e2, e3, e4⟩ := id v
  unfold fX8_recover_b62 fX11_recovers_b57 fX8_recover_b88
  cases sm with
  | none =>
    right
    rw [if_pos ks.1, if_pos ks.2]
    exact ⟨ux, um, dsk C W Ls t none ux um, rfl, rfl, rfl, ⟨h, t, none, hhb, v, (fun b e => by cases e), fun _ _ _ _ => rfl⟩, fun _ _ _ _ _ => rfl, Fr.rf _ _ _ _⟩
  | some b =>
    have hbB : b < B := e4 b rfl
    have hm := hmk b rfl
    rw [ks.1, ks.2, if_neg (m1_ne b (by omega)), if_neg (m1_ne b (by omega)), gf_9]
    unfold fX11_fill
    have hQ : tpQ (fX7_byteOf_9 L N) 33 0 (fun _ => 0) ux := tpQ_9 gx.2.2.2.2.2.2.2.2.2.2.2.2.2
    have hxw : ∀ x, (some b : Option Nat) ≠ some (x / W) → ¬ x / W = b := fun x hx e => hx (by rw [e])
    rcases l_fillt (N := N) (b := b) (cl := none) g gl (by omega) (by omega) tpQ_9P tpQ_9S T 0 N N ux um (by omega) (by omega) (by omega) ⟨v, fun j hj => by omega⟩ hQ with ⟨wx, wm, z1, z2, z3, z4, z5, z6⟩ | ⟨wx, wm, z1, z2, z3, z4, z5, z6⟩
    · left
      have z1 : q_lp (gf4 (fX7_byteOf_9 L N) 33 L N) (fun _ _ _ => none) N 0 0 ux = some (0, wx) := z1
      have z2 : q_lp (fX11_fill_b2 N) (fun _ _ => none) N 0 um = some (0, wm) := z2
      rw [z1, z2, qb_s, qb_s, if_pos rfl, if_pos rfl]
      exact ⟨wx, wm, some b, dsk C W Ls t none wx wm, rfl, rfl, z4, Or.inl rfl, ⟨h, t, none, hhb, z3, (fun b' e => by cases e; rw [z5]; exact hm), fun _ _ _ _ => rfl⟩, fun x w hx hw8 hxb => z6 x w hx hw8 (hxw x hxb)⟩
    · have z1 : q_lp (gf4 (fX7_byteOf_9 L N) 33 L N) (fun _ _ _ => none) N 0 0 ux = some (1, wx) := z1
      have z2 : q_lp (fX11_fill_b2 N) (fun _ _ => none) N 0 um = mfe N wm := z2
      rw [z1, z2, qb_s, if_neg (by decide)]
      rcases l_endS (N := N) g gl (by omega) z3 (by rw [z5]; exact hm) with ⟨yx, ym, y1, y2, y3, y4, y5, y6⟩ | ⟨t2, yx, ym, y1, y2, y3, y4, y6⟩
      · left
        rw [y1, y2, qb_s, qb_s, if_pos rfl, if_pos rfl]
        exact ⟨yx, ym, some b, dsk C W Ls t none yx ym, rfl, rfl, y4, Or.inl rfl, ⟨h, t, none, hhb, y3, (fun b' e => by cases e; rw [y5, z5]; exact hm), fun _ _ _ _ => rfl⟩, fun x w hx hw8 hxb => (y6 x w hx hw8).trans (z6 x w hx hw8 (hxw x hxb))⟩
      · right
        have hf : fX11_fill N um = some (1, ym) := z2.trans y2
        rw [y1, y2, qb_s, qb_s, if_neg (by decide), if_neg (by decide)]
        refine ⟨yx, ym, dsk C W Ls t2 none yx ym, rfl, rfl, y4.trans z4, ⟨h, t2, none, hhb, y3, (fun b' e => by cases e), fun _ _ _ _ => rfl⟩, fun x w hx hw8 hxb => ?_, fr_X11_fill hf⟩
        rw [y6 x w hx hw8, if_neg (hxw x hxb)]
        exact z6 x w hx hw8 (hxw x hxb)
theorem l_recover {B T S C W Ls hb : Nat} {sm : Option Nat} {D : Nat → Nat → Int64} {L : Nat → Nat} {N : Nat} {ux um : q_St} (g : Geo B T S C W Ls) (gl : gL B C W Ls L) (hN : 800 ≤ N) (v : VV B T S C W Ls hb sm D ux um) :
    (∃ vx vm sm2 D2, fX8_recover L N ux = some (0, vx) ∧ fX11_recovers N um = some (0, vm) ∧ q_i vx 7 = 0 ∧ (sm2 = sm ∨ sm2 = none) ∧ VV B T S C W Ls hb sm2 D2 vx vm ∧ ∀ x w, x < Ls → w < 8 → sm ≠ some (x / W) → D2 x w = D x w) ∨
    (∃ vx vm D2, fX8_recover L N ux = some (1, vx) ∧ fX11_recovers N um = fX11_recovers_b74 N vm ∧ q_i vx 7 = q_i ux 7 ∧ VV B T S C W Ls hb none D2 vx vm ∧ (∀ x w, x < Ls → w < 8 → sm ≠ some (x / W) → D2 x w = D x w) ∧ Fr wi_X11_recovers wa_X11_recovers wj_X11_recovers um vm) := by
  have hw := g.w
  obtain ⟨a1, a2, a3, a4, a5, a6⟩ := id g
  obtain ⟨h, t, cl, hhb, hv, hmk, hd⟩ := v
  obtain ⟨⟨gx, gm⟩, vw, vr, cr, lr, ⟨k1, ks⟩, vc, e1, e2, e3, e4⟩ := id hv
  -- no band is being cleaned, or it is forgotten
  have idle : ∀ vx vm, vU B T S C W Ls h t none sm 0 vx vm → q_i vx 7 = q_i ux 7 → q_a vm 4 = q_a um 4 → Fr wi_X11_recovers wa_X11_recovers wj_X11_recovers um vm → (∀ x w, x < Ls → w < 8 → dsk C W Ls t none vx vm x w = D x w) →
      (∃ wx wm sm2 D2, fX8_recover_b17 L N vx = some (0, wx) ∧ fX11_recovers_b20 N vm = some (0, wm) ∧ q_i wx 7 = 0 ∧ (sm2 = sm ∨ sm2 = none) ∧ VV B T S C W Ls hb sm2 D2 wx wm ∧ ∀ x w, x < Ls → w < 8 → sm ≠ some (x / W) → D2 x w = D x w) ∨
      (∃ wx wm D2, fX8_recover_b17 L N vx = some (1, wx) ∧ fX11_recovers_b20 N vm = fX11_recovers_b74 N wm ∧ q_i wx 7 = q_i ux 7 ∧ VV B T S C W Ls hb none D2 wx wm ∧ (∀ x w, x < Ls → w < 8 → sm ≠ some (x / W) → D2 x w = D x w) ∧ Fr wi_X11_recovers wa_X11_recovers wj_X11_recovers um wm) := by
    intro vx vm vv h7 h4 hfr hdd
    unfold fX8_recover_b17 fX11_recovers_b20
    rw [if_pos vv.2.2.2.2.2.1.1.1, if_pos vv.2.2.2.2.2.1.1.2.1]
    rcases l_rec62 (N := N) g gl hN hhb vv (fun b e => by rw [h4]; exact hmk b e) with ⟨wx, wm, sm2, D2, z1, z2, z3, z4, z5, z6⟩ | ⟨wx, wm, D2, z1, z2, z3, z5, z6, z7⟩
    · exact Or.inl ⟨wx, wm, sm2, D2, z1, z2, z3, z4, z5, fun x w hx hw8 hs => (z6 x w hx hw8 hs).trans (hdd x w hx hw8)⟩
    · exact Or.inr ⟨wx, wm, D2, z1, z2, z3.trans h7, z5, fun x w hx hw8 hs => (z6 x w hx hw8 hs).trans (hdd x w hx hw8), hfr.trans (z7.mono (by decide) (by decide) (by decide))⟩
  unfold fX8_recover fX11_recovers
  cases cl with
  | none =>
    obtain ⟨k2, k3, k4, k5⟩ := k1
    rw [qn_s, qi_ne (show (18 : Nat) ≠ 19 by decide), k4, if_pos rfl, qn_s, if_pos k3]
    exact idle _ _ ⟨⟨gx, gm⟩, vw, vr, cr, lr, ⟨⟨rfl, k3, k4, k5⟩, ks⟩, vc, e1, e2, e3, e4⟩ rfl rfl (Fr.rf _ _ _ _) hd
  | some q =>
    obtain ⟨b, lim, sf, tr⟩ := q
    obtain ⟨k2, k3, k4, k5, k6, k7, k8, k9, k10⟩ := k1
    have hbB : b < B := e3 b lim sf tr rfl
    rw [qn_s, qi_ne (show (18 : Nat) ≠ 19 by decide), k3, if_neg (m1_ne b (by omega)), k7, k6]
    cases sf with
    | false =>
      rw [b2i_f, if_pos rfl, if_pos rfl, qn_s, qn_s]
      exact idle _ _ ⟨⟨gx, gm⟩, vw, vr, cr, lr, ⟨⟨rfl, rfl, k6, k7⟩, ks⟩, ⟨vc.1, (fun b' lim' sf tr' he => by cases he)⟩, e1, e2, (fun b' lim' sf tr' he => by cases he), e4⟩ rfl rfl ⟨fun k hk => qi_ne (fun e => hk (by rw [e]; decide)), fun _ _ => rfl, fun _ _ => rfl⟩ hd
    | true =>
      rw [b2i_t, if_neg (by decide), if_neg (by decide)]
      unfold fX8_recover_b17 fX11_recovers_b20
      rw [qi_ne (show (16 : Nat) ≠ 19 by decide), k2, if_neg (m1_ne b (by omega)), k3, if_neg (m1_ne b (by omega)), qn_s, qn_s]
      have v2 : vU B T S C W Ls h t (some (b, lim, true, 0)) sm (8 * 0) (q_si ux 19 0) (q_si (q_si um 21 5) 22 0) := by
        refine ⟨⟨gx, gm⟩, vw, vr, cr, lr, ⟨⟨k2, k3, k4, k5, k6, k7, rfl, Nat.zero_le _, ?_⟩, ks⟩, ⟨vc.1, fun b' lim' sf' tr' he => ?_⟩, e1, e2, fun b' lim' sf' tr' he => ?_, e4⟩
        · rw [if_pos (by omega)]
          exact ⟨rfl, rfl⟩
        · cases he
          obtain ⟨r1, r2, r3, r4⟩ := vc.2 b lim true tr rfl
          exact ⟨r1, r2, fun i hi _ => r3 i hi (Or.inl rfl), fun _ i hi hp => by omega⟩
        · cases he
          exact hbB
      rcases l_recL (N := N) g gl (by omega) T 0 N N _ _ (by omega) (by omega) (by omega) v2 with ⟨cl2, wx, wm, z1, z2, z3, z4, z5, z6⟩ | ⟨t2, wx, wm, z1, z2, z3, z4, z5, z6, z7⟩
      · left
        refine ⟨wx, wm, sm, dsk C W Ls t cl2 wx wm, z1, z2, z4, Or.inl rfl, ⟨h, t, cl2, hhb, z3, fun b' e => ?_, fun _ _ _ _ => rfl⟩, fun x w hx hw8 _ => (z6 x w hx hw8).trans (hd x w hx hw8)⟩
        rw [z5]
        exact hmk b' e
      · have z1 : q_lp (fX8_recover_b27 L N) (fun _ _ => none) N 0 (q_si ux 19 0) = fX8_recover_b62 L N wx := z1
        rw [z1, z2]
        have hmk2 : ∀ b', sm = some b' → q_a wm 4 b' = nI h := by
          intro b' e
          rw [z5]
          have hbb : b' ≠ b := fun e2 => (vc.2 b lim true tr rfl).1.2 (by rw [e, e2])
          rw [up_n hbb]
          exact hmk b' e
        rcases l_rec62 (N := N) g gl hN hhb z3 hmk2 with ⟨yx, ym, sm2, D2, y1, y2, y3, y4, y5, y6⟩ | ⟨yx, ym, D2, y1, y2, y3, y5, y6, y7⟩
        · exact Or.inl ⟨yx, ym, sm2, D2, y1, y2, y3, y4, y5, fun x w hx hw8 hs => ((y6 x w hx hw8 hs).trans (z6 x w hx hw8)).trans (hd x w hx hw8)⟩
        · refine Or.inr ⟨yx, ym, D2, y1, y2, y3.trans z4, y5, fun x w hx hw8 hs => ((y6 x w hx hw8 hs).trans (z6 x w hx hw8)).trans (hd x w hx hw8), ?_⟩
          have q0 : Fr wi_X11_recovers wa_X11_recovers wj_X11_recovers um (q_si (q_si um 21 5) 22 0) := ⟨fun k hk => by rw [qi_ne (fun e => hk (by rw [e]; decide)), qi_ne (fun e => hk (by rw [e]; decide))], fun _ _ => rfl, fun _ _ => rfl⟩
          exact (q0.trans (z7.mono (by decide) (by decide) (by decide))).trans (y7.mono (by decide) (by decide) (by decide))
