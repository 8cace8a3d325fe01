/-! ===== the start: the invariant ===== -/
/-- the tree of a new object: the root alone -/
def A0 (fb : Nat) : Nat → Nat → Nat := fun k j => if k = 5 then (if j = 0 then 2 else 0) else if k = 12 then (if j = 0 then 63 else 0) else if k = 17 then (if j < fb then 1 else 0) else 0
theorem A0_5 {fb j : Nat} : A0 fb 5 j = if j = 0 then 2 else 0 := if_pos rfl
theorem A0_12 {fb j : Nat} : A0 fb 12 j = if j = 0 then 63 else 0 := by unfold A0; rw [if_neg (by decide), if_pos rfl]
theorem A0_17 {fb j : Nat} : A0 fb 17 j = if j < fb then 1 else 0 := by unfold A0; rw [if_neg (by decide), if_neg (by decide), if_pos rfl]
theorem A0_z {fb k j : Nat} (h : k ≠ 5 ∧ k ≠ 12 ∧ k ≠ 17) : A0 fb k j = 0 := by unfold A0; rw [if_neg h.1, if_neg h.2.1, if_neg h.2.2]
theorem A0_2 {fb n : Nat} (h : A0 fb 5 n ≠ 0) : n = 0 := by
  rw [A0_5] at h
  by_cases c : n = 0
  · exact c
  · rw [if_neg c] at h; exact absurd rfl h
theorem A0_00 {fb : Nat} : A0 fb 5 0 = 2 := by rw [A0_5, if_pos rfl]
theorem tl_0 {fb W n r : Nat} : tl (A0 fb) W n r = 0 := by
  unfold tl
  by_cases c : n = 0
  · rw [c, A0_00, if_neg (by decide), if_pos rfl, A0_z (k := 8) (by decide), if_neg (by omega)]
  · rw [A0_5, if_neg c, if_neg (by decide), if_neg (by decide), if_neg (by decide)]
theorem RM_0 {Ls fb : Nat} {a : Nat → Nat → Int32} {nr : Nat → Int64} (h5 : ∀ j, a 5 j = if j = 0 then 2 else 0) (h12 : ∀ j, a 12 j = if j = 0 then 63 else 0) (h17 : ∀ j, a 17 j = if j < fb then 1 else 0) (h10 : ∀ j, a 10 j = if j < 2176 then -1 else 0) (h9 : ∀ j, a 9 j = if j < 68352 then -1 else 0) (h14 : ∀ j, a 14 j = if j < 3072 then -1 else 0) (hz : ∀ k, (k = 6 ∨ k = 7 ∨ k = 8 ∨ k = 11 ∨ k = 15 ∨ k = 16 ∨ k = 13 ∨ k = 18) → ∀ j, a k j = 0) : RM Ls (A0 fb) (fun _ => 0) a nr := by
  have s70 : ∀ k ∈ s7, k = 5 ∨ k = 12 ∨ ((k ≠ 5 ∧ k ≠ 12 ∧ k ≠ 17) ∧ (k = 6 ∨ k = 7 ∨ k = 8 ∨ k = 11 ∨ k = 15 ∨ k = 16 ∨ k = 13 ∨ k = 18)) := by decide
  refine ⟨fun k hk j _ => ?_, fun j hj => ?_, fun j hj => ?_, fun j hj => ?_, fun j hj => ?_, fun j hj => ⟨?_, fun z => ?_⟩, fun x hx => ?_, fun j hj => ?_⟩
  · rcases s70 k hk with e | e | ⟨e, e2⟩
    · rw [e, h5, A0_5]
      by_cases c : j = 0
      · rw [if_pos c, if_pos c]; rfl
      · rw [if_neg c, if_neg c]; rfl
    · rw [e, h12, A0_12]
      by_cases c : j = 0
      · rw [if_pos c, if_pos c]; rfl
      · rw [if_neg c, if_neg c]; rfl
    · rw [hz k e2, A0_z e]; rfl
  · rw [h10, if_pos hj, A0_z (by decide)]; rfl
  · rw [h9, if_pos hj, A0_z (by decide)]; rfl
  · rw [hz 16 (by decide), A0_z (by decide)]; decide
  · rw [hz 13 (by decide), A0_z (by decide)]; rfl
  · rw [h14, if_pos hj, A0_z (by decide)]; rfl
  · exact absurd (A0_z (by decide)) z
  · rw [h17, A0_17]
    by_cases c : x < fb
    · rw [if_pos c, if_pos c]; rfl
    · rw [if_neg c, if_neg c]; rfl
  · rw [hz 18 (by decide), A0_z (by decide)]; decide
theorem TW_0 {B W Ls fb : Nat} : TW B W Ls fb (A0 fb) (fun _ => 0) := by
  refine ⟨⟨fun n hn => ⟨?_, ?_, ?_, ?_, ?_, ?_, fun _ => A0_z (by decide)⟩, ⟨A0_00, A0_z (by decide)⟩, fun n hn h => ⟨?_, ?_, fun k hk => ?_⟩, fun n hn h => ?_, fun n hn h => ?_, fun j => ?_, fun j => ?_, fun x => ?_⟩, ⟨fun n hn h => ⟨fun p hp => A0_z (by decide), fun i hi => A0_z (by decide)⟩, fun n hn h => ?_⟩, ⟨fun n r n2 r2 hn hn2 h => absurd tl_0 h, fun n r hn h => absurd tl_0 h, fun x h1 h2 h3 => ?_, fun x hx => by rw [A0_17, if_pos hx]⟩, ⟨fun j hj h => absurd (A0_z (by decide)) h, fun n hn h => ?_, fun n hn h0 h => ?_, fun n hn h0 h => absurd (A0_2 h) h0, fun n hn h => ⟨0, show n = 0 from A0_2 (fb := fb) (by rw [h]; decide)⟩⟩⟩
  · rw [A0_5]; split <;> decide
  · rw [A0_z (by decide)]; decide
  · rw [A0_12]; split <;> decide
  · rw [A0_z (by decide)]; decide
  · rw [A0_z (by decide)]; decide
  · rw [A0_z (by decide)]; decide
  · rw [A0_z (by decide)]; decide
  · rw [A0_z (k := 7) (by decide)]; exact A0_00
  · rw [A0_z (by decide)] at hk; omega
  · have := A0_2 (fb := fb) (n := n) (by rw [h]; decide)
    rw [this, A0_00] at h
    exact absurd h (by decide)
  · have := A0_2 (fb := fb) (n := n) (by rw [h]; decide)
    rw [this, A0_00] at h
    exact absurd h (by decide)
  · rw [A0_z (by decide)]; decide
  · rw [A0_z (by decide)]; decide
  · rw [A0_17]; split <;> decide
  · have := A0_2 (fb := fb) (n := n) (by rw [h]; decide)
    rw [this, A0_00] at h
    exact absurd h (by decide)
  · rw [A0_17, if_neg (by omega)] at h3
    exact absurd h3 (by decide)
  · rw [A0_5, if_neg h, if_pos rfl]
    refine Eq.trans (cnt_congr (Q := fun _ => false) (fun i _ => ?_)) (cnt_no _)
    show decide (A0 fb 14 i = n) = false
    rw [A0_z (by decide)]
    exact decide_eq_false (fun z => h z.symm)
  · rw [A0_5, if_neg h0] at h
    omega
theorem RX_0 {W Ls na : Nat} {cells : Nat → Int64} (hl : 256 ≤ Ls ∧ Ls ≤ 2048) (hna : na = 80 + (Ls + 511) / 512) (hc : cells = vp_updL (cF (na + 64)) (na * 8) 4128770) : RX W Ls na (A0 (na + 64)) (fun _ => 0) (fun x w => cells (x * 8 + w)) := by
  have hz : ∀ k, 643 ≤ k → k ≠ na * 8 → cells k = 0 := fun k h1 h2 => by rw [hc, upL_n h2]; exact cF_o _ _ (by omega)
  refine ⟨fun x hx => ?_, fun n hn => ?_, fun n r hn h => absurd tl_0 h⟩
  · show bt (cells ((80 + x / 512) * 8 + x % 512 / 64)) (x % 64) = _
    rw [hc, upL_n (by omega), show (80 + x / 512) * 8 + x % 512 / 64 = 640 + x / 64 by omega, cF_b _ _ _ (Nat.mod_lt _ (by decide)), A0_17, show 64 * (x / 64) + x % 64 = x by omega]
    by_cases c : x < na + 64
    · rw [if_pos c, decide_eq_true c, decide_eq_true (show x < Ls by omega)]
      rfl
    · rw [if_neg c, decide_eq_false c, decide_eq_false (show ¬ (0 : Nat) = 1 by decide), Bool.and_false]
  · by_cases c : n = 0
    · subst c
      have e0 : (fun w => cells ((na + 0) * 8 + w)) 0 = 4128770 := by
        show cells (na * 8) = _
        rw [hc, upL_s]
      have ew : ∀ w, 0 < w → w < 8 → (fun w => cells ((na + 0) * 8 + w)) w = 0 := fun w h1 h2 => hz _ (by omega) (by omega)
      show mNode _ _ _ (fun w => cells ((na + 0) * 8 + w))
      unfold mNode
      rw [e0, A0_00, A0_12, if_pos rfl]
      refine ⟨by decide +kernel, fun _ => ⟨?_, by decide +kernel, ?_, ?_⟩, fun _ => ⟨fun k hk => ?_, ?_⟩, fun z => absurd z (by decide), fun z => absurd z (by decide), fun z => absurd z (by decide)⟩
      · rw [A0_z (by decide)]; decide +kernel
      · rw [if_neg (by decide)]; decide +kernel
      · rw [if_neg (by decide)]; decide +kernel
      · rw [A0_z (k := 8) (by decide), if_neg (Nat.not_lt_zero _)]
        exact z_sH (ew _ (by omega) (by omega))
      · rw [A0_z (by decide)]
        exact z_sH (ew _ (by decide) (by decide))
    · have e5 : A0 (na + 64) 5 n = 0 := by rw [A0_5, if_neg c]
      have e0 : (fun w => cells ((na + n) * 8 + w)) 0 = 0 := hz _ (by omega) (by omega)
      show mNode _ _ _ (fun w => cells ((na + n) * 8 + w))
      unfold mNode
      rw [e0, e5]
      exact ⟨oc_0 0, fun z => absurd rfl z, fun z => absurd z (by decide), fun z => absurd z (by decide), fun z => absurd z (by decide), fun z => absurd z (by decide)⟩
theorem Iq_0 {B T S C na : Nat} {um : q_St} {cells : Nat → Int64} (g : Geo B T S C (8 * T) (B * (8 * T))) (hna : na = 80 + (B * (8 * T) + 511) / 512) (hc : cells = vp_updL (cF (na + 64)) (na * 8) 4128770) (m : iM B T S C (8 * T) (B * (8 * T)) (na + 64) um) : Iq B T S C (8 * T) (B * (8 * T)) na 0 (ux_q B T S C cells (lF (B * (8 * T)))) um := by
  have hl := g.l
  have hw := g.w
  obtain ⟨ux, hux⟩ : ∃ q, q = ux_q B T S C cells (lF (B * (8 * T))) := ⟨_, rfl⟩
  obtain ⟨W, hW⟩ : ∃ q, q = 8 * T := ⟨_, rfl⟩
  obtain ⟨Ls, hLs⟩ : ∃ q, q = B * (8 * T) := ⟨_, rfl⟩
  have gx : gX B T S C W Ls ux := by
    rw [hux, hW, hLs]
    refine ⟨rfl, rfl, rfl, rfl, rfl, rfl, rfl, rfl, rfl, rfl, ?_, rfl, rfl, rfl⟩
    show nI ((80 + ((B * (8 * T) + 511) / 512)) + 64) = nI (144 + (B * (8 * T) + 511) / 512)
    rw [show 80 + (B * (8 * T) + 511) / 512 + 64 = 144 + (B * (8 * T) + 511) / 512 by omega]
  have xi : ∀ k v, q_i (ux_q B T S C cells (lF (B * (8 * T)))) k = v → q_i ux k = v := fun k v h => by rw [hux]; exact h
  have xa : ∀ k, k ≠ 3 → ∀ j, q_a ux k j = 0 := fun k hk j => by
    rw [hux]
    show (if k = 3 then lF (B * (8 * T)) else fun _ => 0) j = 0
    rw [if_neg hk]
  have x3 : ∀ j, q_a ux 3 j = lF Ls j := fun j => by rw [hux, hLs]; rfl
  have xj : ∀ j, q_j ux 0 j = cells j := fun j => by rw [hux]; rfl
  rw [← hux, ← hLs, ← hW]
  rw [← hLs, ← hW] at g m
  rw [← hLs] at hna hl
  rw [← hW] at hw
  obtain ⟨⟨m0, m1, m2, m3, m4, m5, m6, m7, m8⟩, mi, ma3, ma17, ma5, ma12, ma10, ma9, ma14, maz, mj⟩ := m
  have gm : gM B T S C W Ls um := ⟨m0, m1, m2, m3, m4, m5, by rw [m6, show na + 64 = 144 + (Ls + 511) / 512 by omega], m7, by rw [m8, show na + 64 - 64 = 80 + (Ls + 511) / 512 by omega]⟩
  have mi' : ∀ k v, 9 ≤ k → q_i um_0 k = v → q_i um k = v := fun k v h1 h2 => by rw [mi k h1]; exact h2
  have lv : ∀ x, x < Ls → lvx W 0 um x = false := fun x hx => by
    unfold lvx
    rw [ma3, if_pos (by omega)]
    rfl
  have vv : VV B T S C W Ls (300 * 0) none (fun x w => cells (x * 8 + w)) ux um := by
    refine ⟨0, 0, none, by omega, ⟨⟨gx, gm⟩, ⟨mi' 17 _ (by decide) rfl, mi' 18 _ (by decide) rfl, by omega, by omega, by decide, fun p hp => ⟨0, by omega, maz 2 (by decide) p⟩, fun x hx => Or.inl (by rw [ma3, if_pos (by omega)]), fun b hb => ⟨0, by omega, maz 4 (by decide) b⟩⟩, ⟨?_, ?_, fun p hp => ?_, fun x hx => ?_, fun b hb => ?_⟩, ⟨?_, ?_, ?_, ?_, ?_, ?_, ?_, ?_, ?_⟩, ⟨fun x hx => ?_, fun i hi => ?_⟩, ⟨⟨xi 16 _ rfl, mi' 19 _ (by decide) rfl, xi 18 _ rfl, mi' 23 _ (by decide) rfl⟩, xi 20 _ rfl, mi' 24 _ (by decide) rfl⟩, ⟨fun x hx _ _ => xa 0 (by decide) _, fun b lim sf tr e => by cases e⟩, fun q h1 h2 => by omega, fun x hx q h1 h2 => by omega, fun b lim sf tr e => (by cases e), fun b e => (by cases e)⟩, fun b e => (by cases e), fun x w hx hw8 => ?_⟩
    · exact (xi 14 0 rfl).trans (mi' 17 _ (by decide) rfl).symm
    · exact (xi 15 0 rfl).trans (mi' 18 _ (by decide) rfl).symm
    · rw [xa 2 (by decide), maz 2 (by decide)]
    · rw [x3, ma3, if_pos (by omega)]
      unfold lF
      rw [if_pos hx]
    · rw [xa 1 (by decide), maz 4 (by decide)]
    · exact (xi 7 1 rfl).trans (mi' 9 _ (by decide) rfl).symm
    · exact (xi 8 (-1) rfl).trans (mi' 10 _ (by decide) rfl).symm
    · exact (xi 9 0 rfl).trans (mi' 11 _ (by decide) rfl).symm
    · exact (xi 10 0 rfl).trans (mi' 12 _ (by decide) rfl).symm
    · exact (xi 11 0 rfl).trans (mi' 13 _ (by decide) rfl).symm
    · exact (xi 12 0 rfl).trans (mi' 14 _ (by decide) rfl).symm
    · exact (xi 21 0 rfl).trans (mi' 15 _ (by decide) rfl).symm
    · exact (xi 23 0 rfl).trans (mi' 16 _ (by decide) rfl).symm
    · exact xi 13 0 rfl
    · rw [xa 0 (by decide), maz 0 (by decide)]
    · rw [xa 0 (by decide), maz 1 (by decide)]
    · unfold dsk spt
      rw [lv x hx, if_neg (by decide)]
      exact xj _
  have tw := TW_0 (B := B) (W := W) (Ls := Ls) (fb := na + 64)
  have rx := RX_0 (W := W) (Ls := Ls) (na := na) (cells := cells) hl hna hc
  have rm : RM Ls (A0 (na + 64)) (fun _ => 0) (q_a um) (q_j um 0) := RM_0 (fun j => (ma5 j).1) (fun j => (ma12 j).1) (fun j => (ma17 j).1) (fun j => (ma10 j).1) (fun j => (ma9 j).1) (fun j => (ma14 j).1) (fun k hk j => maz k (by simp only [List.mem_cons, List.not_mem_nil, or_false]; omega) j)
  have rk : RM Ls (A0 (na + 64)) (fun _ => 0) (fun k => q_a um (k + 14)) (q_j um 1) := RM_0 (fun j => (ma5 j).2) (fun j => (ma12 j).2) (fun j => (ma17 j).2) (fun j => (ma10 j).2) (fun j => (ma9 j).2) (fun j => (ma14 j).2) (fun k hk j => maz (k + 14) (by simp only [List.mem_cons, List.not_mem_nil, or_false]; omega) j)
  refine ⟨⟨none, (fun x w => cells (x * 8 + w)), (fun x w => cells (x * 8 + w)), A0 (na + 64), (fun _ => 0), ⟨vv, Or.inl ⟨xi 24 _ rfl, mi' 26 _ (by decide) rfl, fun _ _ _ _ _ _ => rfl⟩, rk, tw, rx, fun b e => (by cases e), ⟨0, 0, Or.inl rfl, by decide, xi 32 _ rfl, mi' 27 _ (by decide) rfl, fun i hi => absurd hi (Nat.not_lt_zero _)⟩, ⟨?_, 0, by decide, mi' 28 _ (by decide) rfl⟩⟩, Or.inr ⟨rfl, xi 7 _ rfl, fun _ _ _ _ _ _ => rfl, (fun x w => cells (x * 8 + w)), (fun _ => false), A0 (na + 64), (fun _ => 0), ⟨vv, fun x hx => xa 5 (by decide) x, ?_, fun x w _ _ => if_neg Bool.false_ne_true⟩, ⟨fun x hx => maz 33 (by decide) x, ?_⟩, ?_, fun x hx z => absurd z Bool.false_ne_true, rm, tw, rx, fun n r hn h ht => absurd tl_0 ht⟩⟩, ?_⟩
  · exact (xi 0 0 rfl).trans (mi' 28 _ (by decide) rfl).symm
  · rw [cnt_no]; exact xi 22 _ rfl
  · rw [cnt_no]; exact mi' 25 _ (by decide) rfl
  · rw [cnt_no]; decide
  · exact (xi 32 0 rfl).trans (mi' 27 _ (by decide) rfl).symm
