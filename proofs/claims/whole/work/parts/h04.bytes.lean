/-! ===== bytes into SECTORS ===== -/
theorem x_byte {B T S C W Ls hb X i : Nat} {um : q_St} {D K : Nat → Nat → Int64} {dd : Nat → Bool} {L : Nat → Nat} {N : Nat} {u : q_St} {a len : Nat} {b : Nat → Nat} {x1 x4 : Int32} {F : Int32 → Int32 → Int32 → Int32 → Int32 → q_St → Option (Unit × q_St)} (g : Geo B T S C W Ls) (gl : gL B C W Ls L) (hX : X < Ls) (hlen : len ≤ 1280) (hb8 : ∀ i, i < len → b i < 256 ∧ q_a u 8 i = nI (b i)) (h32 : q_i u 32 = nI len) (hi : i < len) (s : XS B T S C W Ls hb um D K dd u) : ∃ v, fX0_write_8_b86 L N F x1 (nI a) x4 (nI X) (nI i) (nI ((a + i) % 64)) u = F x1 (nI a) x4 (nI X) (nI (i + 1)) v ∧ XS B T S C W Ls hb um D (setO K X ((a + i) % 64) (b i)) (setb dd X true) v ∧ Fr [13, 22] [5] [2] u v := by
  obtain ⟨v, b1, b2⟩ := x_setOctet (N := N) (n := b i) g gl s hX (i := (a + i) % 64) (Nat.mod_lt _ (by decide))
  refine ⟨v, ?_, b2, (fr_X6_setOctet b1).mono (by decide) (by decide) (by decide)⟩
  unfold fX0_write_8_b86
  rw [x_tape gl h32 hlen (fun i hi => (hb8 i hi).2) hi, qb_s, b1, qb_s, qn_s, nI_1]
theorem x_seg {B T S C W Ls hb X : Nat} {um : q_St} {D : Nat → Nat → Int64} {dd : Nat → Bool} {L : Nat → Nat} {N : Nat} {a len : Nat} {b : Nat → Nat} {x1 x4 : Int32} (g : Geo B T S C W Ls) (gl : gL B C W Ls L) (hX : X < Ls) (hdd : dd X = true) (hlen : len ≤ 1280) (ha : a + len ≤ 131072) (hbb : ∀ i, i < len → b i < 256) : ∀ (k i m : Nat) (K : Nat → Nat → Int64) (u : q_St), 1 ≤ i → i + k ≤ len → k < m → (∀ j, i ≤ j → j < i + k → (a + j) % 64 ≠ 0) → XS B T S C W Ls hb um D K dd u → q_i u 32 = nI len → (∀ i, i < len → q_a u 8 i = nI (b i)) →
    ∃ v K2, q_lp (fX0_write_8_b25 L N) (fun _ _ _ _ _ _ => none) m x1 (nI a) x4 (nI X) (nI i) u = q_lp (fX0_write_8_b25 L N) (fun _ _ _ _ _ _ => none) (m - k) x1 (nI a) x4 (nI X) (nI (i + k)) v ∧ XS B T S C W Ls hb um D K2 dd v ∧ (∀ y j, y ≠ X → K2 y j = K y j) ∧ (∀ o, o < 64 → sO (K2 X) o = if (a + i) % 64 ≤ o ∧ o < (a + i) % 64 + k then b (i + (o - (a + i) % 64)) else sO (K X) o) ∧ Fr [13, 22] [5] [2] u v := by
  have hl := g.l
  intro k
  induction k with
  | zero =>
    intro i m K u h1 h2 h3 h4 s h32 h8
    exact ⟨u, K, rfl, s, fun _ _ _ => rfl, fun o ho => by rw [if_neg (by omega)], Fr.rf _ _ _ _⟩
  | succ k ih =>
    intro i m K u h1 h2 h3 h4 s h32 h8
    obtain ⟨u1, b1, b2, b3⟩ := x_byte (N := N) (a := a) (x1 := x1) (x4 := x4) (F := q_lp (fX0_write_8_b25 L N) (fun _ _ _ _ _ _ => none) (m - 1)) g gl hX hlen (fun i hi => ⟨hbb i hi, h8 i hi⟩) h32 (show i < len by omega) s
    rw [setb_id hdd] at b2
    obtain ⟨v, K2, c1, c2, c3, c4, c5⟩ := ih (i + 1) (m - 1) _ u1 (by omega) (by omega) (by omega) (fun j j1 j2 => h4 j (by omega) (by omega)) b2 ((b3.1 32 (by decide)).trans h32) (fun j hj => by rw [b3.2.1 8 (by decide)]; exact h8 j hj)
    have ho : ∀ j, sO (setO K X ((a + i) % 64) (b i) X) j = if j = (a + i) % 64 then b i else sO (K X) j := by
      intro j
      have := hO_set (K := K) (x := X) (i := (a + i) % 64) (hbb i (by omega)) X j
      refine Eq.trans this ?_
      by_cases c : j = (a + i) % 64
      · rw [if_pos ⟨rfl, c⟩, if_pos c]
      · rw [if_neg (fun z => c z.2), if_neg c]
        rfl
    refine ⟨v, K2, ?_, c2, fun y j hy => (c3 y j hy).trans (setO_w (fun z => hy z.1)), fun o hoo => ?_, b3.trans c5⟩
    · have hw := h4 i (by omega) (by omega)
      rw [lp_1 _ _ (by omega), fX0_write_8_b25, h32, if_neg (nI_ge (by omega) (by omega)), nI_add, show nI (a + i) - nI (a + i) / (64 : Int32) * 64 = nI ((a + i) % 64) from rem_n (d := 64) (by omega) (by decide) (by decide), qn_s, if_neg (nI_ne0 (by omega) (by omega)), if_neg (nI_ne0 (by omega) (by omega)), b1, c1, show m - 1 - k = m - (k + 1) by omega, show i + 1 + k = i + (k + 1) by omega]
    · rw [c4 o hoo, ho]
      by_cases k0 : k = 0
      · subst k0
        rw [if_neg (by omega)]
        by_cases c : o = (a + i) % 64
        · rw [if_pos c, if_pos (by omega), show i + (o - (a + i) % 64) = i by omega]
        · rw [if_neg c, if_neg (by omega)]
      · have e1 : (a + (i + 1)) % 64 = (a + i) % 64 + 1 := by
          have := h4 (i + 1) (by omega) (by omega)
          omega
        rw [e1]
        by_cases c : (a + i) % 64 + 1 ≤ o ∧ o < (a + i) % 64 + 1 + k
        · rw [if_pos c, if_pos (by omega), show i + 1 + (o - ((a + i) % 64 + 1)) = i + (o - (a + i) % 64) by omega]
        · rw [if_neg c]
          by_cases c2 : o = (a + i) % 64
          · rw [if_pos c2, if_pos (by omega), show i + (o - (a + i) % 64) = i by omega]
          · rw [if_neg c2, if_neg (by omega)]
/-- all bytes of one PIECE, from where its SECTOR is known -/
theorem x_pc {B T S C W Ls hb X i c m : Nat} {um : q_St} {D K : Nat → Nat → Int64} {dd : Nat → Bool} {L : Nat → Nat} {N : Nat} {a len : Nat} {b : Nat → Nat} {x1 x4 x5 : Int32} {u u1 : q_St} (g : Geo B T S C W Ls) (gl : gL B C W Ls L) (hX : X < Ls) (hlen : len ≤ 1280) (ha : a + len ≤ 131072) (hbb : ∀ i, i < len → b i < 256) (hi : i < len) (hbd : i = 0 ∨ (a + i) % 64 = 0) (hc : c = min (64 - (a + i) % 64) (len - i)) (hm : c < m) (h32u : q_i u 32 = nI len) (hpk : (if x4 = 0 then fX0_takePiece L N x1 (nI ((a + i) / 64)) u else fX0_laidBlock L N x1 (nI ((a + i) / 64)) u) = some (nI X, u1)) (s : XS B T S C W Ls hb um D K dd u1) (h32 : q_i u1 32 = nI len) (h8 : ∀ i, i < len → q_a u1 8 i = nI (b i)) :
    ∃ v K2, q_lp (fX0_write_8_b25 L N) (fun _ _ _ _ _ _ => none) m x1 (nI a) x4 x5 (nI i) u = q_lp (fX0_write_8_b25 L N) (fun _ _ _ _ _ _ => none) (m - c) x1 (nI a) x4 (nI X) (nI (i + c)) v ∧ XS B T S C W Ls hb um D K2 (setb dd X true) v ∧ (∀ y j, y ≠ X → K2 y j = K y j) ∧ (∀ o, o < 64 → sO (K2 X) o = if (a + i) % 64 ≤ o ∧ o < (a + i) % 64 + c then b (i + (o - (a + i) % 64)) else sO (K X) o) ∧ Fr [13, 22] [5] [2] u1 v := by
  have hl := g.l
  obtain ⟨u2, b1, b2, b3⟩ := x_byte (N := N) (a := a) (x1 := x1) (x4 := x4) (F := q_lp (fX0_write_8_b25 L N) (fun _ _ _ _ _ _ => none) (m - 1)) g gl hX hlen (fun i hi => ⟨hbb i hi, h8 i hi⟩) h32 hi s
  obtain ⟨v, K2, c1, c2, c3, c4, c5⟩ := x_seg (N := N) (x1 := x1) (x4 := x4) g gl hX (dd := setb dd X true) setb_s hlen ha hbb (c - 1) (i + 1) (m - 1) _ u2 (by omega) (by omega) (by omega) (fun j j1 j2 => by omega) b2 ((b3.1 32 (by decide)).trans h32) (fun j hj => by rw [b3.2.1 8 (by decide)]; exact h8 j hj)
  have ho : ∀ j, sO (setO K X ((a + i) % 64) (b i) X) j = if j = (a + i) % 64 then b i else sO (K X) j := by
    intro j
    have := hO_set (K := K) (x := X) (i := (a + i) % 64) (hbb i hi) X j
    refine Eq.trans this ?_
    by_cases c : j = (a + i) % 64
    · rw [if_pos ⟨rfl, c⟩, if_pos c]
    · rw [if_neg (fun z => c z.2), if_neg c]
      rfl
  refine ⟨v, K2, ?_, c2, fun y j hy => (c3 y j hy).trans (setO_w (fun z => hy z.1)), fun o hoo => ?_, b3.trans c5⟩
  · have hb53 : fX0_write_8_b53 L N (q_lp (fX0_write_8_b25 L N) (fun _ _ _ _ _ _ => none) (m - 1)) x1 (nI a) x4 (nI i) (nI ((a + i) % 64)) u = q_lp (fX0_write_8_b25 L N) (fun _ _ _ _ _ _ => none) (m - c) x1 (nI a) x4 (nI X) (nI (i + c)) v := by
      unfold fX0_write_8_b53 fX0_write_8_b84
      rw [nI_add, show nI (a + i) / (64 : Int32) = nI ((a + i) / 64) from pk_div (d := 64) (by omega) (by decide) (by decide), qn_s]
      by_cases c4 : x4 = 0
      · rw [if_pos c4] at hpk ⊢
        rw [hpk, qb_s, b1, c1, show m - 1 - (c - 1) = m - c by omega, show i + 1 + (c - 1) = i + c by omega]
      · rw [if_neg c4] at hpk ⊢
        rw [hpk, qb_s, b1, c1, show m - 1 - (c - 1) = m - c by omega, show i + 1 + (c - 1) = i + c by omega]
    rw [lp_1 _ _ (by omega), fX0_write_8_b25, h32u, if_neg (nI_ge (by omega) (by omega)), nI_add, show nI (a + i) - nI (a + i) / (64 : Int32) * 64 = nI ((a + i) % 64) from rem_n (d := 64) (by omega) (by decide) (by decide), qn_s]
    by_cases ci : i = 0
    · rw [if_pos (by rw [ci]; rfl)]
      exact hb53
    · have : (a + i) % 64 = 0 := by omega
      rw [if_neg (nI_ne0 (by omega) (by omega)), if_pos (by rw [this]; rfl)]
      exact hb53
  · rw [c4 o hoo, ho]
    by_cases k0 : c = 1
    · rw [if_neg (by omega)]
      by_cases c2 : o = (a + i) % 64
      · rw [if_pos c2, if_pos (by omega), show i + (o - (a + i) % 64) = i by omega]
      · rw [if_neg c2, if_neg (by omega)]
    · have e1 : (a + (i + 1)) % 64 = (a + i) % 64 + 1 := by omega
      rw [e1]
      by_cases c3 : (a + i) % 64 + 1 ≤ o ∧ o < (a + i) % 64 + 1 + (c - 1)
      · rw [if_pos c3, if_pos (by omega), show i + 1 + (o - ((a + i) % 64 + 1)) = i + (o - (a + i) % 64) by omega]
      · rw [if_neg c3]
        by_cases c2 : o = (a + i) % 64
        · rw [if_pos c2, if_pos (by omega), show i + (o - (a + i) % 64) = i by omega]
        · rw [if_neg c2, if_neg (by omega)]
def wrA (A : Nat → Nat → Nat) (X o c : Nat) (b : Nat → Nat) : Nat → Nat → Nat := fun k j => if k = 18 ∧ 64 * X + o ≤ j ∧ j < 64 * X + o + c then b (j - (64 * X + o)) else A k j
theorem wrA_k {A : Nat → Nat → Nat} {X o c k : Nat} {b : Nat → Nat} (h : k ≠ 18) : wrA A X o c b k = A k := by
  funext j
  unfold wrA
  rw [if_neg (fun z => h z.1)]
theorem wrA_18 {A : Nat → Nat → Nat} {X o c j : Nat} {b : Nat → Nat} : wrA A X o c b 18 j = if 64 * X + o ≤ j ∧ j < 64 * X + o + c then b (j - (64 * X + o)) else A 18 j := by
  unfold wrA
  by_cases h : 64 * X + o ≤ j ∧ j < 64 * X + o + c
  · rw [if_pos ⟨rfl, h⟩, if_pos h]
  · rw [if_neg (fun z => h z.2), if_neg h]
/-- where a byte of the tape goes -/
def loc (A : Nat → Nat → Nat) (W n a i : Nat) : Nat := 64 * tl A W n ((a + i) / 64) + (a + i) % 64
def OV (A Am : Nat → Nat → Nat) (W n a i : Nat) (b : Nat → Nat) : Prop := (∀ i', i' < i → tl A W n ((a + i') / 64) ≠ 0) ∧ (∀ i', i' < i → A 18 (loc A W n a i') = b i') ∧ (∀ j, (∀ i', i' < i → j ≠ loc A W n a i') → A 18 j = Am 18 j)
theorem l_putF {B T S C W Ls na hb n p1 p2 a len : Nat} {um0 : q_St} {D : Nat → Nat → Int64} {Ak : Nat → Nat → Nat} {nm : Nat → Int64} {ux um : q_St} {dd0 : Nat → Bool} {b : Nat → Nat} {L : Nat → Nat} {N : Nat} (g : Geo B T S C W Ls) (gl : gL B C W Ls L) (hna : na = 80 + (Ls + 511) / 512) (hN : 3000 ≤ N) (gm : gM B T S C W Ls um) (hn : n < 64) (hlen : len ≤ 1280) (hlen1 : 1 ≤ len) (hp1 : p1 = a / 64) (hp2 : p2 = (a + len - 1) / 64) (hp : p2 < 1068) (hbb : ∀ i, i < len → b i < 256) (h32 : q_i ux 32 = nI len) (h8 : ∀ i, i < len → q_a ux 8 i = nI (b i)) :
    ∀ (r i m m2 : Nat) (x5 : Int32) (Ax Am : Nat → Nat → Nat) (K : Nat → Nat → Int64) (dd dm : Nat → Bool) (WS : Nat → Prop) (u w : q_St), len - i ≤ r → i ≤ len → (i = 0 ∨ (a + i) % 64 = 0 ∨ i = len) → len - i < m → len - i < m2 → PS B T S C W Ls na hb n um0 D Ak nm ux um dd0 (ndB p1 p2) Ax Am K dd dm WS u w → OV Ax Am W n a i b → (∀ z, WS z ↔ ∃ i', i' < i ∧ tl Ax W n ((a + i') / 64) = z) →
    ∃ m' m2' y5 Af Amf Kf ddf dmf WSf uf wf, 0 < m' ∧ 0 < m2' ∧ q_lp (fX0_write_8_b25 L N) (fun _ _ _ _ _ _ => none) m (nI n) (nI a) 0 x5 (nI i) u = q_lp (fX0_write_8_b25 L N) (fun _ _ _ _ _ _ => none) m' (nI n) (nI a) 0 y5 (nI len) uf ∧ q_lp (fX11_put_b135 N) (fun _ _ _ _ _ _ => none) m2 (nI n) (nI a) (nI len) (nI p2) (nI (if i = len then p2 + 1 else (a + i) / 64)) w = q_lp (fX11_put_b135 N) (fun _ _ _ _ _ _ => none) m2' (nI n) (nI a) (nI len) (nI p2) (nI (p2 + 1)) wf ∧ PS B T S C W Ls na hb n um0 D Ak nm ux um dd0 (ndB p1 p2) Af Amf Kf ddf dmf WSf uf wf ∧ OV Af Amf W n a len b ∧ (∀ z, WSf z ↔ ∃ i', i' < len ∧ tl Af W n ((a + i') / 64) = z) ∧ (∀ r, tl Ax W n r ≠ 0 → tl Af W n r = tl Ax W n r) ∧ (∀ k, k ≠ 9 → k ≠ 10 → k ≠ 17 → k ≠ 18 → Af k = Ax k) ∧ (∀ j, j / 1068 ≠ n → Af 9 j = Ax 9 j) ∧ (∀ j, j / 34 ≠ n → Af 10 j = Ax 10 j) ∧ (∀ r, tl Af W n r ≠ 0 → tl Ax W n r ≠ 0 ∨ ndB p1 p2 r = true) := by
  have hl := g.l
  intro r
  induction r with
  | zero =>
    intro i m m2 x5 Ax Am K dd dm WS u w h1 h2 h3 h4 h5 ps ov ws
    have : i = len := by omega
    subst this
    exact ⟨m, m2, x5, Ax, Am, K, dd, dm, WS, u, w, by omega, by omega, rfl, by rw [if_pos rfl], ps, ov, ws, fun _ _ => rfl, fun _ _ _ _ _ => rfl, fun _ _ => rfl, fun _ _ => rfl, fun _ h => Or.inl h⟩
  | succ r ih =>
    intro i m m2 x5 Ax Am K dd dm WS u w h1 h2 h3 h4 h5 ps ov ws
    by_cases ci : i = len
    · subst ci
      exact ⟨m, m2, x5, Ax, Am, K, dd, dm, WS, u, w, by omega, by omega, rfl, by rw [if_pos rfl], ps, ov, ws, fun _ _ => rfl, fun _ _ _ _ _ => rfl, fun _ _ => rfl, fun _ _ => rfl, fun _ h => Or.inl h⟩
    · obtain ⟨p, hpe⟩ : ∃ p, p = (a + i) / 64 := ⟨_, rfl⟩
      have hp_1 : p1 ≤ p := by rw [hp1, hpe]; exact Nat.div_le_div_right (by omega)
      have hp_2 : p ≤ p2 := by rw [hp2, hpe]; exact Nat.div_le_div_right (by omega)
      obtain ⟨c, hc⟩ : ∃ c, c = min (64 - (a + i) % 64) (len - i) := ⟨_, rfl⟩
      have r9 := (PS_r9 ps hn).1 p (by omega)
      have hltp : tl Ax W n p < 2 ^ 31 := by
        by_cases z : tl Ax W n p = 0
        · omega
        · have := ps.2.2.2.2.2.1.2.1 n p hn z; omega
      obtain ⟨Ax', Am', K', dd', dm', u', w', a1, a2, a3, a4, a5⟩ := l_piece (N := N) g gl hna hN gm hn ps hp_1 hp_2 hp
      obtain ⟨s1, s2, s3, s4, s5, s6, s7⟩ := a5
      obtain ⟨X, hX⟩ : ∃ X, X = tl Ax' W n p := ⟨_, rfl⟩
      rw [← hX] at a1 a2
      have fx' := a4.2.2.2.2.2.2.2.2.2.2.2.2.2.1
      have fxu := ps.2.2.2.2.2.2.2.2.2.2.2.2.2.1
      have t3' := a4.2.2.2.2.2.1
      have hXr := t3'.2.1 n p hn (by rw [← hX]; exact a1)
      rw [← hX] at hXr
      obtain ⟨v, K2, b1, b2, b3, b4, b5⟩ := x_pc (N := N) (x1 := nI n) (x4 := 0) (x5 := x5) (X := X) (m := m) (a := a) (i := i) (u := u) (b := b) g gl hXr.2.1 hlen (by omega) hbb (by omega) (by omega) hc (by omega) ((fxu.1 32 (by decide)).trans h32) (by rw [if_pos rfl, ← hpe]; exact a2) a4.1 ((fx'.1 32 (by decide)).trans h32) (fun j hj => by rw [fx'.2.1 8 (by decide)]; exact h8 j hj)
      -- the tree with these bytes
      obtain ⟨A2, hA2⟩ : ∃ q, q = wrA Ax' X ((a + i) % 64) c (fun j => b (i + j)) := ⟨_, rfl⟩
      have k2 : ∀ k, k ≠ 18 → A2 k = Ax' k := fun k hk => by rw [hA2]; exact wrA_k hk
      have t2 : tl A2 W = tl Ax' W := tl_sc (k2 5 (by decide)) (k2 8 (by decide)) (k2 9 (by decide)) (k2 10 (by decide)) (k2 13 (by decide))
      have e18 : ∀ j, A2 18 j = if 64 * X + (a + i) % 64 ≤ j ∧ j < 64 * X + (a + i) % 64 + c then b (i + (j - (64 * X + (a + i) % 64))) else Ax' 18 j := fun j => by rw [hA2]; exact wrA_18
      have oth : ∀ m r, m < 64 → tl Ax' W m r ≠ 0 → ¬ (m = n ∧ r = p) → tl Ax' W m r ≠ X := by
        intro m r hm h0 hne z
        rw [hX] at z
        exact hne (t3'.1 m r n p hm hn h0 z)
      obtain ⟨xs, ms, rm, rxf, tw1, tw3, h51, hAm, ⟨f1, f3⟩, h80, nb, dz, fc, fx, fm, rel⟩ := a4
      have ps2 : PS B T S C W Ls na hb n um0 D Ak nm ux um dd0 (ndB p1 p2) A2 Am' K2 (setb dd' X true) dm' (fun z => WS z ∨ z = X) v w' := by
        refine ⟨b2, ms, rm, ⟨⟨?_, fun m hm hne => ?_, fun m r hm hne ht => ?_⟩, ?_, fun q hq ha => ?_, fun q hq ht j hj => ?_⟩, ?_, ?_, by rw [k2 5 (by decide)]; exact h51, fun k hk => by rw [k2 k hk]; exact hAm k hk, by rw [t2]; exact ⟨f1, f3⟩, fun z hz hdz => ?_, fun m r hm q ht hdz j hj => ?_, fun z hz hdz => ?_, ?_, fx.trans b5, fm, fun z hz => ?_⟩
        · intro y hy
          rw [b3 _ _ (by omega), k2 17 (by decide)]
          exact rxf.1.1 y hy
        · have eK : K2 (na + m) = K' (na + m) := by funext j; exact b3 _ _ (by omega)
          have q := rxf.1.2.1 m hm hne
          rw [eK]
          unfold mNode at q ⊢
          rw [k2 5 (by decide), k2 6 (by decide), k2 7 (by decide), k2 8 (by decide), k2 9 (by decide), k2 10 (by decide), k2 11 (by decide), k2 12 (by decide), k2 13 (by decide), k2 15 (by decide), k2 16 (by decide)]
          exact q
        · rw [t2] at ht ⊢
          have hX2 := oth m r hm ht (fun z => hne z.1)
          have eK : K2 (tl Ax' W m r) = K' (tl Ax' W m r) := by funext j; exact b3 _ _ hX2
          obtain ⟨o1, o2, o3, o4, o5⟩ := rxf.1.2.2 m r hm hne ht
          rw [eK]
          unfold mRole
          rw [k2 5 (by decide), k2 9 (by decide), k2 10 (by decide), k2 14 (by decide)]
          refine ⟨fun z j hj => ?_, o2, o3, o4, o5⟩
          rw [e18, if_neg (by omega)]
          exact o1 z j hj
        · have q := rxf.2.1
          unfold SC at q ⊢
          rw [b3 _ _ (by omega), k2 11 (by decide), k2 12 (by decide), k2 15 (by decide), k2 6 (by decide)]
          exact q
        · have et : tel A2 W na n = tel Ax' W na n := by funext r; unfold tel; rw [t2]
          rw [t2] at ha ⊢
          rw [et]
          have q0 := rxf.2.2.1 q hq ha
          have hne : tel Ax' W na n q ≠ X := by
            unfold tel
            by_cases co : own q = true
            · rw [if_pos co]; omega
            · rw [if_neg co]
              rcases ha with z | z
              · exact absurd z co
              · exact oth n (trl q) hn z (fun w => by have := trl_in co; omega)
          have eK : K2 (tel Ax' W na n q) = K' (tel Ax' W na n q) := by funext j; exact b3 _ _ hne
          rw [eK]
          exact q0
        · rw [t2] at ht ⊢
          have q0 := rxf.2.2.2 q hq ht j hj
          by_cases cq : q = p
          · rw [cq, ← hX] at q0 ⊢
            rw [b4 j hj, e18]
            by_cases cj : (a + i) % 64 ≤ j ∧ j < (a + i) % 64 + c
            · rw [if_pos cj, if_pos (by omega), show 64 * X + j - (64 * X + (a + i) % 64) = j - (a + i) % 64 by omega]
            · rw [if_neg cj, if_neg (by omega)]
              exact q0
          · have hne := oth n q hn ht (fun z => cq z.2)
            have eK : K2 (tl Ax' W n q) = K' (tl Ax' W n q) := by funext j; exact b3 _ _ hne
            rw [eK, e18, if_neg (by omega)]
            exact q0
        · unfold TW1 at tw1 ⊢
          rw [k2 5 (by decide), k2 6 (by decide), k2 7 (by decide), k2 8 (by decide), k2 11 (by decide), k2 12 (by decide), k2 13 (by decide), k2 15 (by decide), k2 16 (by decide), k2 17 (by decide)]
          obtain ⟨q1, q2, q3, q4, q5, q6, q7, q8⟩ := tw1
          refine ⟨q1, q2, q3, q4, q5, q6, fun j => ?_, q8⟩
          rw [e18]
          split
          · exact hbb _ (by omega)
          · exact q7 j
        · unfold TW3 at tw3 ⊢
          rw [t2, k2 17 (by decide)]
          exact tw3
        · rw [k2 17 (by decide)]
          rcases sbt.mp hdz with z | z
          · rw [z]; exact ⟨by omega, hXr.2.2⟩
          · exact h80 _ hz z
        · rw [t2] at ht hdz ⊢
          rw [k2 5 (by decide)] at q
          have hne : tl Ax' W m r ≠ X := fun z => by rw [z, setb_s] at hdz; cases hdz
          rw [e18, if_neg (by omega)]
          exact nb m r hm q ht (setb_f hdz) j hj
        · rcases sbt.mp hdz with z | z
          · exact Or.inr (Or.inr (Or.inr ⟨p, decide_eq_true (Or.inl ⟨hp_1, hp_2⟩), by omega, by rw [t2, z, ← hX]⟩))
          · rw [t2]; exact dz _ hz z
        · have e1 : (fun r => decide (tl A2 W n r = 0) && ndB p1 p2 r) = (fun r => decide (tl Ax' W n r = 0) && ndB p1 p2 r) := by rw [t2]
          have e2 : uC A2 Ls = uC Ax' Ls := by unfold uC; rw [k2 17 (by decide)]
          rw [e1, e2]; exact fc
        · rw [sbt, rel z hz]
          constructor
          · rintro (q | q | q)
            · exact Or.inr (Or.inr q)
            · exact Or.inl q
            · exact Or.inr (Or.inl q)
          · rintro (q | q | q)
            · exact Or.inr (Or.inl q)
            · exact Or.inr (Or.inr q)
            · exact Or.inl q
      have same : ∀ i', i' < i → (a + i') / 64 < p := by
        intro i' hi'
        rw [hpe]
        omega
      have loc' : ∀ i', i' < i → loc A2 W n a i' = loc Ax W n a i' := by
        intro i' hi'
        unfold loc
        rw [t2, s1 _ (ov.1 i' hi')]
      have locn : ∀ i', i ≤ i' → i' < i + c → loc A2 W n a i' = 64 * X + (a + i) % 64 + (i' - i) := by
        intro i' h1 h2
        have e1 : (a + i') / 64 = p := by rw [hpe]; omega
        unfold loc
        rw [t2, e1, ← hX]
        omega
      have ov2 : OV A2 Am' W n a (i + c) b := by
        refine ⟨fun i' hi' => ?_, fun i' hi' => ?_, fun j hj => ?_⟩
        · by_cases cc : i' < i
          · rw [t2, s1 _ (ov.1 i' cc)]; exact ov.1 i' cc
          · have e1 : (a + i') / 64 = p := by rw [hpe]; omega
            rw [t2, e1, ← hX]; exact a1
        · by_cases cc : i' < i
          · have hne := ov.1 i' cc
            have q := ps.2.2.2.2.2.1.2.1 n _ hn hne
            rw [loc' i' cc, e18, if_neg ?_]
            · rcases s2 (loc Ax W n a i') with ⟨y, -⟩ | ⟨-, -, y⟩
              · rw [y]; exact ov.2.1 i' cc
              · exfalso
                apply y
                unfold loc
                rw [show (64 * tl Ax W n ((a + i') / 64) + (a + i') % 64) / 64 = tl Ax W n ((a + i') / 64) by omega]
                exact q.2.2
            · have hX3 : tl Ax W n ((a + i') / 64) ≠ X := by
                rw [← s1 _ hne]
                exact oth n _ hn (by rw [s1 _ hne]; exact hne) (fun z => by have := same i' cc; omega)
              unfold loc
              omega
          · rw [locn i' (by omega) hi', e18, if_pos (by omega), show i + (64 * X + (a + i) % 64 + (i' - i) - (64 * X + (a + i) % 64)) = i' by omega]
        · have nseg : ¬ (64 * X + (a + i) % 64 ≤ j ∧ j < 64 * X + (a + i) % 64 + c) := by
            rintro ⟨z1, z2⟩
            have := hj (i + (j - (64 * X + (a + i) % 64))) (by omega)
            rw [locn _ (by omega) (by omega)] at this
            omega
          rw [e18, if_neg nseg]
          have old := ov.2.2 j (fun i' hi' z => hj i' (by omega) (by rw [loc' i' hi']; exact z))
          rcases s2 j with ⟨y1, y2⟩ | ⟨y1, y2, -⟩
          · rw [y1, y2]; exact old
          · rw [y1, y2]
      have hic : i + c = len ∨ (a + (i + c)) % 64 = 0 := by omega
      obtain ⟨m', m2', y5, Af, Amf, Kf, ddf, dmf, WSf, uf, wf, d0, d0', d1, d2, d3, d4, d5, d6, d7, d8, d9, d10⟩ := ih (i + c) (m - c) (m2 - 1) (nI X) A2 Am' K2 (setb dd' X true) dm' (fun z => WS z ∨ z = X) v w' (by omega) (by omega) (by omega) (by omega) (by omega) ps2 ov2 (fun z => by
        rw [ws z, t2]
        constructor
        · rintro (⟨i', q1, q2⟩ | q)
          · exact ⟨i', by omega, by rw [s1 _ (ov.1 i' q1)]; exact q2⟩
          · exact ⟨i, by omega, by rw [← hpe, ← hX, q]⟩
        · rintro ⟨i', q1, q2⟩
          by_cases cc : i' < i
          · left; exact ⟨i', cc, by rw [← s1 _ (ov.1 i' cc)]; exact q2⟩
          · have e1 : (a + i') / 64 = p := by rw [hpe]; omega
            right; rw [e1, ← hX] at q2; exact q2.symm)
      refine ⟨m', m2', y5, Af, Amf, Kf, ddf, dmf, WSf, uf, wf, d0, d0', b1.trans d1, ?_, d3, d4, d5, fun r h0 => ?_, fun k q1 q2 q3 q4 => ?_, fun j hj => ?_, fun j hj => ?_, fun r h0 => ?_⟩
      · have nxt : (if i + c = len then p2 + 1 else (a + (i + c)) / 64) = p + 1 := by
          by_cases ce : i + c = len
          · rw [if_pos ce]
            have : p = p2 := by
              rw [hpe, hp2]
              omega
            omega
          · rw [if_neg ce, hpe]
            omega
        rw [nxt] at d2
        rw [if_neg ci, ← hpe, ← d2, lp_1 _ _ (by omega), fX11_put_b135, if_neg (nI_nlt (by omega) (by omega)), show (1068 : Int32) * nI n = nI (1068 * n) from pk_mul 1068 n, nI_add, qr_n (by omega) (by omega), r9]
        unfold fX11_put_b166
        rcases a3 with ⟨z1, z2⟩ | ⟨z1, z2⟩
        · rw [if_neg (fun z => z1 ((i0_m1 hltp).mp z)), qn_s, nI_1, z2]
        · rw [if_pos ((i0_m1 hltp).mpr z1), z2, qb_s, qn_s, nI_1]
      · rw [d6 r (by rw [t2, s1 r h0]; exact h0), t2, s1 r h0]
      · rw [d7 k q1 q2 q3 q4, k2 k q4, s4 k q1 q2 q3 q4]
      · rw [d8 j hj, k2 9 (by decide), s5 j hj]
      · rw [d9 j hj, k2 10 (by decide), s6 j hj]
      · rcases d10 r h0 with q | q
        · rw [t2] at q
          exact s7 r q
        · exact Or.inr q
