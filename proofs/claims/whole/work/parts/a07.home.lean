/-! ===== what THE JOURNAL tells is brought home, in both ===== -/
theorem m_skip {N Ls : Nat} (hl : Ls ≤ 2048) : ∀ (k x n : Nat) (um : q_St), (∀ y, x ≤ y → y < x + k → q_a um 34 y = 0) → x + k ≤ Ls → k < n → q_i um 5 = nI Ls → q_lp (fX11_bringHome_b2 N) (fun _ _ => none) n (nI x) um = q_lp (fX11_bringHome_b2 N) (fun _ _ => none) (n - k) (nI (x + k)) um := by
  intro k
  induction k with
  | zero =>
    intro x n um h1 h2 h3 h4
    rfl
  | succ k ih =>
    intro x n um h1 h2 h3 h4
    rw [lp_1 (fX11_bringHome_b2 N) _ (n := n) (by omega), fX11_bringHome_b2, h4, if_neg (nI_ge (by omega) (by omega)), qr_n (by omega) (by omega), if_pos (h1 x (Nat.le_refl _) (by omega))]
    unfold fX11_bringHome_b29
    rw [qn_s, nI_1, ih (x + 1) (n - 1) um (fun y q1 q2 => h1 y (by omega) (by omega)) (by omega) (by omega) h4]
    rw [show n - 1 - k = n - (k + 1) by omega, show x + 1 + k = x + (k + 1) by omega]
/-- where both loops stand: the first i are done -/
def hPos (d i x : Nat) (c : Nat → Nat) : Prop := (∀ j, j < i → c j < x) ∧ (∀ j, i ≤ j → j < d → x ≤ c j)
theorem m_next {N Ls d i x n : Nat} {tl : Nat → Bool} {c : Nat → Nat} {um : q_St} (hl : Ls ≤ 2048) (he : enu tl Ls c) (hd : cnt tl Ls = d) (ht : ∀ y, y < Ls → q_a um 34 y = b2i (tl y)) (hp : hPos d i x c) (hi : i < d) (hn : Ls - x < n) (h5 : q_i um 5 = nI Ls) :
    q_lp (fX11_bringHome_b2 N) (fun _ _ => none) n (nI x) um = q_bnd (fX11_write N (nI (c i)) um) (fun r3 u4 => if r3 = 0 then some (0, u4) else q_lp (fX11_bringHome_b2 N) (fun _ _ => none) (n - (c i - x) - 1) (nI (c i + 1)) u4) := by
  have hx := hp.2 i (Nat.le_refl _) hi
  obtain ⟨hc, hcd⟩ := he.1 i (by omega)
  have hz : ∀ y, x ≤ y → y < x + (c i - x) → q_a um 34 y = 0 := by
    intro y h1 h2
    rw [ht y (by omega)]
    cases hy : tl y with
    | false => rfl
    | true =>
      exfalso
      obtain ⟨j, j1, j2⟩ := he.2.2 y (by omega) hy
      by_cases q : j < i
      · have := hp.1 j q; omega
      · by_cases q2 : j = i
        · rw [q2] at j2; omega
        · have := he.2.1 i j (by omega) (by omega); omega
  rw [m_skip hl (c i - x) x n um hz (by omega) (by omega) h5, show x + (c i - x) = c i by omega, lp_1 (fX11_bringHome_b2 N) _ (n := n - (c i - x)) (by omega), fX11_bringHome_b2, h5, if_neg (nI_ge hc (by omega)), qr_n (by omega) (by omega), ht _ hc, hcd, b2i_t, if_neg (by decide)]
  unfold fX11_bringHome_b29
  simp only [qn_s, nI_1]
theorem m_last {N Ls d x n : Nat} {tl : Nat → Bool} {c : Nat → Nat} {um : q_St} (hl : Ls ≤ 2048) (he : enu tl Ls c) (hd : cnt tl Ls = d) (ht : ∀ y, y < Ls → q_a um 34 y = b2i (tl y)) (hp : hPos d d x c) (hx : x ≤ Ls) (hn : Ls - x < n) (h5 : q_i um 5 = nI Ls) : q_lp (fX11_bringHome_b2 N) (fun _ _ => none) n (nI x) um = some (1, um) := by
  have hz : ∀ y, x ≤ y → y < x + (Ls - x) → q_a um 34 y = 0 := by
    intro y h1 h2
    rw [ht y (by omega)]
    cases hy : tl y with
    | false => rfl
    | true =>
      exfalso
      obtain ⟨j, j1, j2⟩ := he.2.2 y (by omega) hy
      have := hp.1 j (by omega)
      omega
  rw [m_skip hl (Ls - x) x n um hz (by omega) (by omega) h5, show x + (Ls - x) = Ls by omega, lp_1 (fX11_bringHome_b2 N) _ (n := n - (Ls - x)) (by omega), fX11_bringHome_b2, h5, if_pos (nI_le (by omega) (by omega))]
/-- what home is behind it: some of the told ones are as they are told -/
def hOk (Ls d i : Nat) (c : Nat → Nat) (ct : Nat → Nat → Int64) (D D2 : Nat → Nat → Int64) : Prop := ∀ y, y < Ls → D2 y = D y ∨ ∃ j, i ≤ j ∧ j < d ∧ c j = y ∧ ∀ w, w < 8 → D2 y w = ct j w
theorem hOk_step {Ls d i : Nat} {c : Nat → Nat} {ct : Nat → Nat → Int64} {D D2 : Nat → Nat → Int64} {f : Nat → Int64} (hi : i < d) (hf : ∀ w, w < 8 → f w = ct i w) (h : hOk Ls d (i + 1) c ct (updD D (c i) f) D2) : hOk Ls d i c ct D D2 := by
  intro y hy
  rcases h y hy with q | ⟨j, j1, j2, j3, j4⟩
  · by_cases e : y = c i
    · right
      refine ⟨i, Nat.le_refl _, hi, e.symm, fun w hw => ?_⟩
      rw [q]
      unfold updD
      rw [if_pos e]
      exact hf w hw
    · left
      rw [q]
      funext w
      unfold updD
      rw [if_neg e]
  · exact Or.inr ⟨j, by omega, j2, j3, j4⟩
theorem l_home {B T S C W Ls hb d : Nat} {tl : Nat → Bool} {c : Nat → Nat} {mem : Nat → Int64} {L : Nat → Nat} {N : Nat} (g : Geo B T S C W Ls) (gl : gL B C W Ls L) (hN : 3000 ≤ N) (hb28 : hb + 100 < 2 ^ 28) (hd : d ≤ 75) (he : enu tl Ls c) (hcn : cnt tl Ls = d) : ∀ (k i x n1 n2 : Nat) (ux um : q_St) (D : Nat → Nat → Int64), i + k = d → k < n1 → Ls - x < n2 → x ≤ Ls → hPos d i x c → (∀ y, y < Ls → q_a um 34 y = b2i (tl y)) → VV B T S C W Ls (hb + i) none D ux um → jCh Ls d c ux → q_j ux 2 = mem →
    (∃ vx vm D2, q_lp (fX6_commitOver_b96 L N) (fun _ _ _ => none) n1 (nI d) (nI i) ux = some (0, vx) ∧ q_lp (fX11_bringHome_b2 N) (fun _ _ => none) n2 (nI x) um = some (0, vm) ∧ q_i vx 7 = 0 ∧ VV B T S C W Ls (hb + d) none D2 vx vm ∧ Fr jI jA jJ ux vx ∧ q_i vx 24 = q_i ux 24 ∧ Fr mI mA mJ um vm ∧ q_i vm 26 = q_i um 26 ∧ hOk Ls d i c (fun j w => mem (c j * 8 + w)) D D2) ∨
    (∃ vx vm D2, q_lp (fX6_commitOver_b96 L N) (fun _ _ _ => none) n1 (nI d) (nI i) ux = q_bnd (fX6_forgetAll L N vx) (fun _ u7 => some (1, u7)) ∧ q_lp (fX11_bringHome_b2 N) (fun _ _ => none) n2 (nI x) um = some (1, vm) ∧ q_i vx 7 = q_i ux 7 ∧ VV B T S C W Ls (hb + d) none D2 vx vm ∧ Fr jI jA jJ ux vx ∧ q_i vx 24 = q_i ux 24 ∧ Fr mI mA mJ um vm ∧ q_i vm 26 = q_i um 26 ∧ hOk Ls d i c (fun j w => mem (c j * 8 + w)) D D2 ∧ ∀ j, i ≤ j → j < d → ∀ w, w < 8 → D2 (c j) w = mem (c j * 8 + w)) := by
  have hls := g.l
  intro k
  induction k with
  | zero =>
    intro i x n1 n2 ux um D h1 h2 h3 hx hp ht v hc hm
    have : i = d := by omega
    subst this
    right
    refine ⟨ux, um, D, ?_, m_last hls.2 he hcn ht hp hx h3 v.gm.2.2.2.2.2.1, rfl, v, Fr.rf _ _ _ _, rfl, Fr.rf _ _ _ _, rfl, fun y hy => Or.inl rfl, fun j q1 q2 => by omega⟩
    rw [lp_1 _ _ (by omega), fX6_commitOver_b96, if_pos (nI_le (by omega) (by omega))]
  | succ k ih =>
    intro i x n1 n2 ux um D h1 h2 h3 hx hp ht v hc hm
    obtain ⟨c1, c2⟩ := hc i (by omega)
    have hxi := hp.2 i (Nat.le_refl _) (by omega)
    obtain ⟨r, vx, vm, w1, w2, w3⟩ := l_write19 (N := N) (x := c i) (at_ := c i * 8) g gl (by omega) v (by omega) c2 (by omega)
    have f1 : Fr jI jA jJ ux vx := (fr_X8_write_19 w1).mono (by decide) (by decide) (by decide)
    have f2 : Fr mI mA mJ um vm := (fr_X11_write w2).mono (by decide) (by decide) (by decide)
    have k24 : q_i vx 24 = q_i ux 24 := (fr_X8_write_19 w1).1 24 (by decide)
    have k26 : q_i vm 26 = q_i um 26 := (fr_X11_write w2).1 26 (by decide)
    rw [lp_1 (fX6_commitOver_b96 L N) _ (n := n1) (by omega), fX6_commitOver_b96, if_neg (nI_ge (by omega) (by omega)), gl.2.2.2.2.2.2.2.2.2.1, qr_n (by omega) (by omega), qr_n (by omega) (by omega), c1, show nI (c i) * (8 : Int32) = nI (c i * 8) from pk_mul _ 8, w1, qb_s]
    rw [m_next hls.2 he hcn ht hp (by omega) h3 v.gm.2.2.2.2.2.1, w2, qb_s]
    rcases w3 with ⟨r0, r7, vv⟩ | ⟨r1, r7, vv⟩
    · left
      rw [r0, if_pos rfl, if_pos rfl]
      exact ⟨vx, vm, D, rfl, rfl, r7, VV_le vv (by omega), f1, k24, f2, k26, fun y hy => Or.inl rfl⟩
    · rw [r1, if_neg (by decide), if_neg (by decide), qn_s, nI_1]
      have hc2 : jCh Ls d c vx := by
        intro j hj2
        have := hc j hj2
        rw [f1.2.1 6 (by decide)]
        exact this
      have ht2 : ∀ y, y < Ls → q_a vm 34 y = b2i (tl y) := fun y hy => by rw [f2.2.1 34 (by decide)]; exact ht y hy
      have hp2 : hPos d (i + 1) (c i + 1) c := by
        refine ⟨fun j hj => ?_, fun j q1 q2 => ?_⟩
        · by_cases q : j = i
          · rw [q]; omega
          · have := hp.1 j (by omega); omega
        · have := he.2.1 i j (by omega) (by omega); omega
      have hfi : ∀ w, w < 8 → q_j ux 2 (c i * 8 + w) = mem (c i * 8 + w) := fun w _ => by rw [hm]
      rcases ih (i + 1) (c i + 1) (n1 - 1) (n2 - (c i - x) - 1) vx vm _ (by omega) (by omega) (by omega) (by omega) hp2 ht2 vv hc2 ((f1.2.2 2 (by decide)).trans hm) with ⟨wx, wm, D2, z1, z2, z3, z4, z5, z5b, z6, z6b, z7⟩ | ⟨wx, wm, D2, z1, z2, z3, z4, z5, z5b, z6, z6b, z7, z8⟩
      · left
        exact ⟨wx, wm, D2, z1, z2, z3, z4, f1.trans z5, z5b.trans k24, f2.trans z6, z6b.trans k26, hOk_step (by omega) hfi z7⟩
      · right
        refine ⟨wx, wm, D2, z1, z2, z3.trans r7, z4, f1.trans z5, z5b.trans k24, f2.trans z6, z6b.trans k26, hOk_step (by omega) hfi z7, fun j q1 q2 w hw => ?_⟩
        by_cases q : j = i
        · rw [q]
          rcases z7 (c i) c2 with y | ⟨j2, y1, y2, y3, y4⟩
          · rw [y]
            unfold updD
            rw [if_pos rfl]
            exact hfi w hw
          · exfalso
            have := he.2.1 i j2 (by omega) (by omega)
            omega
        · exact z8 j (by omega) q2 w hw
