/-! ===== STEPS while nothing is free ===== -/
theorem cq_ex (P : Nat → Bool) : ∀ k q, 0 < cq P k q → ∃ i, q ≤ i ∧ i < q + k ∧ P i = true
  | 0, q, h => by simp only [cq] at h; omega
  | k + 1, q, h => by
    simp only [cq] at h
    by_cases c : P q = true
    · exact ⟨q, Nat.le_refl _, by omega, c⟩
    · rw [if_neg c] at h
      obtain ⟨i, h1, h2, h3⟩ := cq_ex P k (q + 1) (by omega)
      exact ⟨i, by omega, by omega, h3⟩
theorem cnt_mono {P Q : Nat → Bool} : ∀ {n : Nat}, (∀ i, i < n → P i = true → Q i = true) → cnt P n ≤ cnt Q n
  | 0, _ => Nat.le_refl _
  | n + 1, h => by
    have h1 := cnt_mono (n := n) (fun i hi => h i (by omega))
    have h2 := h n (by omega)
    simp only [cnt]
    by_cases c : P n = true
    · rw [if_pos c, if_pos (h2 c)]; omega
    · rw [if_neg c]; omega
theorem cnt_less {P Q : Nat → Bool} {b : Nat} : ∀ {n : Nat}, (∀ i, i < n → P i = true → Q i = true) → b < n → Q b = true → P b = false → cnt P n + 1 ≤ cnt Q n
  | 0, _, hb, _, _ => by omega
  | n + 1, h, hb, hq, hp => by
    have h2 := h n (by omega)
    simp only [cnt]
    by_cases c0 : b = n
    · have h1 := cnt_mono (n := n) (fun i hi => h i (by omega))
      rw [c0] at hq hp
      rw [hp, if_pos hq, if_neg (by decide)]; omega
    · have h1 := cnt_less (n := n) (fun i hi => h i (by omega)) (by omega) hq hp
      by_cases c : P n = true
      · rw [if_pos c, if_pos (h2 c)]; omega
      · rw [if_neg c]; omega
/-- which band is being cleaned of all its entries; how many STEPS it still takes -/
def cln (h : Nat) (cl : Cl) : Option Nat := match cl with
  | none => none
  | some (b, lim, _, _) => if lim = h then some b else none
def rst (T : Nat) (cl : Cl) : Nat := match cl with
  | none => 0
  | some (_, _, sf, tr) => if sf = true then T - tr + 1 else T - tr + T + 2
def opn (h : Nat) (c : Option Nat) (f : Nat → Int32) (b : Nat) : Bool := decide (¬ f b = nI h) && decide (¬ c = some b)
def mea (B T h : Nat) (cl : Cl) (um : q_St) : Nat := match cl with
  | none => (2 * T + 4) * cnt (opn h none (q_a um 4)) B
  | some (b, lim, sf, tr) => (2 * T + 4) * (if lim = h then cnt (opn h (some b) (q_a um 4)) B else B + 1) + rst T (some (b, lim, sf, tr))
theorem mea_le {B T S C W Ls h : Nat} {cl : Cl} {um : q_St} (g : Geo B T S C W Ls) : mea B T h cl um < 700 := by
  obtain ⟨a1, a2, a3, a4, a5, a6⟩ := id g
  have hk : ∀ k, k ≤ B + 1 → (2 * T + 4) * k ≤ 68 * 9 := fun k hk => Nat.mul_le_mul (by omega) (by omega)
  unfold mea
  cases cl with
  | none =>
    have := hk _ (Nat.le_trans (cnt_le (opn h none (q_a um 4)) B) (by omega))
    dsimp only
    omega
  | some q =>
    obtain ⟨b, lim, sf, tr⟩ := q
    have h1 : rst T (some (b, lim, sf, tr)) ≤ 2 * T + 2 := by
      unfold rst
      dsimp only
      split <;> omega
    dsimp only
    split
    · have := hk _ (Nat.le_trans (cnt_le (opn h (some b) (q_a um 4)) B) (by omega))
      omega
    · have := hk (B + 1) (by omega)
      omega
theorem mea_step {B T S C W Ls h t t2 : Nat} {cl cl2 : Cl} {sm : Option Nat} {p : Nat} {ux um vm : q_St} (g : Geo B T S C W Ls) (v : vU B T S C W Ls h t cl sm p ux um) (hf : h = t + C) (htr : trn T C W B h t cl um t2 cl2 vm) (hf2 : h = t2 + C) : mea B T h cl2 vm < mea B T h cl um := by
  obtain ⟨a1, a2, a3, a4, a5, a6⟩ := id g
  obtain ⟨⟨gx, gm⟩, vw, vr, cr, lr, kr, vc, e1, e2, e3, e4⟩ := id v
  have hh := vw.2.2.2.2.1
  rcases htr with ⟨r1, r2, r3, r4, r5, r6⟩ | ⟨r1, r2, r3, r4, r5⟩ | ⟨b, r1, r2, r3, r4, r5⟩ | ⟨b, lim, sf, tr, r1, r2, r3, r4, r5⟩ | ⟨b, lim, r1, r2, r3, r4⟩ | ⟨b, lim, r1, r2, r3⟩
  · exfalso
    have := (old_full g vw).mpr r2
    omega
  · exfalso
    omega
  · rw [r1, r3]
    obtain ⟨n, hn⟩ : ∃ n, B = n + 1 := ⟨B - 1, by omega⟩
    have hb : b < B := amx_lt _ B b r2
    have hpos : 0 < lvn C W h t um b := by
      rw [hn] at r2
      exact ((amx_xmx (lvn C W h t um) n).2.1 b r2).2
    obtain ⟨q, q1, q2, q3⟩ := cq_ex _ _ _ hpos
    have hmk : ¬ q_a um 4 b = nI h := by
      intro z
      unfold lvb at q3
      simp at q3
      obtain ⟨q4, q5⟩ := q3
      unfold lvm at q4
      rw [q5, z] at q4
      simp at q4
      exact absurd q4.2 (nI_ge (by omega) (by omega))
    have hc : cnt (opn h (some b) (q_a vm 4)) B + 1 ≤ cnt (opn h none (q_a um 4)) B := by
      refine cnt_less (b := b) (fun i hi z => ?_) hb ?_ ?_
      · unfold opn at z ⊢
        rw [r5] at z
        simp at z
        simp [z.1]
      · unfold opn
        simp [hmk]
      · unfold opn
        simp
    have hm := Nat.mul_le_mul_left (2 * T + 4) hc
    rw [Nat.mul_add, Nat.mul_one] at hm
    show (2 * T + 4) * (if h = h then cnt (opn h (some b) (q_a vm 4)) B else B + 1) + (T - 0 + T + 2) < (2 * T + 4) * cnt (opn h none (q_a um 4)) B
    rw [if_pos rfl]
    omega
  · rw [r1, r3]
    show (2 * T + 4) * (if lim = h then cnt (opn h (some b) (q_a vm 4)) B else B + 1) + rst T (some (b, lim, sf, tr + 1)) < (2 * T + 4) * (if lim = h then cnt (opn h (some b) (q_a um 4)) B else B + 1) + rst T (some (b, lim, sf, tr))
    rw [r5]
    refine Nat.add_lt_add_left ?_ _
    cases sf
    · show T - (tr + 1) + T + 2 < T - tr + T + 2
      omega
    · show T - (tr + 1) + 1 < T - tr + 1
      omega
  · rw [r1, r2]
    show (2 * T + 4) * (if lim = h then cnt (opn h (some b) (q_a vm 4)) B else B + 1) + (T - 0 + 1) < (2 * T + 4) * (if lim = h then cnt (opn h (some b) (q_a um 4)) B else B + 1) + (T - T + T + 2)
    rw [r4]
    omega
  · rw [r1, r2]
    show (2 * T + 4) * cnt (opn h none (q_a vm 4)) B < (2 * T + 4) * (if lim = h then cnt (opn h (some b) (q_a um 4)) B else B + 1) + (T - T + 1)
    by_cases c : lim = h
    · rw [if_pos c]
      have hc : cnt (opn h none (q_a vm 4)) B ≤ cnt (opn h (some b) (q_a um 4)) B := by
        refine cnt_mono (fun i hi z => ?_)
        unfold opn at z ⊢
        rw [r3, c] at z
        by_cases ci : i = b
        · rw [ci, up_s] at z
          simp at z
        · rw [up_n ci] at z
          simp at z
          simp [z]
          exact fun e => ci e.symm
      have hm := Nat.mul_le_mul_left (2 * T + 4) hc
      omega
    · rw [if_neg c]
      have hm := Nat.mul_le_mul_left (2 * T + 4) (cnt_le (opn h none (q_a vm 4)) B)
      rw [Nat.mul_add]
      omega
theorem knd_ne {T C W h t : Nat} {cl : Cl} {um : q_St} {B : Nat} : ¬ knd T C W h t cl um B = -99 := by
  unfold knd
  cases cl with
  | none =>
    dsimp only
    split
    · split <;> decide
    · decide
  | some q =>
    obtain ⟨b, lim, sf, tr⟩ := q
    dsimp only
    split
    · split <;> decide
    · split <;> decide
theorem l_free {B T S C W Ls h t : Nat} {cl : Cl} {sm : Option Nat} {p : Nat} {L : Nat → Nat} {N : Nat} {ux um : q_St} (v : vU B T S C W Ls h t cl sm p ux um) : fX8_freePlaces L N ux = some (nI (C - (h - t)), ux) ∧ fX11_free N um = some (nI (C - (h - t)), um) := by
  obtain ⟨⟨gx, gm⟩, vw, vr, -⟩ := id v
  have h1 := vw.2.2.1
  have h2 := vw.2.2.2.1
  unfold fX8_freePlaces fX11_free
  rw [vr.1, vr.2.1, vw.1, vw.2.1, gx.2.2.2.2.2.1, gm.2.2.2.1, pk_sub h1, pk_sub (by omega)]
  exact ⟨rfl, rfl⟩
/-- the loop of the class, whatever is done behind it; what is behind the loop of the reference -/
def wlp (F : Int32 → Int32 → q_St → Option (Int32 × q_St)) (L : Nat → Nat) (N : Nat) (ih30 : Int32 → Int32 → Int32 → q_St → Option (Int32 × q_St)) : Int32 → Int32 → Int32 → q_St → Option (Int32 × q_St) := fun x1 x3 x4 u => (if 10000 ≤ x4 then (F x1 x3 u) else (q_bnd (fX8_freePlaces L N u) (fun r11 u12 => (if r11 = 0 then (q_bnd (fX8_step L N u12) (fun r14 u15 => (if r14 = (-99) then (some (0, u15)) else (q_nm (x4 + 1) (fun v17 => (ih30 x1 x3 v17 u15)))))) else (F x1 x3 u12)))))
theorem wlp_19 (L : Nat → Nat) (N : Nat) : fX8_write_19_b30 L N = wlp (fX8_write_19_b62 L N) L N := rfl
theorem wlp_22 (L : Nat → Nat) (N : Nat) : fX8_write_22_b30 L N = wlp (fX8_write_22_b62 L N) L N := rfl
def mtl (N : Nat) : Int32 → q_St → Option (Int32 × q_St) := fun x1 u5 => (q_bnd (fX11_lasts N u5) (fun r7 u8 => (if r7 = 0 then (some (0, u8)) else (q_nm (q_si u8 11 ((q_i u8 11) + 1)) (fun u10 => (q_dv (q_i u10 3) (q_wa 256 ((q_i u10 17) - (q_i u10 17) / (q_i u10 3) * (q_i u10 3)) (q_sa u10 2 (upd (q_a u10 2) (Int32.toNatClampNeg ((q_i u10 17) - (q_i u10 17) / (q_i u10 3) * (q_i u10 3))) x1)) (fun u11 => (q_wa 2048 x1 (q_sa u11 3 (upd (q_a u11 3) (Int32.toNatClampNeg x1) (q_i u11 17))) (fun u12 => (q_nm (q_si u12 17 ((q_i u12 17) + 1)) (fun u13 => (some (1, u13))))))))))))))
theorem b24_eq (N : Nat) (ih24 : Int32 → q_St → Option (Int32 × q_St)) (x1 : Int32) (u : q_St) : fX11_write_b24 N ih24 x1 u = (q_bnd (fX11_free N u) (fun r4 u5 => (if r4 = 0 then (q_bnd (fX11_step N u5) (fun r14 u15 => (if r14 = (-99) then (some (0, u15)) else (ih24 x1 u15)))) else mtl N x1 u5))) := rfl
theorem l_wloop {B T S C W Ls h : Nat} {L : Nat → Nat} {N : Nat} (g : Geo B T S C W Ls) (gl : gL B C W Ls L) (hN : 300 ≤ N) (F : Int32 → Int32 → q_St → Option (Int32 × q_St)) (x1 x3 : Int32) : ∀ (m : Nat) (cl : Cl) (t : Nat) (ux um : q_St) (i n1 n2 : Nat), (h = t + C → mea B T h cl um < m) → m < n1 → m < n2 → i + m < 10000 → vU B T S C W Ls h t cl none (prg cl) ux um →
    ∃ cl2 t2 vx vm, vU B T S C W Ls h t2 cl2 none (prg cl2) vx vm ∧ (∀ x w, x < Ls → w < 8 → dsk C W Ls t2 cl2 vx vm x w = dsk C W Ls t cl ux um x w) ∧ Fr wi_X8_step wa_X8_step wj_X8_step ux vx ∧
      ((q_lp (wlp F L N) (fun _ _ _ _ => none) n1 x1 x3 (nI i) ux = some (0, vx) ∧ q_lp (fX11_write_b24 N) (fun _ _ => none) n2 x1 um = some (0, vm) ∧ q_i vx 7 = 0) ∨
       (h < t2 + C ∧ q_lp (wlp F L N) (fun _ _ _ _ => none) n1 x1 x3 (nI i) ux = F x1 x3 vx ∧ q_lp (fX11_write_b24 N) (fun _ _ => none) n2 x1 um = mtl N x1 vm ∧ q_i vx 7 = q_i ux 7)) := by
  obtain ⟨a1, a2, a3, a4, a5, a6⟩ := id g
  have fin : ∀ (cl : Cl) (t : Nat) (ux um : q_St) (i n1 n2 : Nat), ¬ h = t + C → 0 < n1 → 0 < n2 → i < 10000 → vU B T S C W Ls h t cl none (prg cl) ux um → h < t + C ∧ q_lp (wlp F L N) (fun _ _ _ _ => none) n1 x1 x3 (nI i) ux = F x1 x3 ux ∧ q_lp (fX11_write_b24 N) (fun _ _ => none) n2 x1 um = mtl N x1 um := by
    intro cl t ux um i n1 n2 hf h1 h2 hi v
    have hq := v.2.1.2.2.2.1
    have ht := v.2.1.2.2.1
    obtain ⟨f1, f2⟩ := l_free (L := L) (N := N) v
    have hz : ¬ nI (C - (h - t)) = 0 := nI_ne0 (by omega) (by omega)
    refine ⟨by omega, ?_, ?_⟩
    · rw [lp_1 _ _ h1, wlp, if_neg (show ¬ (10000 : Int32) ≤ nI i from nI_ge (a := i) (b := 10000) hi (by omega)), f1, qb_s, if_neg hz]
    · rw [lp_1 _ _ h2, b24_eq, f2, qb_s, if_neg hz]
  intro m
  induction m with
  | zero =>
    intro cl t ux um i n1 n2 hm h1 h2 hi v
    obtain ⟨q1, q2, q3⟩ := fin cl t ux um i n1 n2 (fun e => by have := hm e; omega) h1 h2 (by omega) v
    exact ⟨cl, t, ux, um, v, fun _ _ _ _ => rfl, Fr.rf _ _ _ _, Or.inr ⟨q1, q2, q3, rfl⟩⟩
  | succ m ih =>
    intro cl t ux um i n1 n2 hm h1 h2 hi v
    by_cases hf : h = t + C
    · obtain ⟨f1, f2⟩ := l_free (L := L) (N := N) v
      have hz : nI (C - (h - t)) = 0 := by rw [show C - (h - t) = 0 by omega]; rfl
      obtain ⟨cl2, t2, vx, vm, r, s1, s2, s3, s4, s5⟩ := l_step (N := N) g gl hN v (fun _ => rfl)
      have hfr := fr_X8_step s1
      rw [lp_1 (wlp F L N) _ (n := n1) (by omega), lp_1 (fX11_write_b24 N) _ (n := n2) (by omega), b24_eq, f2, qb_s, if_pos hz, wlp, if_neg (show ¬ (10000 : Int32) ≤ nI i from nI_ge (a := i) (b := 10000) (by omega) (by omega)), f1, qb_s, if_pos hz, s1, s2, qb_s, qb_s]
      rcases s5 with ⟨s6, s7⟩ | ⟨s6, s7, s8⟩
      · rw [s6, if_pos rfl, if_pos rfl]
        exact ⟨cl2, t2, vx, vm, s3, s4, hfr, Or.inl ⟨rfl, rfl, s7⟩⟩
      · have hr : ¬ r = -99 := by rw [s6]; exact knd_ne
        rw [if_neg hr, if_neg hr, qn_s, nI_1]
        obtain ⟨cl3, t3, wx, wm, w1, w2, w3, w4⟩ := ih cl2 t2 vx vm (i + 1) (n1 - 1) (n2 - 1) (fun e => by have := mea_step g v hf s8 e; have := hm hf; omega) (by omega) (by omega) (by omega) s3
        refine ⟨cl3, t3, wx, wm, w1, fun x w hx hw => (w2 x w hx hw).trans (s4 x w hx hw), hfr.trans w3, ?_⟩
        rcases w4 with q | ⟨q1, q2, q3, q4⟩
        · exact Or.inl q
        · exact Or.inr ⟨q1, q2, q3, q4.trans s7⟩
    · obtain ⟨q1, q2, q3⟩ := fin cl t ux um i n1 n2 hf (by omega) (by omega) (by omega) v
      exact ⟨cl, t, ux, um, v, fun _ _ _ _ => rfl, Fr.rf _ _ _ _, Or.inr ⟨q1, q2, q3, rfl⟩⟩
