/-! ===== PARTS of a path ===== -/
def sI : Option Nat → Int32
  | none => -1
  | some n => nI n
def Wsz (A : Nat → Nat → Nat) (len : Nat) : Option Nat → Nat
  | none => len
  | some n => A 6 n
def Wby (A : Nat → Nat → Nat) (b : Nat → Nat) : Option Nat → Nat → Nat
  | none, i => b i
  | some n, i => A 16 (40 * n + i)
def Wok (A : Nat → Nat → Nat) : Option Nat → Prop
  | none => True
  | some n => n < 64 ∧ A 5 n = 4
/-- all that stays, in the class and in the reference, while a path is walked -/
def WX (B T S C W Ls na hb : Nat) (um : q_St) (D K : Nat → Nat → Int64) (dd : Nat → Bool) (A : Nat → Nat → Nat) (nm : Nat → Int64) (L : Nat → Nat) (len : Nat) (b : Nat → Nat) (u : q_St) : Prop := Xr B T S C W Ls na hb um D K dd A nm L u ∧ q_i u 32 = nI len ∧ len ≤ 1280 ∧ ∀ i, i < len → b i < 256 ∧ q_a u 8 i = nI (b i)
def WM (Ls : Nat) (A : Nat → Nat → Nat) (nm : Nat → Int64) (len : Nat) (b : Nat → Nat) (w : q_St) : Prop := RM Ls A nm (q_a w) (q_j w 0) ∧ q_i w 30 = nI len ∧ ∀ i, i < len → q_a w 35 i = sB (b i)
theorem WX_fr {B T S C W Ls na hb : Nat} {um : q_St} {D K : Nat → Nat → Int64} {dd : Nat → Bool} {A : Nat → Nat → Nat} {nm : Nat → Int64} {L : Nat → Nat} {len : Nat} {b : Nat → Nat} {u v : q_St} (x : WX B T S C W Ls na hb um D K dd A nm L len b u) (f : Fr [34, 35, 36, 37, 38, 39, 40] [7, 10, 11, 12, 13, 14] [4] u v) : WX B T S C W Ls na hb um D K dd A nm L len b v := by
  obtain ⟨x1, x2, x3, x4⟩ := x
  exact ⟨Xr_sc x1 f, (f.1 32 (by decide)).trans x2, x3, fun i hi => by rw [f.2.1 8 (by decide)]; exact x4 i hi⟩
theorem WM_fr {Ls : Nat} {A : Nat → Nat → Nat} {nm : Nat → Int64} {len : Nat} {b : Nat → Nat} {w v : q_St} (x : WM Ls A nm len b w) (f : Fr [29, 31] [36, 37] [] w v) : WM Ls A nm len b v := by
  obtain ⟨x1, x2, x3⟩ := x
  exact ⟨RM_fr x1 (fun k q1 q2 => f.2.1 k (by simp only [List.mem_cons, List.not_mem_nil, or_false]; omega)) (f.2.2 0 (by decide)), (f.1 30 (by decide)).trans x2, fun i hi => by rw [f.2.1 35 (by decide)]; exact x3 i hi⟩
theorem W_bd {B T S C W Ls na hb : Nat} {um : q_St} {D K : Nat → Nat → Int64} {dd : Nat → Bool} {A : Nat → Nat → Nat} {nm : Nat → Int64} {L : Nat → Nat} {len : Nat} {b : Nat → Nat} {u : q_St} (x : WX B T S C W Ls na hb um D K dd A nm L len b u) {s : Option Nat} (ok : Wok A s) : Wsz A len s ≤ 1280 ∧ ∀ i, i < Wsz A len s → Wby A b s i < 256 := by
  obtain ⟨x1, x2, x3, x4⟩ := x
  cases s with
  | none => exact ⟨x3, fun i hi => (x4 i hi).1⟩
  | some n =>
    obtain ⟨o1, o2⟩ := ok
    have := x1.2.2.2.1.2.2.2.1 n o1 o2
    exact ⟨show A 6 n ≤ 1280 by omega, fun i hi => x1.2.2.2.1.2.2.2.2.2.1 _⟩
theorem x_wb {B T S C W Ls na hb : Nat} {um : q_St} {D K : Nat → Nat → Int64} {dd : Nat → Bool} {A : Nat → Nat → Nat} {nm : Nat → Int64} {L : Nat → Nat} {N : Nat} {len i : Nat} {b : Nat → Nat} {u : q_St} (x : WX B T S C W Ls na hb um D K dd A nm L len b u) {s : Option Nat} (ok : Wok A s) (hi : i < Wsz A len s) : fX9_byteOf L N (sI s) (nI i) u = some (nI (Wby A b s i), u) := by
  obtain ⟨x1, x2, x3, x4⟩ := x
  cases s with
  | none =>
    unfold fX9_byteOf sI
    rw [if_pos rfl, x_tape x1.1.2.1 x2 x3 (fun j hj => (x4 j hj).2) hi, qb_s]
    rfl
  | some n =>
    obtain ⟨o1, o2⟩ := ok
    have h40 := x1.2.2.2.1.2.2.2.1 n o1 o2
    have mn := (x1.2.2.1.2.1 n o1).2.2.2.2.2 o2 i hi
    obtain ⟨e30, hL⟩ := x1.na30
    have hi' : i < A 6 n := hi
    unfold fX9_byteOf sI fX4_sectorOf
    rw [if_neg (m1_ne n (by omega)), qb_s, e30, nI_add, show (24 : Int32) + nI i = nI (24 + i) from nI_add 24 i, x_octet x1.1.1 x1.1.2.1 x1.2.1 (by omega) (by omega), qb_s]
    show some (nI (sO (K (na + n)) (24 + i)), u) = _
    rw [mn]
    rfl
theorem m_wb {Ls : Nat} {A : Nat → Nat → Nat} {nm : Nat → Int64} {N : Nat} {len i : Nat} {b : Nat → Nat} {w : q_St} (x : WM Ls A nm len b w) (hlen : len ≤ 1280) (h40 : ∀ n, n < 64 → A 5 n = 4 → A 6 n ≤ 40) {s : Option Nat} (ok : Wok A s) (hi : i < Wsz A len s) : fX11_byteOf N (sI s) (nI i) w = some (sB (Wby A b s i), w) := by
  obtain ⟨x1, x2, x3⟩ := x
  cases s with
  | none =>
    have hi' : i < len := hi
    unfold fX11_byteOf sI
    rw [if_pos rfl, qr_n (by omega) (by omega), x3 i hi]
    rfl
  | some n =>
    obtain ⟨o1, o2⟩ := ok
    have := h40 n o1 o2
    have hi' : i < A 6 n := hi
    unfold fX11_byteOf sI
    rw [if_neg (m1_ne n (by omega)), show (40 : Int32) * nI n = nI (40 * n) from pk_mul 40 n, nI_add, qr_n (by omega) (by omega), x1.2.2.2.1 _ (by omega)]
    rfl
theorem m_wsz {Ls : Nat} {A : Nat → Nat → Nat} {nm : Nat → Int64} {N : Nat} {len : Nat} {b : Nat → Nat} {w : q_St} (x : WM Ls A nm len b w) {s : Option Nat} (ok : Wok A s) : fX11_sizeOf N (sI s) w = some (nI (Wsz A len s), w) := by
  obtain ⟨x1, x2, x3⟩ := x
  cases s with
  | none =>
    unfold fX11_sizeOf sI
    rw [if_pos rfl, x2]
    rfl
  | some n =>
    obtain ⟨o1, o2⟩ := ok
    unfold fX11_sizeOf sI
    rw [if_neg (m1_ne n (by omega)), qr_n o1 (by decide), x1.r7 (by decide) o1]
    rfl
theorem sB_eq {b c : Nat} (hb : b < 256) (hc : c < 128) : sB b = nI c ↔ b = c := by
  have ea : sB b &&& 255 = nI b := sB_and ⟨b, hb⟩
  have ec : sB c &&& 255 = nI c := sB_and ⟨c, by omega⟩
  have e2 : ∀ c : Fin 128, sB c.1 = nI c.1 := by decide +kernel
  constructor
  · intro h
    rw [h, ← e2 ⟨c, hc⟩] at ea
    rw [ec] at ea
    exact (nI_inj (by omega) (by omega) ea).symm
  · intro h
    rw [h]
    exact e2 ⟨c, hc⟩
/-- up to the next '/', in both -/
theorem l_scan {B T S C W Ls na hb : Nat} {um : q_St} {D K : Nat → Nat → Int64} {dd : Nat → Bool} {A : Nat → Nat → Nat} {nm : Nat → Int64} {L : Nat → Nat} {N : Nat} {len sz : Nat} {b : Nat → Nat} {w : q_St} {s : Option Nat} {x1 y1 y3 : Int32} (xm : WM Ls A nm len b w) (h40 : ∀ n, n < 64 → A 5 n = 4 → A 6 n ≤ 40) (ok : Wok A s) (hsz : sz = Wsz A len s) :
    ∀ (k i m m2 : Nat) (u : q_St), i + k = sz → k < m → k < m2 → WX B T S C W Ls na hb um D K dd A nm L len b u → q_i u 37 = sI s → q_i u 39 = nI i → ∃ t v, i ≤ t ∧ t ≤ sz ∧ q_lp (fX9_nextPart_b88 L N) (fun _ _ _ => none) m x1 (nI sz) u = fX9_nextPart_b126 L N x1 (nI sz) v ∧ q_lp (fX11_part_b27 N) (fun _ _ _ _ _ => none) m2 y1 (sI s) y3 (nI i) w = fX11_part_b55 N y1 (sI s) y3 (nI t) w ∧ q_i v 39 = nI t ∧ Fr [39] [] [] u v := by
  intro k
  induction k with
  | zero =>
    intro i m m2 u h1 h2 h3 xx h37 h39
    have hs := (W_bd xx ok).1
    have : i = sz := by omega
    subst this
    refine ⟨i, u, Nat.le_refl _, Nat.le_refl _, ?_, ?_, h39, Fr.rf _ _ _ _⟩
    · rw [lp_1 _ _ h2, fX9_nextPart_b88, h39, if_pos (nI_le (by omega) (by omega))]
    · rw [lp_1 _ _ h3, fX11_part_b27, m_wsz xm ok, qb_s, ← hsz, if_pos (nI_le (by omega) (by omega))]
  | succ k ih =>
    intro i m m2 u h1 h2 h3 xx h37 h39
    have hs := W_bd xx ok
    have hi : i < Wsz A len s := by omega
    have hlen := xx.2.2.1
    by_cases c : Wby A b s i = 47
    · refine ⟨i, u, Nat.le_refl _, by omega, ?_, ?_, h39, Fr.rf _ _ _ _⟩
      · rw [lp_1 _ _ (by omega), fX9_nextPart_b88, h39, if_neg (nI_ge (by omega) (by omega)), h37, x_wb xx ok hi, qb_s, if_pos (by rw [c]; rfl)]
      · rw [lp_1 _ _ (by omega), fX11_part_b27, m_wsz xm ok, qb_s, ← hsz, if_neg (nI_ge (by omega) (by omega)), m_wb xm hlen h40 ok hi, qb_s, if_pos (show sB (Wby A b s i) = (47 : Int32) from (sB_eq (c := 47) (hs.2 i hi) (by decide)).mpr c)]
    · have f1 : Fr [39] [] [] u (q_si u 39 (nI (i + 1))) := fr_si1 u (by decide)
      obtain ⟨t, v, t1, t2, t3, t4, t5, t6⟩ := ih (i + 1) (m - 1) (m2 - 1) (q_si u 39 (nI (i + 1))) (by omega) (by omega) (by omega) (WX_fr xx (f1.mono (by decide) (by decide) (by decide))) ((f1.1 37 (by decide)).trans h37) qi_eq
      refine ⟨t, v, by omega, t2, ?_, ?_, t5, f1.trans t6⟩
      · rw [lp_1 _ _ (by omega), fX9_nextPart_b88, h39, if_neg (nI_ge (by omega) (by omega)), h37, x_wb xx ok hi, qb_s, if_neg (show ¬ nI (Wby A b s i) = (47 : Int32) from fun z => c (nI_inj (b := 47) (by have := hs.2 i hi; omega) (by decide) z)), h39, qn_s, nI_1]
        exact t3
      · rw [lp_1 _ _ (by omega), fX11_part_b27, m_wsz xm ok, qb_s, ← hsz, if_neg (nI_ge (by omega) (by omega)), m_wb xm hlen h40 ok hi, qb_s, if_neg (show ¬ sB (Wby A b s i) = (47 : Int32) from fun z => c ((sB_eq (c := 47) (hs.2 i hi) (by decide)).mp z)), qn_s, nI_1]
        exact t4
