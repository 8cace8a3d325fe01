/-! ===== whether there is room; what refuses a new NAME ===== -/
theorem cnt_all {P : Nat → Bool} : ∀ {n : Nat}, (∀ i, i < n → P i = true) → cnt P n = n
  | 0, _ => rfl
  | n + 1, h => by
    simp only [cnt]
    rw [cnt_all (fun i hi => h i (by omega)), if_pos (h n (by omega))]
theorem cnt_some {P : Nat → Bool} {i : Nat} : ∀ {n : Nat}, i < n → P i = false → cnt P n < n
  | 0, h, _ => by omega
  | n + 1, h, hp => by
    simp only [cnt]
    by_cases c : i = n
    · rw [← c, hp, if_neg (by decide)]
      have := cnt_le P i
      omega
    · have := cnt_some (n := n) (by omega) hp
      split <;> omega
theorem rm_free {W Ls fb : Nat} {A : Nat → Nat → Nat} (hfb : fb ≤ Ls) (h17 : ∀ x, A 17 x ≤ 1) (hlow : ∀ x, x < fb → A 17 x = 1) : (0 < Ls - uC A Ls ↔ fnd (frB A W none) (Ls - fb) fb < Ls) := by
  have hin := fnd_in (frB A W none) (Ls - fb) fb
  constructor
  · intro h
    rcases Nat.lt_or_ge (fnd (frB A W none) (Ls - fb) fb) Ls with q | q
    · exact q
    · exfalso
      have : uC A Ls = Ls := by
        unfold uC
        refine cnt_all (fun i hi => ?_)
        rcases Nat.lt_or_ge i fb with z | z
        · rw [hlow i z]; rfl
        · have := fnd_no (frB A W none) (Ls - fb) fb i z (by omega)
          unfold frB at this
          have h1 := h17 i
          by_cases c : A 17 i = 0
          · rw [c] at this; simp at this
          · exact decide_eq_true (by omega)
      omega
  · intro h
    have hy := fnd_yes (frB A W none) (Ls - fb) fb (by omega)
    have h0 : A 17 (fnd (frB A W none) (Ls - fb) fb) = 0 := by
      generalize fnd (frB A W none) (Ls - fb) fb = z at hy
      unfold frB at hy
      simp at hy
      exact hy
    have : uC A Ls < Ls := cnt_some h (by simp [h0])
    omega
/-- the lowest free one of all is the lowest free BLOCK -/
theorem low_free {W Ls fb y : Nat} {A : Nat → Nat → Nat} (h17 : ∀ x, A 17 x ≤ 1) (hlow : ∀ x, x < fb → A 17 x = 1) (hy : fnd (frB A W none) (Ls - fb) fb = y) (hyL : y < Ls) (hfb : fb ≤ Ls) : fb ≤ y ∧ A 17 y = 0 ∧ ∀ x, x < y → A 17 x = 1 := by
  have hin := fnd_in (frB A W none) (Ls - fb) fb
  have hyes := fnd_yes (frB A W none) (Ls - fb) fb (by omega)
  have hno := fnd_no (frB A W none) (Ls - fb) fb
  rw [hy] at hin hyes hno
  refine ⟨hin.1, ?_, fun x hx => ?_⟩
  · unfold frB at hyes
    simp at hyes
    exact hyes
  · rcases Nat.lt_or_ge x fb with z | z
    · exact hlow x z
    · have := hno x z hx
      unfold frB at this
      have h1 := h17 x
      by_cases c : A 17 x = 0
      · rw [c] at this; simp at this
      · omega
theorem l_hasRoom {B T S C W Ls na hb d : Nat} {D kv : Nat → Nat → Int64} {Ak : Nat → Nat → Nat} {nk : Nat → Int64} {K : Nat → Nat → Int64} {dd : Nat → Bool} {A : Nat → Nat → Nat} {nm : Nat → Int64} {L : Nat → Nat} {N : Nat} {ux um : q_St} (t : Tn B T S C W Ls na hb D kv Ak nk K dd A nm ux um) (g : Geo B T S C W Ls) (gl : gL B C W Ls L) (hna : na = 80 + (Ls + 511) / 512) (hN : 3000 ≤ N) (hd : d < 64) (hk : A 5 d = 2) :
    ∃ r, fX3_hasRoom L N (nI d) 0 ux = some (b2i r, ux) ∧ fX11_hasRoom N (nI d) (-1) um = some (b2i r, um) ∧ (r = true → fnd (sF A d) (4 * A 8 d) 0 < 4 * A 8 d ∨ (fnd (sF A d) (4 * A 8 d) 0 = 4 * A 8 d ∧ A 8 d < 12 ∧ fnd (frB A W none) (Ls - (na + 64)) (na + 64) < Ls)) := by
  have x := t.x g gl hna
  have rm := t.rm
  have hl := g.l
  have tw := t.2.2.2.2.2.2.2.1
  have h17 := tw.1.2.2.2.2.2.2.2
  have hlow := tw.2.2.1.2.2.2
  have h8 := x.t8 hd
  have gm := t.1.1.gm
  have hfi := fnd_in (sF A d) (4 * A 8 d) 0
  have fs := m_freeSlot (N := N) rm (by omega) hd h8 x.t14
  have fb := m_freeBlock (N := N) (fb := na + 64) g hN (by omega) rm gm.2.2.2.2.2.1 gm.2.2.2.2.1 (by rw [gm.2.2.2.2.2.2.1]; congr 1; omega) h17 none (fun k e => by cases e)
  have fb : fX11_freeBlock N (-1) um = _ := fb
  unfold fX3_hasRoom fX11_hasRoom fX11_hasRoom_b29
  rw [x_seek0 x (by omega) hd hk, qb_s, fs, qb_s]
  by_cases c : fnd (sF A d) (4 * A 8 d) 0 < 4 * A 8 d
  · rw [if_neg (fun z => (slX_no (by omega)).mp z c), if_neg (fun z => (slM_no (by omega)).mp z c)]
    exact ⟨true, rfl, rfl, fun _ => Or.inl c⟩
  · have e : fnd (sF A d) (4 * A 8 d) 0 = 4 * A 8 d := by omega
    rw [if_pos ((slX_no (by omega)).mpr c), if_pos ((slM_no (by omega)).mpr c), show (11 : Int32) = nI 11 from rfl, x_blockAt x hd hk (by decide), qb_s, qr_n hd (by decide), rm.r7 (by decide) hd]
    by_cases c12 : A 8 d < 12
    · rw [show (if 11 < A 8 d then A 13 (12 * d + 11) else 0) = 0 from if_neg (by omega), if_pos (show nI 0 = (0 : Int32) from rfl), x_freeCount g gl (by omega) x.2.1 x.2.2.1.1, qb_s, if_neg (show ¬ (12 : Int32) ≤ nI (A 8 d) from nI_ge (a := A 8 d) (b := 12) c12 (by omega)), fb, qb_s]
      have rr := rm_free (W := W) (Ls := Ls) (fb := na + 64) (by omega) h17 hlow
      by_cases c0 : 0 < Ls - uC A Ls
      · have hy := rr.mp c0
        rw [if_neg (show ¬ nI (Ls - uC A Ls) ≤ (0 : Int32) from nI_ge (a := 0) c0 (by omega)), if_pos hy, if_neg (m1_ne _ (by omega))]
        exact ⟨true, rfl, rfl, fun _ => Or.inr ⟨e, c12, hy⟩⟩
      · have hy : ¬ fnd (frB A W none) (Ls - (na + 64)) (na + 64) < Ls := fun z => c0 (rr.mpr z)
        rw [if_pos (show nI (Ls - uC A Ls) ≤ (0 : Int32) from nI_le (b := 0) (by omega) (by omega)), if_neg hy, if_pos rfl]
        exact ⟨false, rfl, rfl, fun z => by cases z⟩
    · have hb1 := (dirB x hd hk (show 11 < A 8 d by omega)).1
      rw [show (if 11 < A 8 d then A 13 (12 * d + 11) else 0) = A 13 (12 * d + 11) from if_pos (by omega), if_neg (nI_ne0 (by omega) (by omega)), if_pos (show (12 : Int32) ≤ nI (A 8 d) from nI_le (a := 12) (by omega) (by omega))]
      exact ⟨false, rfl, rfl, fun z => by cases z⟩
theorem l_refAdd {B T S C W Ls na hb : Nat} {D kv : Nat → Nat → Int64} {Ak : Nat → Nat → Nat} {nk : Nat → Int64} {K : Nat → Nat → Int64} {dd : Nat → Bool} {A : Nat → Nat → Nat} {nm : Nat → Int64} {L : Nat → Nat} {N : Nat} {ux um : q_St} (t : Tn B T S C W Ls na hb D kv Ak nk K dd A nm ux um) (g : Geo B T S C W Ls) (gl : gL B C W Ls L) (hna : na = 80 + (Ls + 511) / 512) (hN : 3000 ≤ N) (o : Int32) (v : Int64) :
    ∃ r, fX10_refusalToAdd L N o v ux = some (r, ux) ∧ fX11_refusal N o v um = some (r, um) ∧ (r = 0 → ∃ d, d < 64 ∧ o = nI d ∧ A 5 d = 2 ∧ isNm v = true) ∧ (¬ r = 0 → r < 0) := by
  have x := t.x g gl hna
  have rm := t.rm
  unfold fX10_refusalToAdd fX10_refusalToGoBy fX11_refusal
  rcases nod o with ⟨d, hd, e⟩ | e
  · subst e
    rw [x_kindOf x hd, qb_s, m_isDir rm hd (x.k4 hd), qb_s]
    by_cases c : A 5 d = 2
    · rw [if_pos c, c, if_pos (show nI 2 = (2 : Int32) from rfl), if_neg (show ¬ (1 : Int32) = 0 by decide), x_isName (by omega), m_isName (by omega), qb_s, qb_s]
      cases hv : isNm v with
      | false =>
        rw [b2i_f, if_pos rfl, if_pos rfl, qb_s, if_neg (by decide)]
        exact ⟨-11, rfl, rfl, fun z => absurd z (by decide), fun _ => by decide⟩
      | true =>
        rw [b2i_t, if_neg (by decide), if_neg (by decide), x_may x hd (by omega) (by omega), m_may rm hd, qb_s, qb_s, t.wh.1]
        rcases mayR_01 (q_i um 28) (nI (A 11 d)) (nI (A 12 d)) 3 with hm | hm
        · rw [hm, if_pos rfl, if_pos rfl, qb_s, if_neg (by decide)]
          exact ⟨-20, rfl, rfl, fun z => absurd z (by decide), fun _ => by decide⟩
        · have h8 := x.t8 hd
          rw [hm, if_neg (by decide), if_neg (by decide), qb_s, if_pos rfl, x_seek x (by omega) hd c (isNm_ok hv).1, m_slotOf rm (by omega) hd h8 x.t14, qb_s, qb_s]
          by_cases cf : fnd (sP A nm d v) (4 * A 8 d) 0 < 4 * A 8 d
          · rw [if_neg (fun z => (slX_no (by omega)).mp z cf), if_neg (fun z => (slM_no (by omega)).mp z cf)]
            exact ⟨-13, rfl, rfl, fun z => absurd z (by decide), fun _ => by decide⟩
          · rw [if_pos ((slX_no (by omega)).mpr cf), if_pos ((slM_no (by omega)).mpr cf)]
            exact ⟨0, rfl, rfl, fun _ => ⟨d, hd, rfl, c, rfl⟩, fun z => absurd rfl z⟩
    · rw [if_neg c, if_pos rfl, if_neg (show ¬ nI (A 5 d) = (2 : Int32) from nI_k (b := 2) (x.k4 hd) (by decide) c), qb_s, if_neg (by decide)]
      exact ⟨-10, rfl, rfl, fun z => absurd z (by decide), fun _ => by decide⟩
  · rw [x_kindOut e, qb_s, m_isDirOut e, qb_s, if_neg (by decide), if_pos rfl, qb_s, if_neg (by decide)]
    exact ⟨-10, rfl, rfl, fun z => absurd z (by decide), fun _ => by decide⟩
