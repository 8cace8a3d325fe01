/-! ===== lay: room ===== -/
/-- the band taken -/
def bdA (A : Nat → Nat → Nat) (W b : Nat) : Nat → Nat → Nat := fun k j => if k = 17 ∧ j / W = b then 1 else A k j
theorem bdA_k {A : Nat → Nat → Nat} {W b k : Nat} (h : k ≠ 17) : bdA A W b k = A k := by
  funext j
  unfold bdA
  rw [if_neg (fun z => h z.1)]
theorem bdA_17 {A : Nat → Nat → Nat} {W b x : Nat} : bdA A W b 17 x = if x / W = b then 1 else A 17 x := by
  unfold bdA
  by_cases c : x / W = b
  · rw [if_pos ⟨rfl, c⟩, if_pos c]
  · rw [if_neg (fun z => c z.2), if_neg c]
theorem uC_bd {A : Nat → Nat → Nat} {W b Ls : Nat} (hW : 0 < W) (hb : b * W + W ≤ Ls) (h0 : ∀ x, x / W = b → A 17 x = 0) : uC (bdA A W b) Ls = uC A Ls + W := by
  have key : ∀ k, k ≤ W → cnt (fun x => if b * W ≤ x ∧ x < b * W + k then true else decide (A 17 x = 1)) Ls = uC A Ls + k := by
    intro k
    induction k with
    | zero =>
      intro _
      unfold uC
      refine cnt_congr (fun i _ => ?_)
      rw [if_neg (by omega)]
    | succ k ih =>
      intro hk
      have e : (fun x => if b * W ≤ x ∧ x < b * W + (k + 1) then true else decide (A 17 x = 1)) = setb (fun x => if b * W ≤ x ∧ x < b * W + k then true else decide (A 17 x = 1)) (b * W + k) true := by
        funext x
        by_cases c : x = b * W + k
        · rw [c, setb_s]
          rw [if_pos (by omega)]
        · rw [setb_n c]
          by_cases c2 : b * W ≤ x ∧ x < b * W + k
          · rw [if_pos c2, if_pos (by omega)]
          · rw [if_neg c2, if_neg (by omega)]
      have hd : (b * W + k) / W = b := by
        rw [Nat.mul_comm, Nat.mul_add_div hW, Nat.div_eq_of_lt (by omega), Nat.add_zero]
      rw [e, cnt_set (by omega) (by
        rw [if_neg (by omega), h0 _ hd]
        rfl), ih (by omega)]
      rfl
  have := key W (Nat.le_refl _)
  rw [← this]
  unfold uC
  refine cnt_congr (fun x _ => ?_)
  rw [bdA_17]
  have d1 := Nat.div_add_mod x W
  have d2 := Nat.mod_lt x hW
  by_cases c : x / W = b
  · rw [c, Nat.mul_comm] at d1
    rw [if_pos c, if_pos (by omega)]
    rfl
  · rw [if_neg c, if_neg (fun z => c ?_)]
    have e2 : ∀ j, j < W → (b * W + j) / W = b := fun j hj => by rw [Nat.mul_comm, Nat.mul_add_div hW, Nat.div_eq_of_lt hj, Nat.add_zero]
    have := e2 (x - b * W) (by omega)
    rw [show b * W + (x - b * W) = x by omega] at this
    exact this
theorem l_roomBand {B T S C W Ls na hb d b : Nat} {D kv : Nat → Nat → Int64} {Ak : Nat → Nat → Nat} {nk : Nat → Int64} {K : Nat → Nat → Int64} {dd : Nat → Bool} {A : Nat → Nat → Nat} {nm : Nat → Int64} {L : Nat → Nat} {N : Nat} {ux um : q_St} (t : Tn B T S C W Ls na hb D kv Ak nk K dd A nm ux um) (g : Geo B T S C W Ls) (gl : gL B C W Ls L) (hna : na = 80 + (Ls + 511) / 512) (hN : 3000 ≤ N) (hd : d < 64) (hk : A 5 d = 2) (hb2 : b < B) (hbe : ∀ x, x / W = b → A 17 x = 0) :
    ∃ r, fX3_hasRoom L N (nI d) (q_i ux 4) ux = some (b2i r, ux) ∧ fX11_hasRoom N (nI d) (nI b) um = some (b2i r, um) ∧ (r = true → rom W Ls na d (bdA A W b)) := by
  have x := t.x g gl hna
  have rm := t.rm
  have hl := g.l
  have hw := g.w
  have tw := t.2.2.2.2.2.2.2.1
  have h17 := tw.1.2.2.2.2.2.2.2
  have hlow := tw.2.2.1.2.2.2
  have h8 := x.t8 hd
  have gm := t.1.1.gm
  have e4 := x.2.1.1.gx.2.2.2.1
  have hbW : b * W + W ≤ Ls := by
    have h1 : (b + 1) * W ≤ B * W := Nat.mul_le_mul_right W (by omega)
    rw [Nat.succ_mul] at h1
    have h2 : Ls = B * W := g.2.2.2.2.2
    omega
  have hfi := fnd_in (sF A d) (4 * A 8 d) 0
  have fs := m_freeSlot (N := N) rm (by omega) hd h8 x.t14
  have fb := m_freeBlock (N := N) (fb := na + 64) g hN (by omega) rm gm.2.2.2.2.2.1 gm.2.2.2.2.1 (by rw [gm.2.2.2.2.2.2.1]; congr 1; omega) h17 (some b) (fun k e => by cases e; exact hb2)
  have fb : fX11_freeBlock N (nI b) um = _ := fb
  have efr : frB (bdA A W b) W none = frB A W (some b) := by
    funext y
    unfold frB
    rw [bdA_17]
    by_cases c : y / W = b
    · rw [if_pos c, c]
      simp
    · rw [if_neg c]
      have : some b ≠ some (y / W) := fun z => c (by cases z; rfl)
      simp [this]
  have esF : sF (bdA A W b) d = sF A d := by
    funext y
    unfold sF
    rw [bdA_k (by decide)]
  unfold rom
  rw [efr, esF, bdA_k (show (8 : Nat) ≠ 17 by decide)]
  unfold fX3_hasRoom fX11_hasRoom fX11_hasRoom_b29
  rw [x_seek0 x (by omega) hd hk, qb_s, fs, qb_s]
  by_cases c : fnd (sF A d) (4 * A 8 d) 0 < 4 * A 8 d
  · rw [if_neg (fun z => (slX_no (by omega)).mp z c), if_neg (fun z => (slM_no (by omega)).mp z c)]
    exact ⟨true, rfl, rfl, fun _ => Or.inl c⟩
  · have e : fnd (sF A d) (4 * A 8 d) 0 = 4 * A 8 d := by omega
    rw [if_pos ((slX_no (by omega)).mpr c), if_pos ((slM_no (by omega)).mpr c), show (11 : Int32) = nI 11 from rfl, x_blockAt x hd hk (by decide), qb_s, qr_n hd (by decide), rm.r7 (by decide) hd]
    by_cases c12 : A 8 d < 12
    · rw [show (if 11 < A 8 d then A 13 (12 * d + 11) else 0) = 0 from if_neg (by omega), if_pos (show nI 0 = (0 : Int32) from rfl), x_freeCount g gl (by omega) x.2.1 x.2.2.1.1, qb_s, if_neg (show ¬ (12 : Int32) ≤ nI (A 8 d) from nI_ge (a := A 8 d) (b := 12) c12 (by omega)), fb, qb_s, e4]
      have rr := rm_free (W := W) (Ls := Ls) (fb := na + 64) (A := bdA A W b) (by omega) (fun y => by
        rw [bdA_17]
        split
        · decide
        · exact h17 y) (fun y hy => by
        rw [bdA_17]
        split
        · rfl
        · exact hlow y hy)
      rw [efr, uC_bd (by omega) hbW hbe] at rr
      by_cases c0 : 0 < Ls - (uC A Ls + W)
      · have hy := rr.mp c0
        rw [if_neg (nI_ge (by omega) (by omega)), if_pos hy, if_neg (m1_ne _ (by omega))]
        exact ⟨true, rfl, rfl, fun _ => Or.inr ⟨e, c12, hy⟩⟩
      · have hy : ¬ fnd (frB A W (some b)) (Ls - (na + 64)) (na + 64) < Ls := fun z => c0 (rr.mpr z)
        rw [if_pos (nI_le (by omega) (by omega)), if_neg hy, if_pos rfl]
        exact ⟨false, rfl, rfl, fun z => by cases z⟩
    · have hb1 := (dirB x hd hk (show 11 < A 8 d by omega)).1
      rw [show (if 11 < A 8 d then A 13 (12 * d + 11) else 0) = A 13 (12 * d + 11) from if_pos (by omega), if_neg (nI_ne0 (by omega) (by omega)), if_pos (show (12 : Int32) ≤ nI (A 8 d) from nI_le (a := 12) (by omega) (by omega))]
      exact ⟨false, rfl, rfl, fun z => by cases z⟩
