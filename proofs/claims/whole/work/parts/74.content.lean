/-! ===== the cleaner's state, what SECTORS hold, the relation of the volumes ===== -/
abbrev Cl : Type := Option (Nat × Nat × Bool × Nat)
/-- the cleaner (band, limit, safe, track) and the streamed band, in both -/
def kR (T : Nat) (cl : Cl) (sm : Option Nat) (ux um : q_St) : Prop :=
  (match cl with
  | none => q_i ux 16 = -1 ∧ q_i um 19 = -1 ∧ q_i ux 18 = 0 ∧ q_i um 23 = 0
  | some (b, lim, sf, tr) => q_i ux 16 = nI b ∧ q_i um 19 = nI b ∧ q_i ux 17 = nI lim ∧ q_i um 20 = nI lim ∧ q_i ux 18 = b2i sf ∧ q_i um 23 = b2i sf ∧ q_i ux 19 = nI tr ∧ tr ≤ T ∧ (if tr < T then q_i um 21 = (if sf = true then 5 else 3) ∧ q_i um 22 = nI tr else q_i um 21 = (if sf = true then 6 else 4) ∧ q_i um 22 = 0)) ∧
  (match sm with
  | none => q_i ux 20 = -1 ∧ q_i um 24 = -1
  | some b => q_i ux 20 = nI b ∧ q_i um 24 = nI b)
/-- the counters, the power, the CUT, in both -/
def cR (ux um : q_St) : Prop := q_i ux 7 = q_i um 9 ∧ q_i ux 8 = q_i um 10 ∧ q_i ux 9 = q_i um 11 ∧ q_i ux 10 = q_i um 12 ∧ q_i ux 11 = q_i um 13 ∧ q_i ux 12 = q_i um 14 ∧ q_i ux 21 = q_i um 15 ∧ q_i ux 23 = q_i um 16 ∧ q_i ux 13 = 0
/-- what is lost, in both -/
def lR (W Ls : Nat) (ux um : q_St) : Prop := (∀ x, x < Ls → q_a ux 0 x = q_a um 0 x) ∧ (∀ i, i < W → q_a ux 0 (Ls + i) = q_a um 1 i)
/-- the last entry of a sector, by number; whether it is live -/
def lat (um : q_St) (x : Nat) : Nat := (q_a um 3 x).toNatClampNeg
def lvx (W t : Nat) (um : q_St) (x : Nat) : Bool := decide (nI t ≤ q_a um 3 x) && decide (q_a um 4 (x / W) ≤ q_a um 3 x)
/-- where a sector is read when no entry of it is live -/
def hom (W Ls : Nat) (cl : Cl) (x : Nat) : Nat := match cl with
  | some (b, _, true, _) => if b = x / W then Ls + x % W else x
  | _ => x
def spt (C W Ls t : Nat) (cl : Cl) (um : q_St) (x : Nat) : Nat := if lvx W t um x = true then Ls + W + lat um x % C else hom W Ls cl x
def sec (ux : q_St) (s w : Nat) : Int64 := q_j ux 0 (s * 8 + w)
def dsk (C W Ls t : Nat) (cl : Cl) (ux um : q_St) (x w : Nat) : Int64 := sec ux (spt C W Ls t cl um x) w
def nl (ux : q_St) (s : Nat) : Prop := q_a ux 0 s = 0
/-- how far MERGE or BACK is, in sectors -/
def prg (cl : Cl) : Nat := match cl with
  | none => 0
  | some (_, _, _, tr) => 8 * tr
/-- nothing that can be read is lost; what MERGE and BACK have brought, p sectors of it -/
def vC (C W Ls h t : Nat) (cl : Cl) (sm : Option Nat) (p : Nat) (ux um : q_St) : Prop :=
  (∀ x, x < Ls → lvx W t um x = false → sm ≠ some (x / W) → nl ux (hom W Ls cl x)) ∧
  (∀ b lim sf tr, cl = some (b, lim, sf, tr) →
    (lim ≤ h ∧ sm ≠ some b) ∧
    (∀ x, x < Ls → x / W = b → nI lim ≤ q_a um 3 x → lvx W t um x = true) ∧
    (∀ i, i < W → (sf = true ∨ i < p) → nl ux (Ls + i) ∧ (¬ nI lim ≤ q_a um 3 (b * W + i) → ∀ w, w < 8 → sec ux (Ls + i) w = dsk C W Ls t cl ux um (b * W + i) w)) ∧
    (sf = true → ∀ i, i < W → i < p → nl ux (b * W + i) ∧ ∀ w, w < 8 → sec ux (b * W + i) w = sec ux (Ls + i) w))
/-- the volumes but for how far the cleaner is: p sectors -/
def vU (B T S C W Ls h t : Nat) (cl : Cl) (sm : Option Nat) (p : Nat) (ux um : q_St) : Prop :=
  (gX B T S C W Ls ux ∧ gM B T S C W Ls um) ∧ vW B C W Ls h t um ∧ vR B C W Ls ux um ∧ cR ux um ∧ lR W Ls ux um ∧ kR T cl sm ux um ∧ vC C W Ls h t cl sm p ux um ∧
  (∀ q, t ≤ q → q < h → q_a um 3 (hol C um q) = nI q ∨ ∃ q2, q < q2 ∧ q2 < h ∧ q_a um 3 (hol C um q) = nI q2) ∧ (∀ x, x < Ls → ∀ q, t ≤ q → q < h → q_a um 3 x = nI q → hol C um q = x) ∧
  (∀ b lim sf tr, cl = some (b, lim, sf, tr) → b < B) ∧ (∀ b, sm = some b → b < B)
/-- all of the volume -/
def vV (B T S C W Ls h t : Nat) (cl : Cl) (sm : Option Nat) (ux um : q_St) : Prop := vU B T S C W Ls h t cl sm (prg cl) ux um
theorem x_spot {B T S C W Ls h t : Nat} {cl : Cl} {sm : Option Nat} {p : Nat} {L : Nat → Nat} {N : Nat} {ux um : q_St} (g : Geo B T S C W Ls) (gl : gL B C W Ls L) (v : vU B T S C W Ls h t cl sm p ux um) {x : Nat} (hx : x < Ls) (hn : lvx W t um x = false → nl ux (hom W Ls cl x)) :
    fX8_spot L N (nI x) ux = some (nI (spt C W Ls t cl um x * 8), ux) := by
  have hw := g.w
  have hl := g.l
  obtain ⟨a, b, c, d, e, f⟩ := id g
  obtain ⟨⟨gx, gm⟩, vw, vr, cr, lr, kr, vc, -⟩ := id v
  have hbd := g.band hx
  have hh := vw.2.2.2.2.1
  have hmod := Nat.mod_lt x (show 0 < W by omega)
  have home : lvx W t um x = false → fX8_spot_b81 L N (nI x) (nI (x / W)) ux = some (nI (hom W Ls cl x * 8), ux) := by
    intro hlv
    have hnl := hn hlv
    have fin : ∀ s, s < Ls + W → nl ux s → fX8_spot_b117 L N (nI s) ux = some (nI (s * 8), ux) := by
      intro s hs hz
      unfold fX8_spot_b117 fX8_spot_b158
      rw [gl.2.1, if_neg (nI_ge hs (by omega)), qr_n hs (by omega), if_pos (show q_a ux 0 s = 0 from hz), show nI s * (8 : Int32) = nI (s * 8) from pk_mul s 8]
    unfold fX8_spot_b81 fX8_spot_b116
    obtain ⟨k1, -⟩ := kr
    cases cl with
    | none =>
      obtain ⟨k2, k3, k4, k5⟩ := k1
      rw [k4, if_pos rfl]
      exact fin x (by omega) hnl
    | some q =>
      obtain ⟨b1, lim, sf, tr⟩ := q
      obtain ⟨k2, k3, k4, k5, k6, k7, -⟩ := k1
      rw [k6]
      cases sf with
      | false =>
        rw [b2i_f, if_pos rfl]
        exact fin x (by omega) hnl
      | true =>
        rw [b2i_t, if_neg (by decide), k2]
        have hb1 : b1 < 2 ^ 31 := by
          have := v.2.2.2.2.2.2.2.2.2.1 b1 lim true tr rfl
          omega
        by_cases c1 : x / W = b1
        · rw [if_pos (by rw [c1]), gx.2.2.2.1, qd_n (by omega) (by omega), rem_n (by omega) (by omega) (by omega), gx.2.2.2.2.1, nI_add]
          have : hom W Ls (some (b1, lim, true, tr)) x = Ls + x % W := by simp [hom, c1]
          rw [this] at hnl ⊢
          exact fin _ (by omega) hnl
        · rw [if_neg (fun q => c1 (nI_inj (by omega) hb1 q))]
          have : hom W Ls (some (b1, lim, true, tr)) x = x := by
            show (if b1 = x / W then Ls + x % W else x) = x
            rw [if_neg (fun q => c1 q.symm)]
          rw [this] at hnl ⊢
          exact fin _ (by omega) hnl
  unfold fX8_spot
  rw [if_neg (nI_pos (by omega)), gl.2.2.2.2.1, if_pos (nI_lt hx (by omega)), gx.2.2.2.1, qd_n (by omega) (by omega), pk_div (by omega) (by omega) (by omega), qn_s, qr_n hx (by omega), vr.2.2.2.1 x hx, vr.2.1, vw.2.1, gl.2.2.1, if_neg (nI_ge hbd (by omega)), qr_n hbd (by omega), vr.2.2.2.2 _ hbd]
  unfold spt
  by_cases c1 : q_a um 3 x < nI t
  · have hf : lvx W t um x = false := by
      unfold lvx
      have : ¬ nI t ≤ q_a um 3 x := by
        rw [Int32.le_iff_toInt_le]; rw [Int32.lt_iff_toInt_lt] at c1; omega
      simp [this]
    rw [if_pos c1, hf, if_neg (by decide)]
    exact home hf
  · have c1' : nI t ≤ q_a um 3 x := by
      rw [Int32.le_iff_toInt_le]; rw [Int32.lt_iff_toInt_lt] at c1; omega
    rw [if_neg c1]
    by_cases c2 : q_a um 3 x < q_a um 4 (x / W)
    · have hf : lvx W t um x = false := by
        unfold lvx
        have : ¬ q_a um 4 (x / W) ≤ q_a um 3 x := by
          rw [Int32.le_iff_toInt_le]; rw [Int32.lt_iff_toInt_lt] at c2; omega
        simp [this]
      rw [if_pos c2, hf, if_neg (by decide)]
      exact home hf
    · have hf : lvx W t um x = true := by
        unfold lvx
        have : q_a um 4 (x / W) ≤ q_a um 3 x := by
          rw [Int32.le_iff_toInt_le]; rw [Int32.lt_iff_toInt_lt] at c2; omega
        simp [this, c1']
      rw [if_neg c2, hf, if_pos rfl]
      rcases vw.2.2.2.2.2.2.1 x hx with q | ⟨q, hq, eq⟩
      · exfalso
        rw [q] at c1
        exact c1 (m1_lt t (by have := vw.2.2.1; omega))
      · have e9 : lat um x = q := by unfold lat; rw [eq, cl_n (by omega)]
        have hm := Nat.mod_lt q (show 0 < C by omega)
        rw [eq, gx.2.2.2.2.2.1, qd_n (by omega) (by omega), rem_n (by omega) (by omega) (by omega), gl.2.1, nI_add, e9, show nI (Ls + W + q % C) * (8 : Int32) = nI ((Ls + W + q % C) * 8) from pk_mul _ 8]
