/-! ===== an ENTRY in both ===== -/
theorem mod_ne {C t q h : Nat} (h1 : t ≤ q) (h2 : q < h) (h3 : h < t + C) : ¬ q % C = h % C := by
  intro e
  have := Nat.sub_mod_eq_zero_of_mod_eq (m := h) (n := q) (k := C) e.symm
  rw [Nat.mod_eq_of_lt (by omega)] at this
  omega
theorem hom_lt {B T S C W Ls : Nat} {cl : Cl} (g : Geo B T S C W Ls) {x : Nat} (hx : x < Ls) : hom W Ls cl x < Ls + W := by
  have hw := g.w
  have hm := Nat.mod_lt x (show 0 < W by omega)
  unfold hom
  split
  · split <;> omega
  · omega
theorem lvx_q {B T S C W Ls h t : Nat} {cl : Cl} {sm : Option Nat} {p : Nat} {ux um : q_St} (v : vU B T S C W Ls h t cl sm p ux um) {x : Nat} (hx : x < Ls) (hlv : lvx W t um x = true) : ∃ q, q_a um 3 x = nI q ∧ lat um x = q ∧ t ≤ q ∧ q < h := by
  obtain ⟨⟨gx, gm⟩, vw, -⟩ := v
  have hh := vw.2.2.2.2.1
  have h0 := vw.2.2.1
  unfold lvx at hlv
  simp at hlv
  rcases vw.2.2.2.2.2.2.1 x hx with q | ⟨q, hq, eq⟩
  · exfalso
    have h1 := hlv.1
    rw [q] at h1
    exact (i_nlt.mpr h1) (m1_lt t (by omega))
  · refine ⟨q, eq, by unfold lat; rw [eq, cl_n (by omega)], ?_, hq⟩
    have h1 := hlv.1
    rw [eq] at h1
    exact (nI_leI (a := t) (b := q) (by omega) (by omega)).mp h1
/-- the states behind an ENTRY -/
def exs (C W Ls h : Nat) (ux : q_St) (c : Int32) (src : Nat → Int64) (at_ x : Nat) : q_St := q_si (q_sa (q_sa (q_si (q_sj (q_si ux 8 c) 0 (va_cpy src (q_j ux 0) at_ ((Ls + W + h % C) * 8) 8)) 9 (q_i ux 9 + 1)) 2 (upd (q_a ux 2) (h % C) (nI x))) 3 (upd (q_a ux 3) x (nI h))) 14 (nI (h + 1))
def ems (C h : Nat) (um : q_St) (c : Int32) (x : Nat) : q_St := q_si (q_sa (q_sa (q_si (q_si um 10 c) 11 (q_i um 11 + 1)) 2 (upd (q_a um 2) (h % C) (nI x))) 3 (upd (q_a um 3) x (nI h))) 17 (nI (h + 1))
theorem ent_vU {B T S C W Ls h t : Nat} {cl : Cl} {sm : Option Nat} {p : Nat} {ux um : q_St} {c : Int32} {src : Nat → Int64} {at_ x : Nat} (g : Geo B T S C W Ls) (v : vU B T S C W Ls h t cl sm p ux um) (hf : h < t + C) (h28 : h + 1 < 2 ^ 28) (hx : x < Ls) :
    vU B T S C W Ls (h + 1) t cl sm p (exs C W Ls h ux c src at_ x) (ems C h um c x) ∧
    ∀ y w, y < Ls → w < 8 → dsk C W Ls t cl (exs C W Ls h ux c src at_ x) (ems C h um c x) y w = if y = x then src (at_ + w) else dsk C W Ls t cl ux um y w := by
  have hw := g.w
  have hl := g.l
  obtain ⟨a1, a2, a3, a4, a5, a6⟩ := id g
  obtain ⟨⟨gx, gm⟩, vw, vr, cr, lr, kr, vc, e1, e2, e3, e4⟩ := id v
  have ht := vw.2.2.1
  have hm := Nat.mod_lt h (show 0 < C by omega)
  obtain ⟨um2, hum⟩ : ∃ q, q = ems C h um c x := ⟨_, rfl⟩
  obtain ⟨ux2, hux⟩ : ∃ q, q = exs C W Ls h ux c src at_ x := ⟨_, rfl⟩
  have m3 : q_a um2 3 = upd (q_a um 3) x (nI h) := by rw [hum]; rfl
  have m2 : q_a um2 2 = upd (q_a um 2) (h % C) (nI x) := by rw [hum]; rfl
  have m4 : q_a um2 4 = q_a um 4 := by rw [hum]; rfl
  have x0 : q_a ux2 0 = q_a ux 0 := by rw [hux]; rfl
  have j0 : q_j ux2 0 = va_cpy src (q_j ux 0) at_ ((Ls + W + h % C) * 8) 8 := by rw [hux]; rfl
  rw [← hum, ← hux]
  have lvo : ∀ y, y ≠ x → lvx W t um2 y = lvx W t um y := by
    intro y hy
    unfold lvx
    rw [m3, m4, up_n hy]
  have lvs : lvx W t um2 x = true := by
    obtain ⟨k, k1, k2⟩ := vw.2.2.2.2.2.2.2 (x / W) (g.band hx)
    unfold lvx
    rw [m3, m4, up_s, k2]
    simp [nI_le ht (by omega), nI_le k1 (by omega)]
  have lato : ∀ y, y ≠ x → lat um2 y = lat um y := by
    intro y hy
    unfold lat
    rw [m3, up_n hy]
  have lats : lat um2 x = h := by
    unfold lat
    rw [m3, up_s, cl_n (by omega)]
  have hole : ∀ q, t ≤ q → q < h → hol C um2 q = hol C um q := by
    intro q q1 q2
    unfold hol
    rw [m2, up_n (mod_ne q1 q2 hf)]
  have hols : hol C um2 h = x := by
    unfold hol
    rw [m2, up_s, cl_n (by omega)]
  have sco : ∀ s w, w < 8 → s ≠ Ls + W + h % C → sec ux2 s w = sec ux s w := by
    intro s w hw8 hs
    unfold sec
    rw [j0]
    unfold va_cpy
    rw [if_neg (by omega)]
  have scs : ∀ w, w < 8 → sec ux2 (Ls + W + h % C) w = src (at_ + w) := by
    intro w hw8
    unfold sec
    rw [j0]
    unfold va_cpy
    rw [if_pos (by omega)]
    congr 1
    omega
  have spo : ∀ y, y ≠ x → spt C W Ls t cl um2 y = spt C W Ls t cl um y := by
    intro y hy
    unfold spt
    rw [lvo y hy, lato y hy]
  have spn : ∀ y, y < Ls → spt C W Ls t cl um y ≠ Ls + W + h % C := by
    intro y hy
    unfold spt
    cases hlv : lvx W t um y with
    | true =>
      rw [if_pos rfl]
      obtain ⟨q, q1, q2, q3, q4⟩ := lvx_q v hy hlv
      have := mod_ne q3 q4 hf
      rw [q2]
      omega
    | false =>
      rw [if_neg (by decide)]
      have := hom_lt (cl := cl) g hy
      omega
  have dko : ∀ y w, y < Ls → w < 8 → y ≠ x → dsk C W Ls t cl ux2 um2 y w = dsk C W Ls t cl ux um y w := by
    intro y w hy hw8 hyx
    unfold dsk
    rw [spo y hyx, sco _ _ hw8 (spn y hy)]
  refine ⟨⟨⟨by rw [hux]; exact gx, by rw [hum]; exact gm⟩, ?_, ?_, ?_, ?_, ?_, ⟨?_, ?_⟩, ?_, ?_, e3, e4⟩, ?_⟩
  · refine ⟨by rw [hum]; rfl, by rw [hum]; exact vw.2.1, by omega, by omega, h28, ?_, ?_, ?_⟩
    · intro p2 hp
      rw [m2]
      by_cases c2 : p2 = h % C
      · rw [c2, up_s]; exact ⟨x, hx, rfl⟩
      · rw [up_n c2]; exact vw.2.2.2.2.2.1 p2 hp
    · intro y hy
      rw [m3]
      by_cases c2 : y = x
      · rw [c2, up_s]; exact Or.inr ⟨h, by omega, rfl⟩
      · rw [up_n c2]
        rcases vw.2.2.2.2.2.2.1 y hy with q | ⟨q, hq, eq⟩
        · exact Or.inl q
        · exact Or.inr ⟨q, by omega, eq⟩
    · intro b hb
      rw [m4]
      obtain ⟨k, k1, k2⟩ := vw.2.2.2.2.2.2.2 b hb
      exact ⟨k, by omega, k2⟩
  · refine ⟨by rw [hux, hum]; rfl, by rw [hux, hum]; exact vr.2.1, ?_, ?_, by rw [hux, hum]; exact vr.2.2.2.2⟩
    · intro p2 hp
      rw [m2]
      have : q_a ux2 2 = upd (q_a ux 2) (h % C) (nI x) := by rw [hux]; rfl
      rw [this]
      by_cases c2 : p2 = h % C
      · rw [c2, up_s, up_s]
      · rw [up_n c2, up_n c2]; exact vr.2.2.1 p2 hp
    · intro y hy
      rw [m3]
      have : q_a ux2 3 = upd (q_a ux 3) x (nI h) := by rw [hux]; rfl
      rw [this]
      by_cases c2 : y = x
      · rw [c2, up_s, up_s]
      · rw [up_n c2, up_n c2]; exact vr.2.2.2.1 y hy
  · rw [hux, hum]
    refine ⟨cr.1, rfl, ?_, cr.2.2.2.1, cr.2.2.2.2.1, cr.2.2.2.2.2.1, cr.2.2.2.2.2.2.1, cr.2.2.2.2.2.2.2.1, cr.2.2.2.2.2.2.2.2⟩
    show q_i ux 9 + 1 = q_i um 11 + 1
    rw [cr.2.2.1]
  · rw [hux, hum]; exact lr
  · rw [hux, hum]
    refine kR_keep kr (fun k h1 h2 => ?_) (fun k h1 h2 => ?_)
    · unfold exs
      rw [qi_ne (by omega), qi_sa, qi_sa, qi_ne (by omega), qi_sj, qi_ne (by omega)]
    · unfold ems
      rw [qi_ne (by omega), qi_sa, qi_sa, qi_ne (by omega), qi_ne (by omega)]
  · intro y hy h1 h2
    have hyx : y ≠ x := by
      intro e
      rw [e, lvs] at h1
      cases h1
    have := vc.1 y hy ((lvo y hyx).symm.trans h1) h2
    unfold nl at this ⊢
    rw [x0]
    exact this
  · intro b lim sf tr he
    obtain ⟨q1, q2, q3, q4⟩ := vc.2 b lim sf tr he
    have hb := e3 b lim sf tr he
    refine ⟨⟨by have := q1.1; omega, q1.2⟩, ?_, ?_, ?_⟩
    · intro y hy hyb hlm
      by_cases c2 : y = x
      · rw [c2]; exact lvs
      · rw [lvo y c2]
        rw [m3, up_n c2] at hlm
        exact q2 y hy hyb hlm
    · intro i hi hsi
      obtain ⟨r1, r2⟩ := q3 i hi hsi
      refine ⟨by unfold nl at r1 ⊢; rw [x0]; exact r1, fun hlm w hw8 => ?_⟩
      have hy : b * W + i < Ls := by rw [a6]; exact (in_band hb hi).1
      by_cases c2 : b * W + i = x
      · exfalso
        rw [m3, c2, up_s] at hlm
        exact hlm (nI_le q1.1 (by omega))
      · rw [m3, up_n c2] at hlm
        rw [sco _ _ hw8 (by omega), dko _ _ hy hw8 c2]
        exact r2 hlm w hw8
    · intro hsf i hi hip
      obtain ⟨r1, r2⟩ := q4 hsf i hi hip
      have hy : b * W + i < Ls := by rw [a6]; exact (in_band hb hi).1
      refine ⟨by unfold nl at r1 ⊢; rw [x0]; exact r1, fun w hw8 => ?_⟩
      rw [sco _ _ hw8 (by omega), sco _ _ hw8 (by omega)]
      exact r2 w hw8
  · intro q h1 h2
    rw [m3]
    by_cases c2 : q = h
    · rw [c2, hols, up_s]; exact Or.inl rfl
    · rw [hole q h1 (by omega)]
      by_cases c3 : hol C um q = x
      · rw [c3, up_s]; exact Or.inr ⟨h, by omega, by omega, rfl⟩
      · rw [up_n c3]
        rcases e1 q h1 (by omega) with z | ⟨q2, z1, z2, z3⟩
        · exact Or.inl z
        · exact Or.inr ⟨q2, z1, by omega, z3⟩
  · intro y hy q h1 h2 h3
    rw [m3] at h3
    by_cases c2 : y = x
    · rw [c2, up_s] at h3
      have := nI_inj (by omega) (by omega) h3
      rw [← this, hols, c2]
    · rw [up_n c2] at h3
      have hq : q < h := by
        rcases vw.2.2.2.2.2.2.1 y hy with z | ⟨q2, z1, z2⟩
        · exact absurd (z.symm.trans h3).symm (m1_ne q (by omega))
        · have := nI_inj (by omega) (by omega) (z2.symm.trans h3)
          omega
      rw [hole q h1 hq]
      exact e2 y hy q h1 hq h3
  · intro y w hy hw8
    by_cases c2 : y = x
    · rw [if_pos c2, c2]
      unfold dsk spt
      rw [lvs, if_pos rfl, lats]
      exact scs w hw8
    · rw [if_neg c2]
      exact dko y w hy hw8 c2
/-- what the class does behind the loop, whatever row the words come from -/
def wtl (E : Int32 → Int32 → q_St → Option (Int32 × q_St)) (L : Nat → Nat) : Int32 → Int32 → q_St → Option (Int32 × q_St) := fun x1 x3 u => (q_dv (q_i u 6) (q_nm ((q_i u 14) - (q_i u 14) / (q_i u 6) * (q_i u 6)) (fun v4 => (if x1 < 0 then (some (0, u)) else (if (nI (L 4)) ≤ x1 then (some (0, u)) else (if (nI (L 3)) ≤ v4 then (some (0, u)) else (q_bnd (E v4 x3 u) (fun r5 u6 => (if r5 = 0 then (some (0, u6)) else (q_wa (L 3) v4 (q_sa u6 2 (upd (q_a u6 2) (Int32.toNatClampNeg v4) x1)) (fun u8 => (q_wa (L 4) x1 (q_sa u8 3 (upd (q_a u8 3) (Int32.toNatClampNeg x1) (q_i u8 14))) (fun u9 => (q_nm (q_si u9 14 ((q_i u9 14) + 1)) (fun u10 => (some (1, u10)))))))))))))))))
theorem wtl_19 (L : Nat → Nat) (N : Nat) : fX8_write_19_b62 L N = wtl (fX2_writeEntry_19 L N) L := rfl
theorem wtl_22 (L : Nat → Nat) (N : Nat) : fX8_write_22_b62 L N = wtl (fX2_writeEntry_22 L N) L := rfl
theorem l_ent {B T S C W Ls h t : Nat} {cl : Cl} {sm : Option Nat} {p : Nat} {L : Nat → Nat} {N : Nat} {ux um : q_St} {src : Nat → Int64} {at_ x : Nat} {E : Int32 → Int32 → q_St → Option (Int32 × q_St)} (g : Geo B T S C W Ls) (gl : gL B C W Ls L) (v : vU B T S C W Ls h t cl sm p ux um) (hf : h < t + C) (h28 : h + 1 < 2 ^ 28) (hx : x < Ls)
    (hE : (fX2_spend L N ux = some (0, q_si (q_si ux 8 (-1)) 7 0) → E (nI (h % C)) (nI at_) ux = some (0, q_si (q_si ux 8 (-1)) 7 0)) ∧ (∀ c, fX2_spend L N ux = some (1, q_si ux 8 c) → E (nI (h % C)) (nI at_) ux = some (1, q_si (q_sj (q_si ux 8 c) 0 (va_cpy src (q_j ux 0) at_ ((Ls + W + h % C) * 8) 8)) 9 (q_i ux 9 + 1)))) :
    (∃ vx vm, wtl E L (nI x) (nI at_) ux = some (0, vx) ∧ mtl N (nI x) um = some (0, vm) ∧ vU B T S C W Ls h t cl sm p vx vm ∧ q_i vx 7 = 0 ∧ ∀ y w, y < Ls → w < 8 → dsk C W Ls t cl vx vm y w = dsk C W Ls t cl ux um y w) ∨
    (∃ vx vm, wtl E L (nI x) (nI at_) ux = some (1, vx) ∧ mtl N (nI x) um = some (1, vm) ∧ vU B T S C W Ls (h + 1) t cl sm p vx vm ∧ q_i vx 7 = q_i ux 7 ∧ ∀ y w, y < Ls → w < 8 → dsk C W Ls t cl vx vm y w = if y = x then src (at_ + w) else dsk C W Ls t cl ux um y w) := by
  have hw := g.w
  have hl := g.l
  obtain ⟨a1, a2, a3, a4, a5, a6⟩ := id g
  obtain ⟨⟨gx, gm⟩, vw, vr, cr, -⟩ := id v
  have hm := Nat.mod_lt h (show 0 < C by omega)
  have eh : q_i ux 14 = nI h := vr.1.trans vw.1
  unfold wtl mtl
  rw [gx.2.2.2.2.2.1, eh, rem_n (by omega) (by omega) (by omega), qd_n (by omega) (by omega), qn_s, if_neg (nI_pos (by omega)), gl.2.2.2.2.1, if_neg (nI_ge hx (by omega)), gl.2.2.2.1, if_neg (nI_ge hm (by omega))]
  rcases l_spend (L := L) (N := N) cr.2.1 with ⟨s1, s2⟩ | ⟨c, s1, s2⟩
  · left
    rw [hE.1 s1, s2, qb_s, qb_s, if_pos rfl, if_pos rfl]
    exact ⟨_, _, rfl, rfl, off_rec v, rfl, fun _ _ _ _ => rfl⟩
  · right
    rw [hE.2 c s1, s2, qb_s, qb_s, if_neg (by decide), if_neg (by decide), qw_n hm (by omega), qw_n hx (by omega), cl_n (by omega), cl_n (by omega), qn_s, qn_s]
    obtain ⟨n1, n2⟩ := ent_vU (c := c) (src := src) (at_ := at_) g v hf h28 hx
    have z3 : q_i (q_si (q_si um 10 c) 11 (q_i (q_si um 10 c) 11 + 1)) 3 = nI C := gm.2.2.2.1
    have z17 : q_i (q_si (q_si um 10 c) 11 (q_i (q_si um 10 c) 11 + 1)) 17 = nI h := vw.1
    rw [z3, z17, rem_n (by omega) (by omega) (by omega), qd_n (by omega) (by omega), qw_n (by omega) (by omega), qw_n (by omega) (by omega), qn_s, cl_n (by omega)]
    refine ⟨exs C W Ls h ux c src at_ x, ems C h um c x, ?_, ?_, n1, rfl, n2⟩
    · have y14 : q_i ux 14 + 1 = nI (h + 1) := by rw [eh, nI_1]
      unfold exs
      rw [← y14, ← eh]
      rfl
    · have y17 : q_i um 17 + 1 = nI (h + 1) := by rw [vw.1, nI_1]
      unfold ems
      rw [← y17, ← vw.1]
      rfl
