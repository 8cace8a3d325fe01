/-! ===== the volumes by what SECTORS hold; a SECTOR is WRITTEN, in both ===== -/
def VV (B T S C W Ls hb : Nat) (sm : Option Nat) (D : Nat → Nat → Int64) (ux um : q_St) : Prop := ∃ h t cl, h ≤ hb ∧ vU B T S C W Ls h t cl sm (prg cl) ux um ∧ (∀ b, sm = some b → q_a um 4 b = nI h) ∧ ∀ x w, x < Ls → w < 8 → dsk C W Ls t cl ux um x w = D x w
def updD (D : Nat → Nat → Int64) (x : Nat) (f : Nat → Int64) : Nat → Nat → Int64 := fun y w => if y = x then f w else D y w
def wrt (E : Int32 → Int32 → q_St → Option (Int32 × q_St)) (L : Nat → Nat) (N : Nat) : Int32 → Int32 → q_St → Option (Int32 × q_St) := fun o1 o3 u => (q_bnd (fX8_freePlaces L N u) (fun r1 u2 => (if (q_i u2 6) ≤ (4 * r1) then (q_lp (wlp (wtl E L) L N) (fun _ _ _ _ => none) N o1 o3 0 u2) else (q_bnd (fX8_step L N u2) (fun r18 u19 => (if r18 = (-99) then (some (0, u19)) else (q_lp (wlp (wtl E L) L N) (fun _ _ _ _ => none) N o1 o3 0 u19)))))))
theorem wrt_19 (L : Nat → Nat) (N : Nat) : fX8_write_19 L N = wrt (fX2_writeEntry_19 L N) L N := rfl
theorem wrt_22 (L : Nat → Nat) (N : Nat) : fX8_write_22 L N = wrt (fX2_writeEntry_22 L N) L N := rfl
theorem l_wrt {B T S C W Ls hb : Nat} {D : Nat → Nat → Int64} {L : Nat → Nat} {N : Nat} {ux um : q_St} {src : Nat → Int64} {at_ x k : Nat} {E : Int32 → Int32 → q_St → Option (Int32 × q_St)} (g : Geo B T S C W Ls) (gl : gL B C W Ls L) (hN : 800 ≤ N) (v : VV B T S C W Ls hb none D ux um) (h28 : hb + 1 < 2 ^ 28) (hx : x < Ls) (hk : k ∉ wj_X8_step) (hs : q_j ux k = src)
    (hE : ∀ (u : q_St) (pl : Nat), pl < C → gX B T S C W Ls u → q_j u k = src → (fX2_spend L N u = some (0, q_si (q_si u 8 (-1)) 7 0) → E (nI pl) (nI at_) u = some (0, q_si (q_si u 8 (-1)) 7 0)) ∧ (∀ c, fX2_spend L N u = some (1, q_si u 8 c) → E (nI pl) (nI at_) u = some (1, q_si (q_sj (q_si u 8 c) 0 (va_cpy src (q_j u 0) at_ ((Ls + W + pl) * 8) 8)) 9 (q_i u 9 + 1)))) :
    ∃ r vx vm, wrt E L N (nI x) (nI at_) ux = some (r, vx) ∧ fX11_write N (nI x) um = some (r, vm) ∧ ((r = 0 ∧ q_i vx 7 = 0 ∧ VV B T S C W Ls hb none D vx vm) ∨ (r = 1 ∧ q_i vx 7 = q_i ux 7 ∧ VV B T S C W Ls (hb + 1) none (updD D x (fun w => src (at_ + w))) vx vm)) := by
  obtain ⟨a1, a2, a3, a4, a5, a6⟩ := id g
  obtain ⟨h, t, cl, hhb, hv, -, hd⟩ := v
  have rest : ∀ (t : Nat) (cl : Cl) (vx vm : q_St), vU B T S C W Ls h t cl none (prg cl) vx vm → (∀ y w, y < Ls → w < 8 → dsk C W Ls t cl vx vm y w = D y w) → q_j vx k = src →
      ∃ r wx wm, q_lp (wlp (wtl E L) L N) (fun _ _ _ _ => none) N (nI x) (nI at_) 0 vx = some (r, wx) ∧ q_lp (fX11_write_b24 N) (fun _ _ => none) N (nI x) vm = some (r, wm) ∧ ((r = 0 ∧ q_i wx 7 = 0 ∧ VV B T S C W Ls hb none D wx wm) ∨ (r = 1 ∧ q_i wx 7 = q_i vx 7 ∧ VV B T S C W Ls (hb + 1) none (updD D x (fun w => src (at_ + w))) wx wm)) := by
    intro t cl vx vm v hd hs
    obtain ⟨cl2, t2, wx, wm, w1, w2, w3, w4⟩ := l_wloop (N := N) g gl (by omega) (wtl E L) (nI x) (nI at_) 700 cl t vx vm 0 N N (fun _ => mea_le g) (by omega) (by omega) (by omega) v
    have hd2 : ∀ y w, y < Ls → w < 8 → dsk C W Ls t2 cl2 wx wm y w = D y w := fun y w hy hw => (w2 y w hy hw).trans (hd y w hy hw)
    rcases w4 with ⟨q1, q2, q3⟩ | ⟨q0, q1, q2, q3⟩
    · exact ⟨0, wx, wm, q1, q2, Or.inl ⟨rfl, q3, h, t2, cl2, hhb, w1, (fun b e => by cases e), hd2⟩⟩
    · rw [show (0 : Int32) = nI 0 from rfl, q1, q2]
      have hs2 : q_j wx k = src := (w3.2.2 k hk).trans hs
      have hm := Nat.mod_lt h (show 0 < C by omega)
      rcases l_ent (N := N) g gl w1 q0 (by omega) hx (hE wx (h % C) hm w1.1.1 hs2) with ⟨zx, zm, z1, z2, z3, z4, z5⟩ | ⟨zx, zm, z1, z2, z3, z4, z5⟩
      · exact ⟨0, zx, zm, z1, z2, Or.inl ⟨rfl, z4, h, t2, cl2, hhb, z3, (fun b e => by cases e), fun y w hy hw => (z5 y w hy hw).trans (hd2 y w hy hw)⟩⟩
      · refine ⟨1, zx, zm, z1, z2, Or.inr ⟨rfl, z4.trans q3, h + 1, t2, cl2, by omega, z3, (fun b e => by cases e), fun y w hy hw => ?_⟩⟩
        rw [z5 y w hy hw]
        unfold updD
        split
        · rfl
        · exact hd2 y w hy hw
  obtain ⟨f1, f2⟩ := l_free (L := L) (N := N) hv
  obtain ⟨⟨gx, gm⟩, -⟩ := id hv
  unfold wrt fX11_write
  rw [f1, f2, qb_s, qb_s, gx.2.2.2.2.2.1, gm.2.2.2.1, show (4 : Int32) * nI (C - (h - t)) = nI (4 * (C - (h - t))) from pk_mul 4 _]
  by_cases c : C ≤ 4 * (C - (h - t))
  · rw [if_pos (nI_le c (by omega)), if_pos (nI_le c (by omega))]
    exact rest t cl ux um hv hd hs
  · rw [if_neg (nI_ge (by omega) (by omega)), if_neg (nI_ge (by omega) (by omega))]
    obtain ⟨cl2, t2, vx, vm, r, s1, s2, s3, s4, s5⟩ := l_step (N := N) g gl (by omega) hv (fun _ => rfl)
    rw [s1, s2, qb_s, qb_s]
    have hd2 : ∀ y w, y < Ls → w < 8 → dsk C W Ls t2 cl2 vx vm y w = D y w := fun y w hy hw => (s4 y w hy hw).trans (hd y w hy hw)
    rcases s5 with ⟨s6, s7⟩ | ⟨s6, s7, s8⟩
    · rw [s6, if_pos rfl, if_pos rfl]
      exact ⟨0, vx, vm, rfl, rfl, Or.inl ⟨rfl, s7, h, t2, cl2, hhb, s3, (fun b e => by cases e), hd2⟩⟩
    · have hr : ¬ r = -99 := by rw [s6]; exact knd_ne
      rw [if_neg hr, if_neg hr]
      obtain ⟨r2, wx, wm, w1, w2, w3⟩ := rest t2 cl2 vx vm s3 hd2 (((fr_X8_step s1).2.2 k hk).trans hs)
      refine ⟨r2, wx, wm, w1, w2, ?_⟩
      rcases w3 with z | ⟨z1, z2, z3⟩
      · exact Or.inl z
      · exact Or.inr ⟨z1, z2.trans s7, z3⟩
theorem l_write19 {B T S C W Ls hb : Nat} {D : Nat → Nat → Int64} {L : Nat → Nat} {N : Nat} {ux um : q_St} {at_ x : Nat} (g : Geo B T S C W Ls) (gl : gL B C W Ls L) (hN : 800 ≤ N) (v : VV B T S C W Ls hb none D ux um) (h28 : hb + 1 < 2 ^ 28) (hx : x < Ls) (ha : at_ + 8 ≤ Ls * 8) :
    ∃ r vx vm, fX8_write_19 L N (nI x) (nI at_) ux = some (r, vx) ∧ fX11_write N (nI x) um = some (r, vm) ∧ ((r = 0 ∧ q_i vx 7 = 0 ∧ VV B T S C W Ls hb none D vx vm) ∨ (r = 1 ∧ q_i vx 7 = q_i ux 7 ∧ VV B T S C W Ls (hb + 1) none (updD D x (fun w => q_j ux 2 (at_ + w))) vx vm)) := by
  rw [wrt_19]
  exact l_wrt (k := 2) g gl hN v h28 hx (by decide) rfl (fun u pl hp gx hs => by have := x_entry19 (N := N) g gl gx hp ha; rw [hs] at this; exact this)
theorem l_write22 {B T S C W Ls hb : Nat} {D : Nat → Nat → Int64} {L : Nat → Nat} {N : Nat} {ux um : q_St} {x : Nat} (g : Geo B T S C W Ls) (gl : gL B C W Ls L) (hN : 800 ≤ N) (v : VV B T S C W Ls hb none D ux um) (h28 : hb + 1 < 2 ^ 28) (hx : x < Ls) :
    ∃ r vx vm, fX8_write_22 L N (nI x) 0 ux = some (r, vx) ∧ fX11_write N (nI x) um = some (r, vm) ∧ ((r = 0 ∧ q_i vx 7 = 0 ∧ VV B T S C W Ls hb none D vx vm) ∨ (r = 1 ∧ q_i vx 7 = q_i ux 7 ∧ VV B T S C W Ls (hb + 1) none (updD D x (fun w => q_j ux 3 w)) vx vm)) := by
  rw [wrt_22]
  have := l_wrt (k := 3) (at_ := 0) (src := q_j ux 3) g gl hN v h28 hx (by decide) rfl (fun u pl hp gx hs => by have := x_entry22 (N := N) g gl gx hp (at_ := 0) (by omega); rw [hs] at this; exact this)
  simp only [Nat.zero_add] at this
  exact this
/-- to read a SECTOR -/
theorem v_spot {B T S C W Ls hb : Nat} {D : Nat → Nat → Int64} {L : Nat → Nat} {N : Nat} {ux um : q_St} {x : Nat} (g : Geo B T S C W Ls) (gl : gL B C W Ls L) (v : VV B T S C W Ls hb none D ux um) (hx : x < Ls) : ∃ s, fX8_spot L N (nI x) ux = some (nI (s * 8), ux) ∧ s < Ls + W + C ∧ ∀ w, w < 8 → q_j ux 0 (s * 8 + w) = D x w := by
  obtain ⟨h, t, cl, hhb, hv, -, hd⟩ := v
  have vc := hv.2.2.2.2.2.2.1
  refine ⟨_, x_spot g gl hv hx (fun e => vc.1 x hx e (fun z => by cases z)), spt_lt (h := h) g hx, fun w hw => hd x w hx hw⟩
