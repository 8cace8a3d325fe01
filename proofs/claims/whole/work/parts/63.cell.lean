theorem dL_cell_0 : decode cL_cell 0 = .ok (.iload_n 1, 1) := by decide +kernel
theorem dL_cell_1 : decode cL_cell 1 = .ok (.aload_n 0, 1) := by decide +kernel
theorem dL_cell_2 : decode cL_cell 2 = .ok (.arraylength, 1) := by decide +kernel
theorem dL_cell_3 : decode cL_cell 3 = .ok (.if_icmp .ge 9, 3) := by decide +kernel
theorem dL_cell_6 : decode cL_cell 6 = .ok (.aload_n 0, 1) := by decide +kernel
theorem dL_cell_7 : decode cL_cell 7 = .ok (.iload_n 1, 1) := by decide +kernel
theorem dL_cell_8 : decode cL_cell 8 = .ok (.iaload, 1) := by decide +kernel
theorem dL_cell_9 : decode cL_cell 9 = .ok (.goto 4, 3) := by decide +kernel
theorem dL_cell_12 : decode cL_cell 12 = .ok (.iconst 0, 1) := by decide +kernel
theorem dL_cell_13 : decode cL_cell 13 = .ok (.ireturn, 1) := by decide +kernel
theorem cw_L_9 : q_cwS RL 9 RL yL_cell cL_cell 2 (some .int) 2 := ⟨⟨q_mt 1145 (by decide +kernel) rfl, q_mt 1143 (by decide +kernel) rfl, q_mt 0 (by decide +kernel) rfl, by decide +kernel⟩, q_mt 1144 (by decide +kernel) rfl⟩
theorem cl_L_7 : Cond.classLink RL 7 RX10 ∈ q_T := q_mt 17 (by decide +kernel) rfl
theorem cl_L_18 : Cond.classLink RL 18 RX11 ∈ q_T := q_mt 1146 (by decide +kernel) rfl
theorem it_X10 : Cond.instantiable RX10 11 ∈ q_T := q_mt 18 (by decide +kernel) rfl
theorem in_X10 : Cond.initialized RX10 ∈ q_T := q_mt 1 (by decide +kernel) rfl
theorem it_X11 : Cond.instantiable RX11 72 ∈ q_T := q_mt 1147 (by decide +kernel) rfl
theorem in_X11 : Cond.initialized RX11 ∈ q_T := q_mt 14 (by decide +kernel) rfl
set_option maxRecDepth 100000 in
theorem ci_L_15 : q_cw RL 15 RX10 yX10_init cX10_init 12 none 4 := ⟨q_mt 21 (by decide +kernel) rfl, q_mt 19 (by decide +kernel) rfl, q_mt 1 (by decide +kernel) rfl, by decide +kernel⟩
theorem ci_L_15i : Cond.instanceMethod yX10_init ∈ q_T := q_mt 20 (by decide +kernel) rfl
set_option maxRecDepth 100000 in
theorem ci_L_20 : q_cw RL 20 RX11 yX11_init cX11_init 6 none 4 := ⟨q_mt 1150 (by rfl) rfl, q_mt 1148 (by decide +kernel) rfl, q_mt 14 (by decide +kernel) rfl, by decide +kernel⟩
theorem ci_L_20i : Cond.instanceMethod yX11_init ∈ q_T := q_mt 1149 (by decide +kernel) rfl
/-- the law's reader of the script -/
def cv_q (L : Nat) (xs : Nat → Int32) (k : Nat) : Int32 := if k < L then xs k else 0
set_option maxHeartbeats 4000000 in
set_option maxRecDepth 100000 in
theorem kt_cell (l : Launch) {b L : Nat} {xs : Nat → Int32} (k : Nat) (hk : k < 4) (hL : L ≤ 452) : Met l yL_cell (Cond.code yL_cell cL_cell 2 (some .int) :: q_T) ({ frames := 0, cells := 0, slots := 0, locals := 0 } : Room) (va_Pc [.ref b, .int (nI k)] (fun U => va_X b L xs U U.heap)) (va_Qi (fun r (_ : Unit) => r = cv_q L xs k) (fun _ _ => True) (fun _ => False)) 0 0 (fun _ => False) := by
  refine Met.ofW (cc := cL_cell) (maxL := 2) (ret := (some .int)) (by decide) rfl ?_
  intro p e s m args below meth c s₁ B hml hv
  obtain ⟨rfl, hX⟩ := hv
  have hx := B.exec
  have hb := B.bytes
  have hr := B.returns
  have hlocks := B.notSynchronized
  have hS : va_S (fun _ => False) s.heap s.heap [] := va_S.rf
  have hbl : b < s.heap.size := by
    obtain ⟨scr, h1, -⟩ := hX
    exact (Array.getElem?_eq_some_iff.mp h1).1
  have hl := lv_entry ([.ref b, .int (nI k)]) (n := 2) (Nat.le_of_ble_eq_true rfl)
  rw [lg_entry_eq]
  generalize (lg_sl ([.ref b, .int (nI k)]) ++ List.replicate (2 - (lg_sl ([.ref b, .int (nI k)])).length) Slot.unset).toArray = ls at hl ⊢
  have hl : lv_has ls 2 [(0, .ref b), (1, .int (nI k))] := hl
  refine lv_iload_n hx hb dL_cell_0 rfl (lv_at hl 1 rfl) ?_
  refine lv_aload_n hx hb dL_cell_1 rfl (lv_at hl 0 rfl) ?_
  refine va_slen hx hb hX hbl (fun h => h) hS dL_cell_2 ?_
  refine lv_icmp_ge (tgt := 12) hx hb dL_cell_3 (by decide) (fun hc => ?_) (fun hc => ?_)
  · have h1 : ¬ k < L := fun h => by
      have := (nI_leI (a := L) (b := k) (by omega) (by omega)).mp hc
      omega
    refine lv_iconst (v := 0) hx hb dL_cell_12 (by decide) ?_
    exact W.iret (v := 0) hx hb hr (fun t ht hW => ⟨⟨0, (), rfl, by rw [cv_q, if_neg h1], trivial⟩, hS.F ht⟩) hS.2.2 dL_cell_13
  · have h1 : k < L := by
      rcases Nat.lt_or_ge k L with q | q
      · exact q
      · exact absurd ((nI_leI (a := L) (b := k) (by omega) (by omega)).mpr q) hc
    refine lv_aload_n hx hb dL_cell_6 rfl (lv_at hl 0 rfl) ?_
    refine lv_iload_n hx hb dL_cell_7 rfl (lv_at hl 1 rfl) ?_
    refine va_sld hx hb hX hbl (fun h => h) hS (vp_in_nI h1 (by omega)) dL_cell_8 ?_
    rw [nI_clamp (by omega)]
    refine lv_goto (tgt := 13) hx hb dL_cell_9 (by decide) ?_
    exact W.iret (v := xs k) hx hb hr (fun t ht hW => ⟨⟨xs k, (), rfl, by rw [cv_q, if_pos h1], trivial⟩, hS.F ht⟩) hS.2.2 dL_cell_13

/-- WHAT IS LEFT: pure words on the functions fX.. and fX11.. -/
def lq_Pure : Prop := ∀ x1 x2 x3 x4 : Int32, ∃ (B T S C N : Nat) (cells1 : Nat → Int64) (lat1 : Nat → Int32) (um1 : q_St) (Inv : Nat → q_St → q_St → Prop), B * (8 * T) ≤ 2048 ∧ T ≤ 32 ∧ C ≤ 256 ∧ B ≤ 8 ∧ q_max 4 (q_min 8 x1) = nI B ∧ q_max 8 (q_min 32 x2) = nI T ∧ q_max 1 (q_min 4 x3) = nI S ∧ q_max 64 (q_min 256 x4) = nI C ∧ fG7_fill (fun _ => B * (8 * T)) N (-1) q_z = some ((), q_sa q_z 0 lat1) ∧ fF2_format (fun k => [((B * (8 * T) + 8 * T) + C) * 8, B * (8 * T) + 8 * T].getD k 0) N (nI ((80 + (B * (8 * T) + 511) / 512) + 64)) (nI (80 + (B * (8 * T) + 511) / 512)) (fst_q B T S C) = some ((), q_sj (fst_q B T S C) 0 cells1) ∧ fX11_init N x1 x2 x3 x4 um_0 = some ((), um1) ∧ Inv 0 (ux_q B T S C cells1 lat1) um1 ∧ lq_Steps Inv (lx_q B T C) N ∧ (∀ k ux um, Inv k ux um → Inv (k + 1) ux um)

