set_option maxHeartbeats 4000000 in
set_option maxRecDepth 100000 in
theorem kt_X8_finish {N : Nat} {l : Launch} {D : va_G} {a : Nat → Nat} {cI : Nat → ClassId} {L : Nat → Nat} (hD : ∀ σ, va_D (ax_A a) (ax_W a cI L σ))  {u σ0 : q_St} {r0 : Int32} (hF : fX8_finish L N u = some (r0, σ0)) : Met l yX8_finish (Cond.code yX8_finish cX8_finish 1 (some .boolean) :: q_T) ({ frames := 2, cells := 0, slots := 0, locals := 45 } : Room) (q_P D vwCl (ax_T cI) (ax_W a cI L) [.ref (a 2)] u) (q_Qi D vwCl (ax_W a cI L) (ax_A a) r0 σ0) 0 0 (ax_A a) := by
  refine Met.ofW (cc := cX8_finish) (maxL := 1) (ret := (some .boolean)) (by decide) rfl ?_
  intro p e s m args below meth c s₁ B hml hv
  obtain ⟨rfl, hP, hK⟩ := hv
  have hx := B.exec
  have hb := B.bytes
  have hr := B.returns
  have hts := q_ts (atoms_spec (ws := Cond.code yX8_finish cX8_finish 1 (some .boolean) :: q_T) B.pre)
  have hown : s.vm.findClass RX8 = some m.cls := findClass_of_methodNamed B.named
  have hlocks := B.notSynchronized
  have hS : va_S (ax_A a) s.heap s.heap [] := va_S.rf
  have hl := lv_entry ([.ref (a 2)]) (n := 1) (Nat.le_of_ble_eq_true rfl)
  rw [lg_entry_eq]
  generalize (lg_sl ([.ref (a 2)]) ++ List.replicate (1 - (lg_sl ([.ref (a 2)])).length) Slot.unset).toArray = ls at hl ⊢
  have hl : lv_has ls 1 [(0, .ref (a 2))] := hl
  unfold fX8_finish at hF
  refine lv_aload_n hx hb dX8_finish_0 rfl (lv_at hl 0 rfl) ?_
  refine gx_vol_cleanBand hx hb hts hown hK hP fl_X8_59 dX8_finish_1 ?_
  refine sx_if_lt (tgt := 29) hx hb hF dX8_finish_4 (by decide) (fun hF => ?_) (fun hF => ?_)
  · refine lv_iconst (v := 0) hx hb dX8_finish_29 (by decide) ?_
    exact sx_retz (Wd := (ax_W a cI L)) (σ := u) hx hb hr (by decide) hF hP hS hlocks dX8_finish_30
  · refine lv_aload_n hx hb dX8_finish_7 rfl (lv_at hl 0 rfl) ?_
    refine gx_vol_cleanBand hx hb hts hown hK hP fl_X8_59 dX8_finish_8 ?_
    refine lv_aload_n hx hb dX8_finish_11 rfl (lv_at hl 0 rfl) ?_
    refine gx_vol_marks hx hb hts hown hK hP fl_X8_21 dX8_finish_12 ?_
    refine nx_vol_marks hx hb hK hP dX8_finish_15 ?_
    refine sx_icmp_ge (tgt := 29) hx hb hF dX8_finish_16 (by decide) (fun hF => ?_) (fun hF => ?_)
    · refine lv_iconst (v := 0) hx hb dX8_finish_29 (by decide) ?_
      exact sx_retz (Wd := (ax_W a cI L)) (σ := u) hx hb hr (by decide) hF hP hS hlocks dX8_finish_30
    · refine lv_aload_n hx hb dX8_finish_19 rfl (lv_at hl 0 rfl) ?_
      refine gx_vol_disk hx hb hts hown hK hP fl_X8_9 dX8_finish_20 ?_
      obtain ⟨r1, u2, hc3, hF⟩ := q_bnd_some hF
      refine sx_ci (Wd := (ax_W a cI L)) (σ1 := u2) (q_runV (Wd := (ax_W a cI L)) (σ := u) (q0 := 1) (ci := 2) (T := TX2) (N := 15) (As := []) (rest := []) hx hb hml hown hts hK hP (kt_X2_writeRecord hD hc3) cw_X8_131 rfl rfl ⟨Nat.le_of_ble_eq_true rfl, Nat.le_of_ble_eq_true rfl⟩ rfl rfl rfl hl.1 rfl (Nat.le_of_ble_eq_true rfl) dX8_finish_23) hS (fun H locs hP hS => ?_)
      refine sx_if_ne (tgt := 31) hx hb hF dX8_finish_26 (by decide) (fun hF => ?_) (fun hF => ?_)
      · refine lv_aload_n hx hb dX8_finish_31 rfl (lv_at hl 0 rfl) ?_
        refine gx_vol_marks hx hb hts hown hK hP fl_X8_21 dX8_finish_32 ?_
        refine lv_aload_n hx hb dX8_finish_35 rfl (lv_at hl 0 rfl) ?_
        refine gx_vol_cleanBand hx hb hts hown hK hP fl_X8_59 dX8_finish_36 ?_
        refine lv_aload_n hx hb dX8_finish_39 rfl (lv_at hl 0 rfl) ?_
        refine gx_vol_limit hx hb hts hown hK hP fl_X8_134 dX8_finish_40 ?_
        refine ux_vol_marks hx hb hK hP hD hS hF dX8_finish_43 (fun u4 H locs hF hP hS => ?_)
        refine lv_aload_n hx hb dX8_finish_44 rfl (lv_at hl 0 rfl) ?_
        refine lv_iconst (v := (-1)) hx hb dX8_finish_45 (by decide) ?_
        refine px_vol_cleanBand hx hb hts hown hK hP fl_X8_59 hD hS hF dX8_finish_46 (fun u5 H locs hF hP hS => ?_)
        refine lv_aload_n hx hb dX8_finish_49 rfl (lv_at hl 0 rfl) ?_
        refine lv_iconst (v := 0) hx hb dX8_finish_50 (by decide) ?_
        refine px_vol_safe_0 hx hb hts hown hK hP fl_X8_82 hD hS hF dX8_finish_51 (fun u6 H locs hF hP hS => ?_)
        refine lv_aload_n hx hb dX8_finish_54 rfl (lv_at hl 0 rfl) ?_
        refine lv_aload_n hx hb dX8_finish_55 rfl (lv_at hl 0 rfl) ?_
        obtain ⟨r7, u8, hc9, hF⟩ := q_bnd_some hF
        refine sx_ci (Wd := (ax_W a cI L)) (σ1 := u8) (q_runV (Wd := (ax_W a cI L)) (σ := u6) (q0 := 2) (ci := 8) (T := TX8) (N := 15) (As := []) (rest := [.ref (a 2)]) hx hb hml hown hts hK hP (kt_X8_oldest hD hc9) cw_X8_100 rfl rfl ⟨Nat.le_of_ble_eq_true rfl, Nat.le_of_ble_eq_true rfl⟩ rfl rfl rfl hl.1 rfl (Nat.le_of_ble_eq_true rfl) dX8_finish_56) hS (fun H locs hP hS => ?_)
        refine px_vol_tail hx hb hts hown hK hP fl_X8_68 hD hS hF dX8_finish_59 (fun u10 H locs hF hP hS => ?_)
        refine lv_aload_n hx hb dX8_finish_62 rfl (lv_at hl 0 rfl) ?_
        refine lv_dup hx hb dX8_finish_63 rfl ?_
        refine gx_vol_bandsDone hx hb hts hown hK hP fl_X8_147 dX8_finish_64 ?_
        refine lv_iconst (v := 1) hx hb dX8_finish_67 (by decide) ?_
        refine lv_iadd hx hb dX8_finish_68 ?_
        refine px_vol_bandsDone hx hb hts hown hK hP fl_X8_147 hD hS hF dX8_finish_69 (fun u11 H locs hF hP hS => ?_)
        refine lv_iconst (v := 1) hx hb dX8_finish_72 (by decide) ?_
        exact sx_retz (Wd := (ax_W a cI L)) (σ := u11) hx hb hr (by decide) hF hP hS hlocks dX8_finish_73
      · refine lv_iconst (v := 0) hx hb dX8_finish_29 (by decide) ?_
        exact sx_retz (Wd := (ax_W a cI L)) (σ := u2) hx hb hr (by decide) hF hP hS hlocks dX8_finish_30
set_option maxHeartbeats 4000000 in
set_option maxRecDepth 100000 in
theorem kt_X8_step {N : Nat} {l : Launch} {D : va_G} {a : Nat → Nat} {cI : Nat → ClassId} {L : Nat → Nat} (hD : ∀ σ, va_D (ax_A a) (ax_W a cI L σ))  {u σ0 : q_St} {r0 : Int32} (hF : fX8_step L N u = some (r0, σ0)) : Met l yX8_step (Cond.code yX8_step cX8_step 3 (some .int) :: q_T) ({ frames := 3, cells := 0, slots := 0, locals := 80 } : Room) (q_P D vwCl (ax_T cI) (ax_W a cI L) [.ref (a 2)] u) (q_Qi D vwCl (ax_W a cI L) (ax_A a) r0 σ0) 0 0 (ax_A a) := by
  refine Met.ofW (cc := cX8_step) (maxL := 3) (ret := (some .int)) (by decide) rfl ?_
  intro p e s m args below meth c s₁ B hml hv
  obtain ⟨rfl, hP, hK⟩ := hv
  have hx := B.exec
  have hb := B.bytes
  have hr := B.returns
  have hts := q_ts (atoms_spec (ws := Cond.code yX8_step cX8_step 3 (some .int) :: q_T) B.pre)
  have hown : s.vm.findClass RX8 = some m.cls := findClass_of_methodNamed B.named
  have hlocks := B.notSynchronized
  have hS : va_S (ax_A a) s.heap s.heap [] := va_S.rf
  have hl := lv_entry ([.ref (a 2)]) (n := 3) (Nat.le_of_ble_eq_true rfl)
  rw [lg_entry_eq]
  generalize (lg_sl ([.ref (a 2)]) ++ List.replicate (3 - (lg_sl ([.ref (a 2)])).length) Slot.unset).toArray = ls at hl ⊢
  have hl : lv_has ls 3 [(0, .ref (a 2))] := hl
  have hB96 : ∀ (x1 : Int32) (x2 : Int32) (u : q_St) (ls : Array Slot), lv_has ls 3 [(1, .int x1), (2, .int x2)] → fX8_step_b96 L N x1 x2 u = some (r0, σ0) → ∀ (H : Heap) (locs : List Loc), va_P D vwCl (ax_W a cI L u) H → va_S (ax_A a) s.heap H locs → W p l e (headSpec (Cond.code yX8_step cX8_step 3 (some .int) :: q_T) ({ frames := 3, cells := 0, slots := 0, locals := 80 } : Room)).room s m ([.ref (a 2)] : List Value).toArray below meth c H locs 0 0 (MQ below (q_Qi D vwCl (ax_W a cI L) (ax_A a) r0 σ0) ([.ref (a 2)] : List Value).toArray s 0 0 (ax_A a)) (F0 m 96 ls []) := by
    intro x1 x2 u ls hl hF _ _ hP hS
    unfold fX8_step_b96 at hF
    refine lv_iload_n hx hb dX8_step_96 rfl (lv_at hl 1 rfl) ?_
    refine sx_if_eq (tgt := 104) hx hb hF dX8_step_97 (by decide) (fun hF => ?_) (fun hF => ?_)
    · refine lv_bipush (v := (-99)) hx hb dX8_step_104 (by decide) ?_
      exact sx_reti (Wd := (ax_W a cI L)) (σ := u) hx hb hr hF hP hS hlocks dX8_step_106
    · refine lv_iload_n hx hb dX8_step_100 rfl (lv_at hl 0 rfl) ?_
      refine lv_goto (tgt := 106) hx hb dX8_step_101 (by decide) ?_
      exact sx_reti (Wd := (ax_W a cI L)) (σ := u) hx hb hr hF hP hS hlocks dX8_step_106
  unfold fX8_step at hF
  refine lv_aload_n hx hb dX8_step_0 rfl (lv_at hl 0 rfl) ?_
  obtain ⟨r1, u2, hc3, hF⟩ := q_bnd_some hF
  refine sx_ci (Wd := (ax_W a cI L)) (σ1 := u2) (q_runV (Wd := (ax_W a cI L)) (σ := u) (q0 := 2) (ci := 8) (T := TX8) (N := 15) (As := []) (rest := []) hx hb hml hown hts hK hP (kt_X8_nextKind hD hc3) cw_X8_109 rfl rfl ⟨Nat.le_of_ble_eq_true rfl, Nat.le_of_ble_eq_true rfl⟩ rfl rfl rfl hl.1 rfl (Nat.le_of_ble_eq_true rfl) dX8_step_1) hS (fun H locs hP hS => ?_)
  refine lv_istore_n (lv' := [(1, .int r1), (0, .ref (a 2))]) hx hb dX8_step_4 rfl hl (by decide) rfl (fun ls hl => ?_)
  refine lv_iconst (v := 1) hx hb dX8_step_5 (by decide) ?_
  refine lv_istore_n (lv' := [(2, .int 1), (1, .int r1), (0, .ref (a 2))]) hx hb dX8_step_6 rfl hl (by decide) rfl (fun ls hl => ?_)
  refine lv_iload_n hx hb dX8_step_7 rfl (lv_at hl 1 rfl) ?_
  by_cases hq1 : r1 = 1
  · have hF := (if_pos hq1).symm.trans hF
    refine sx_tabIn hx hb 1 hq1 (off := 40) (tgt := 48) dX8_step_8 (by decide) (by decide) (by decide) (by decide) ?_
    refine lv_aload_n hx hb dX8_step_48 rfl (lv_at hl 2 rfl) ?_
    obtain ⟨r4, u5, hc6, hF⟩ := q_bnd_some hF
    refine sx_ci (Wd := (ax_W a cI L)) (σ1 := u5) (q_runV (Wd := (ax_W a cI L)) (σ := u2) (q0 := 2) (ci := 8) (T := TX8) (N := 15) (As := []) (rest := []) hx hb hml hown hts hK hP (kt_X8_trim hD hc6) cw_X8_112 rfl rfl ⟨Nat.le_of_ble_eq_true rfl, Nat.le_of_ble_eq_true rfl⟩ rfl rfl rfl hl.1 rfl (Nat.le_of_ble_eq_true rfl) dX8_step_49) hS (fun H locs hP hS => ?_)
    refine lv_istore_n (lv' := [(2, .int r4), (1, .int r1), (0, .ref (a 2))]) hx hb dX8_step_52 rfl hl (by decide) rfl (fun ls hl => ?_)
    refine lv_goto (tgt := 96) hx hb dX8_step_53 (by decide) ?_
    exact hB96 r1 r4 u5 ls (lv_sub hl [1, 0] rfl) hF _ _ hP hS
  have hF := (if_neg hq1).symm.trans hF
  by_cases hq2 : r1 = 2
  · have hF := (if_pos hq2).symm.trans hF
    refine sx_tabIn hx hb 2 hq2 (off := 48) (tgt := 56) dX8_step_8 (by decide) (by decide) (by decide) (by decide) ?_
    refine lv_aload_n hx hb dX8_step_56 rfl (lv_at hl 2 rfl) ?_
    obtain ⟨r7, u8, hc9, hF⟩ := q_bnd_some hF
    refine sx_ci (Wd := (ax_W a cI L)) (σ1 := u8) (q_runV (Wd := (ax_W a cI L)) (σ := u2) (q0 := 2) (ci := 8) (T := TX8) (N := 15) (As := []) (rest := []) hx hb hml hown hts hK hP (kt_X8_pick hD hc9) cw_X8_116 rfl rfl ⟨Nat.le_of_ble_eq_true rfl, Nat.le_of_ble_eq_true rfl⟩ rfl rfl rfl hl.1 rfl (Nat.le_of_ble_eq_true rfl) dX8_step_57) hS (fun H locs hP hS => ?_)
    refine lv_istore_n (lv' := [(2, .int r7), (1, .int r1), (0, .ref (a 2))]) hx hb dX8_step_60 rfl hl (by decide) rfl (fun ls hl => ?_)
    refine lv_goto (tgt := 96) hx hb dX8_step_61 (by decide) ?_
    exact hB96 r1 r7 u8 ls (lv_sub hl [1, 0] rfl) hF _ _ hP hS
  have hF := (if_neg hq2).symm.trans hF
  by_cases hq3 : r1 = 3
  · have hF := (if_pos hq3).symm.trans hF
    refine sx_tabIn hx hb 3 hq3 (off := 56) (tgt := 64) dX8_step_8 (by decide) (by decide) (by decide) (by decide) ?_
    refine lv_aload_n hx hb dX8_step_64 rfl (lv_at hl 2 rfl) ?_
    obtain ⟨r10, u11, hc12, hF⟩ := q_bnd_some hF
    refine sx_ci (Wd := (ax_W a cI L)) (σ1 := u11) (q_runV (Wd := (ax_W a cI L)) (σ := u2) (q0 := 2) (ci := 8) (T := TX8) (N := 15) (As := []) (rest := []) hx hb hml hown hts hK hP (kt_X8_merge hD hc12) cw_X8_119 rfl rfl ⟨Nat.le_of_ble_eq_true rfl, Nat.le_of_ble_eq_true rfl⟩ rfl rfl rfl hl.1 rfl (Nat.le_of_ble_eq_true rfl) dX8_step_65) hS (fun H locs hP hS => ?_)
    refine lv_istore_n (lv' := [(2, .int r10), (1, .int r1), (0, .ref (a 2))]) hx hb dX8_step_68 rfl hl (by decide) rfl (fun ls hl => ?_)
    refine lv_goto (tgt := 96) hx hb dX8_step_69 (by decide) ?_
    exact hB96 r1 r10 u11 ls (lv_sub hl [1, 0] rfl) hF _ _ hP hS
  have hF := (if_neg hq3).symm.trans hF
  by_cases hq4 : r1 = 4
  · have hF := (if_pos hq4).symm.trans hF
    refine sx_tabIn hx hb 4 hq4 (off := 64) (tgt := 72) dX8_step_8 (by decide) (by decide) (by decide) (by decide) ?_
    refine lv_aload_n hx hb dX8_step_72 rfl (lv_at hl 2 rfl) ?_
    obtain ⟨r13, u14, hc15, hF⟩ := q_bnd_some hF
    refine sx_ci (Wd := (ax_W a cI L)) (σ1 := u14) (q_runV (Wd := (ax_W a cI L)) (σ := u2) (q0 := 2) (ci := 8) (T := TX8) (N := 15) (As := []) (rest := []) hx hb hml hown hts hK hP (kt_X8_becomeSafe hD hc15) cw_X8_122 rfl rfl ⟨Nat.le_of_ble_eq_true rfl, Nat.le_of_ble_eq_true rfl⟩ rfl rfl rfl hl.1 rfl (Nat.le_of_ble_eq_true rfl) dX8_step_73) hS (fun H locs hP hS => ?_)
    refine lv_istore_n (lv' := [(2, .int r13), (1, .int r1), (0, .ref (a 2))]) hx hb dX8_step_76 rfl hl (by decide) rfl (fun ls hl => ?_)
    refine lv_goto (tgt := 96) hx hb dX8_step_77 (by decide) ?_
    exact hB96 r1 r13 u14 ls (lv_sub hl [1, 0] rfl) hF _ _ hP hS
  have hF := (if_neg hq4).symm.trans hF
  by_cases hq5 : r1 = 5
  · have hF := (if_pos hq5).symm.trans hF
    refine sx_tabIn hx hb 5 hq5 (off := 72) (tgt := 80) dX8_step_8 (by decide) (by decide) (by decide) (by decide) ?_
    refine lv_aload_n hx hb dX8_step_80 rfl (lv_at hl 2 rfl) ?_
    obtain ⟨r16, u17, hc18, hF⟩ := q_bnd_some hF
    refine sx_ci (Wd := (ax_W a cI L)) (σ1 := u17) (q_runV (Wd := (ax_W a cI L)) (σ := u2) (q0 := 2) (ci := 8) (T := TX8) (N := 15) (As := []) (rest := []) hx hb hml hown hts hK hP (kt_X8_bringBack hD hc18) cw_X8_125 rfl rfl ⟨Nat.le_of_ble_eq_true rfl, Nat.le_of_ble_eq_true rfl⟩ rfl rfl rfl hl.1 rfl (Nat.le_of_ble_eq_true rfl) dX8_step_81) hS (fun H locs hP hS => ?_)
    refine lv_istore_n (lv' := [(2, .int r16), (1, .int r1), (0, .ref (a 2))]) hx hb dX8_step_84 rfl hl (by decide) rfl (fun ls hl => ?_)
    refine lv_goto (tgt := 96) hx hb dX8_step_85 (by decide) ?_
    exact hB96 r1 r16 u17 ls (lv_sub hl [1, 0] rfl) hF _ _ hP hS
  have hF := (if_neg hq5).symm.trans hF
  by_cases hq6 : r1 = 6
  · have hF := (if_pos hq6).symm.trans hF
    refine sx_tabIn hx hb 6 hq6 (off := 80) (tgt := 88) dX8_step_8 (by decide) (by decide) (by decide) (by decide) ?_
    refine lv_aload_n hx hb dX8_step_88 rfl (lv_at hl 2 rfl) ?_
    obtain ⟨r19, u20, hc21, hF⟩ := q_bnd_some hF
    refine sx_ci (Wd := (ax_W a cI L)) (σ1 := u20) (q_runV (Wd := (ax_W a cI L)) (σ := u2) (q0 := 2) (ci := 8) (T := TX8) (N := 15) (As := []) (rest := []) hx hb hml hown hts hK hP (kt_X8_finish hD hc21) cw_X8_128 rfl rfl ⟨Nat.le_of_ble_eq_true rfl, Nat.le_of_ble_eq_true rfl⟩ rfl rfl rfl hl.1 rfl (Nat.le_of_ble_eq_true rfl) dX8_step_89) hS (fun H locs hP hS => ?_)
    refine lv_istore_n (lv' := [(2, .int r19), (1, .int r1), (0, .ref (a 2))]) hx hb dX8_step_92 rfl hl (by decide) rfl (fun ls hl => ?_)
    refine lv_goto (tgt := 96) hx hb dX8_step_93 (by decide) ?_
    exact hB96 r1 r19 u20 ls (lv_sub hl [1, 0] rfl) hF _ _ hP hS
  have hF := (if_neg hq6).symm.trans hF
  by_cases hr1 : Int32.toInt r1 < 1 ∨ 6 < Int32.toInt r1
  · refine lv_tableOut (tgt := 96) hx hb dX8_step_8 hr1 (by decide) ?_
    exact hB96 r1 1 u2 ls (lv_sub hl [1, 0] rfl) hF _ _ hP hS
  · have hr2 : Int32.toInt r1 = 1 ∨ Int32.toInt r1 = 2 ∨ Int32.toInt r1 = 3 ∨ Int32.toInt r1 = 4 ∨ Int32.toInt r1 = 5 ∨ Int32.toInt r1 = 6 := by omega
    rcases hr2 with hr2 | hr2 | hr2 | hr2 | hr2 | hr2
    · exact absurd (Int32.toInt_inj.mp (hr2.trans (by decide : (1 : Int) = Int32.toInt 1))) hq1
    · exact absurd (Int32.toInt_inj.mp (hr2.trans (by decide : (2 : Int) = Int32.toInt 2))) hq2
    · exact absurd (Int32.toInt_inj.mp (hr2.trans (by decide : (3 : Int) = Int32.toInt 3))) hq3
    · exact absurd (Int32.toInt_inj.mp (hr2.trans (by decide : (4 : Int) = Int32.toInt 4))) hq4
    · exact absurd (Int32.toInt_inj.mp (hr2.trans (by decide : (5 : Int) = Int32.toInt 5))) hq5
    · exact absurd (Int32.toInt_inj.mp (hr2.trans (by decide : (6 : Int) = Int32.toInt 6))) hq6
set_option maxHeartbeats 4000000 in
set_option maxRecDepth 100000 in
theorem kt_X8_write_22 {N : Nat} {l : Launch} {D : va_G} {a : Nat → Nat} {cI : Nat → ClassId} {L : Nat → Nat} (hD : ∀ σ, va_D (ax_A a) (ax_W a cI L σ)) {o1 : Int32} {o3 : Int32} {u σ0 : q_St} {r0 : Int32} (hF : fX8_write_22 L N o1 o3 u = some (r0, σ0)) : Met l yX8_write (Cond.code yX8_write cX8_write 5 (some .boolean) :: q_T) ({ frames := 4, cells := 0, slots := 0, locals := 102 } : Room) (q_P D vwCl (ax_T cI) (ax_W a cI L) [.ref (a 2), .int o1, .ref (a 22), .int o3] u) (q_Qi D vwCl (ax_W a cI L) (ax_A a) r0 σ0) 0 0 (ax_A a) := by
  refine Met.ofW (cc := cX8_write) (maxL := 5) (ret := (some .boolean)) (by decide) rfl ?_
  intro p e s m args below meth c s₁ B hml hv
  obtain ⟨rfl, hP, hK⟩ := hv
  have hx := B.exec
  have hb := B.bytes
  have hr := B.returns
  have hts := q_ts (atoms_spec (ws := Cond.code yX8_write cX8_write 5 (some .boolean) :: q_T) B.pre)
  have hown : s.vm.findClass RX8 = some m.cls := findClass_of_methodNamed B.named
  have hlocks := B.notSynchronized
  have hS : va_S (ax_A a) s.heap s.heap [] := va_S.rf
  have hl := lv_entry ([.ref (a 2), .int o1, .ref (a 22), .int o3]) (n := 5) (Nat.le_of_ble_eq_true rfl)
  rw [lg_entry_eq]
  generalize (lg_sl ([.ref (a 2), .int o1, .ref (a 22), .int o3]) ++ List.replicate (5 - (lg_sl ([.ref (a 2), .int o1, .ref (a 22), .int o3])).length) Slot.unset).toArray = ls at hl ⊢
  have hl : lv_has ls 5 [(0, .ref (a 2)), (1, .int o1), (2, .ref (a 22)), (3, .int o3)] := hl
  have hB62 : ∀ (x1 : Int32) (x3 : Int32) (u : q_St) (ls : Array Slot), lv_has ls 5 [(0, .ref (a 2)), (1, .int x1), (2, .ref (a 22)), (3, .int x3)] → fX8_write_22_b62 L N x1 x3 u = some (r0, σ0) → ∀ (H : Heap) (locs : List Loc), va_P D vwCl (ax_W a cI L u) H → va_S (ax_A a) s.heap H locs → W p l e (headSpec (Cond.code yX8_write cX8_write 5 (some .boolean) :: q_T) ({ frames := 4, cells := 0, slots := 0, locals := 102 } : Room)).room s m ([.ref (a 2), .int o1, .ref (a 22), .int o3] : List Value).toArray below meth c H locs 0 0 (MQ below (q_Qi D vwCl (ax_W a cI L) (ax_A a) r0 σ0) ([.ref (a 2), .int o1, .ref (a 22), .int o3] : List Value).toArray s 0 0 (ax_A a)) (F0 m 62 ls []) := by
    intro x1 x3 u ls hl hF _ _ hP hS
    unfold fX8_write_22_b62 at hF
    refine lv_aload_n hx hb dX8_write_62 rfl (lv_at hl 0 rfl) ?_
    refine gx_vol_head hx hb hts hown hK hP fl_X8_65 dX8_write_63 ?_
    refine lv_aload_n hx hb dX8_write_66 rfl (lv_at hl 0 rfl) ?_
    refine gx_vol_disk hx hb hts hown hK hP fl_X8_9 dX8_write_67 ?_
    refine gx_disk_places hx hb hts hown hK hP fl_X8_28 dX8_write_70 ?_
    refine sx_irem hx hb hF dX8_write_73 (fun hF => ?_)
    refine sx_istore (lv2 := [(0, .ref (a 2)), (1, .int x1), (2, .ref (a 22)), (3, .int x3)]) hx hb hF dX8_write_74 hl (by decide) rfl (fun v4 hF ls hl => ?_)
    refine lv_iload_n hx hb dX8_write_76 rfl (lv_at hl 2 rfl) ?_
    refine sx_if_lt (tgt := 113) hx hb hF dX8_write_77 (by decide) (fun hF => ?_) (fun hF => ?_)
    · refine lv_iconst (v := 0) hx hb dX8_write_113 (by decide) ?_
      exact sx_retz (Wd := (ax_W a cI L)) (σ := u) hx hb hr (by decide) hF hP hS hlocks dX8_write_114
    · refine lv_iload_n hx hb dX8_write_80 rfl (lv_at hl 2 rfl) ?_
      refine lv_aload_n hx hb dX8_write_81 rfl (lv_at hl 1 rfl) ?_
      refine gx_vol_latest hx hb hts hown hK hP fl_X8_37 dX8_write_82 ?_
      refine nx_vol_latest hx hb hK hP dX8_write_85 ?_
      refine sx_icmp_ge (tgt := 113) hx hb hF dX8_write_86 (by decide) (fun hF => ?_) (fun hF => ?_)
      · refine lv_iconst (v := 0) hx hb dX8_write_113 (by decide) ?_
        exact sx_retz (Wd := (ax_W a cI L)) (σ := u) hx hb hr (by decide) hF hP hS hlocks dX8_write_114
      · refine lv_iload hx hb dX8_write_89 (lv_at hl 0 rfl) ?_
        refine lv_aload_n hx hb dX8_write_91 rfl (lv_at hl 1 rfl) ?_
        refine gx_vol_holds hx hb hts hown hK hP fl_X8_31 dX8_write_92 ?_
        refine nx_vol_holds hx hb hK hP dX8_write_95 ?_
        refine sx_icmp_ge (tgt := 113) hx hb hF dX8_write_96 (by decide) (fun hF => ?_) (fun hF => ?_)
        · refine lv_iconst (v := 0) hx hb dX8_write_113 (by decide) ?_
          exact sx_retz (Wd := (ax_W a cI L)) (σ := u) hx hb hr (by decide) hF hP hS hlocks dX8_write_114
        · refine lv_aload_n hx hb dX8_write_99 rfl (lv_at hl 1 rfl) ?_
          refine gx_vol_disk hx hb hts hown hK hP fl_X8_9 dX8_write_100 ?_
          refine lv_iload hx hb dX8_write_103 (lv_at hl 0 rfl) ?_
          refine lv_aload_n hx hb dX8_write_105 rfl (lv_at hl 3 rfl) ?_
          refine lv_iload_n hx hb dX8_write_106 rfl (lv_at hl 4 rfl) ?_
          obtain ⟨r5, u6, hc7, hF⟩ := q_bnd_some hF
          refine sx_ci (Wd := (ax_W a cI L)) (σ1 := u6) (q_runV (Wd := (ax_W a cI L)) (σ := u) (q0 := 1) (ci := 2) (T := TX2) (N := 15) (As := [.int v4, .ref (a 22), .int x3]) (rest := []) hx hb hml hown hts hK hP (kt_X2_writeEntry_22 hD hc7) cw_X8_96 rfl rfl ⟨Nat.le_of_ble_eq_true rfl, Nat.le_of_ble_eq_true rfl⟩ rfl rfl rfl hl.1 rfl (Nat.le_of_ble_eq_true rfl) dX8_write_107) hS (fun H locs hP hS => ?_)
          refine sx_if_ne (tgt := 115) hx hb hF dX8_write_110 (by decide) (fun hF => ?_) (fun hF => ?_)
          · refine lv_aload_n hx hb dX8_write_115 rfl (lv_at hl 1 rfl) ?_
            refine gx_vol_holds hx hb hts hown hK hP fl_X8_31 dX8_write_116 ?_
            refine lv_iload hx hb dX8_write_119 (lv_at hl 0 rfl) ?_
            refine lv_iload_n hx hb dX8_write_121 rfl (lv_at hl 2 rfl) ?_
            refine ux_vol_holds hx hb hK hP hD hS hF dX8_write_122 (fun u8 H locs hF hP hS => ?_)
            refine lv_aload_n hx hb dX8_write_123 rfl (lv_at hl 1 rfl) ?_
            refine gx_vol_latest hx hb hts hown hK hP fl_X8_37 dX8_write_124 ?_
            refine lv_iload_n hx hb dX8_write_127 rfl (lv_at hl 2 rfl) ?_
            refine lv_aload_n hx hb dX8_write_128 rfl (lv_at hl 1 rfl) ?_
            refine gx_vol_head hx hb hts hown hK hP fl_X8_65 dX8_write_129 ?_
            refine ux_vol_latest hx hb hK hP hD hS hF dX8_write_132 (fun u9 H locs hF hP hS => ?_)
            refine lv_aload_n hx hb dX8_write_133 rfl (lv_at hl 1 rfl) ?_
            refine lv_dup hx hb dX8_write_134 rfl ?_
            refine gx_vol_head hx hb hts hown hK hP fl_X8_65 dX8_write_135 ?_
            refine lv_iconst (v := 1) hx hb dX8_write_138 (by decide) ?_
            refine lv_iadd hx hb dX8_write_139 ?_
            refine px_vol_head hx hb hts hown hK hP fl_X8_65 hD hS hF dX8_write_140 (fun u10 H locs hF hP hS => ?_)
            refine lv_iconst (v := 1) hx hb dX8_write_143 (by decide) ?_
            exact sx_retz (Wd := (ax_W a cI L)) (σ := u10) hx hb hr (by decide) hF hP hS hlocks dX8_write_144
          · refine lv_iconst (v := 0) hx hb dX8_write_113 (by decide) ?_
            exact sx_retz (Wd := (ax_W a cI L)) (σ := u6) hx hb hr (by decide) hF hP hS hlocks dX8_write_114
  have hB30 : ∀ (n : Nat) (x1 : Int32) (x3 : Int32) (x4 : Int32) (u : q_St) (ls : Array Slot), lv_has ls 5 [(0, .ref (a 2)), (1, .int x1), (2, .ref (a 22)), (3, .int x3), (4, .int x4)] → q_lp (fX8_write_22_b30 L N) (fun _ _ _ _ => none) n x1 x3 x4 u = some (r0, σ0) → ∀ (H : Heap) (locs : List Loc), va_P D vwCl (ax_W a cI L u) H → va_S (ax_A a) s.heap H locs → W p l e (headSpec (Cond.code yX8_write cX8_write 5 (some .boolean) :: q_T) ({ frames := 4, cells := 0, slots := 0, locals := 102 } : Room)).room s m ([.ref (a 2), .int o1, .ref (a 22), .int o3] : List Value).toArray below meth c H locs 0 0 (MQ below (q_Qi D vwCl (ax_W a cI L) (ax_A a) r0 σ0) ([.ref (a 2), .int o1, .ref (a 22), .int o3] : List Value).toArray s 0 0 (ax_A a)) (F0 m 30 ls []) := by
    intro n
    induction n with
    | zero => intro x1 x3 x4 u ls hl hF; exact absurd (show (none : Option (Int32 × q_St)) = some _ from hF) (fun h => nomatch h)
    | succ n hi30 =>
      intro x1 x3 x4 u ls hl hF _ _ hP hS
      obtain ⟨ih30, hih⟩ : ∃ q, q = q_lp (fX8_write_22_b30 L N) (fun _ _ _ _ => none) n := ⟨_, rfl⟩
      rw [← hih] at hi30
      have hF : fX8_write_22_b30 L N (q_lp (fX8_write_22_b30 L N) (fun _ _ _ _ => none) n) x1 x3 x4 u = some (r0, σ0) := hF
      rw [← hih] at hF
      clear hih
      unfold fX8_write_22_b30 at hF
      refine lv_iload hx hb dX8_write_30 (lv_at hl 4 rfl) ?_
      refine lv_sipush (v := 10000) hx hb dX8_write_32 (by decide) ?_
      refine sx_icmp_ge (tgt := 62) hx hb hF dX8_write_35 (by decide) (fun hF => ?_) (fun hF => ?_)
      · exact hB62 x1 x3 u ls (lv_sub hl [0, 1, 2, 3] rfl) hF _ _ hP hS
      · refine lv_aload_n hx hb dX8_write_38 rfl (lv_at hl 0 rfl) ?_
        obtain ⟨r11, u12, hc13, hF⟩ := q_bnd_some hF
        refine sx_ci (Wd := (ax_W a cI L)) (σ1 := u12) (q_runV (Wd := (ax_W a cI L)) (σ := u) (q0 := 2) (ci := 8) (T := TX8) (N := 15) (As := []) (rest := []) hx hb hml hown hts hK hP (kt_X8_freePlaces hD hc13) cw_X8_89 rfl rfl ⟨Nat.le_of_ble_eq_true rfl, Nat.le_of_ble_eq_true rfl⟩ rfl rfl rfl hl.1 rfl (Nat.le_of_ble_eq_true rfl) dX8_write_39) hS (fun H locs hP hS => ?_)
        refine sx_if_ne (tgt := 62) hx hb hF dX8_write_42 (by decide) (fun hF => ?_) (fun hF => ?_)
        · exact hB62 x1 x3 u12 ls (lv_sub hl [0, 1, 2, 3] rfl) hF _ _ hP hS
        · refine lv_aload_n hx hb dX8_write_45 rfl (lv_at hl 0 rfl) ?_
          obtain ⟨r14, u15, hc16, hF⟩ := q_bnd_some hF
          refine sx_ci (Wd := (ax_W a cI L)) (σ1 := u15) (q_runV (Wd := (ax_W a cI L)) (σ := u12) (q0 := 2) (ci := 8) (T := TX8) (N := 15) (As := []) (rest := []) hx hb hml hown hts hK hP (kt_X8_step hD hc16) cw_X8_93 rfl rfl ⟨Nat.le_of_ble_eq_true rfl, Nat.le_of_ble_eq_true rfl⟩ rfl rfl rfl hl.1 rfl (Nat.le_of_ble_eq_true rfl) dX8_write_46) hS (fun H locs hP hS => ?_)
          refine lv_bipush (v := (-99)) hx hb dX8_write_49 (by decide) ?_
          refine sx_icmp_ne (tgt := 56) hx hb hF dX8_write_51 (by decide) (fun hF => ?_) (fun hF => ?_)
          · refine sx_iinc (d := 1) (k := 4) (lv2 := [(0, .ref (a 2)), (1, .int x1), (2, .ref (a 22)), (3, .int x3)]) hx hb hF dX8_write_56 hl rfl (by decide) (by decide) rfl (fun v17 hF ls hl => ?_)
            refine lv_goto (tgt := 30) hx hb dX8_write_59 (by decide) ?_
            exact hi30 x1 x3 v17 u15 ls (lv_sub hl [1, 2, 3, 4, 0] rfl) hF _ _ hP hS
          · refine lv_iconst (v := 0) hx hb dX8_write_54 (by decide) ?_
            exact sx_retz (Wd := (ax_W a cI L)) (σ := u15) hx hb hr (by decide) hF hP hS hlocks dX8_write_55
  have hB27 : ∀ (x1 : Int32) (x3 : Int32) (u : q_St) (ls : Array Slot), lv_has ls 5 [(0, .ref (a 2)), (1, .int x1), (2, .ref (a 22)), (3, .int x3)] → fX8_write_22_b27 L N x1 x3 u = some (r0, σ0) → ∀ (H : Heap) (locs : List Loc), va_P D vwCl (ax_W a cI L u) H → va_S (ax_A a) s.heap H locs → W p l e (headSpec (Cond.code yX8_write cX8_write 5 (some .boolean) :: q_T) ({ frames := 4, cells := 0, slots := 0, locals := 102 } : Room)).room s m ([.ref (a 2), .int o1, .ref (a 22), .int o3] : List Value).toArray below meth c H locs 0 0 (MQ below (q_Qi D vwCl (ax_W a cI L) (ax_A a) r0 σ0) ([.ref (a 2), .int o1, .ref (a 22), .int o3] : List Value).toArray s 0 0 (ax_A a)) (F0 m 27 ls []) := by
    intro x1 x3 u ls hl hF _ _ hP hS
    unfold fX8_write_22_b27 at hF
    refine lv_iconst (v := 0) hx hb dX8_write_27 (by decide) ?_
    refine lv_istore (lv' := [(4, .int 0), (0, .ref (a 2)), (1, .int x1), (2, .ref (a 22)), (3, .int x3)]) hx hb dX8_write_28 hl (by decide) rfl (fun ls hl => ?_)
    exact hB30 N x1 x3 0 u ls (lv_sub hl [1, 2, 3, 4, 0] rfl) hF _ _ hP hS
  unfold fX8_write_22 at hF
  refine lv_iconst (v := 4) hx hb dX8_write_0 (by decide) ?_
  refine lv_aload_n hx hb dX8_write_1 rfl (lv_at hl 0 rfl) ?_
  obtain ⟨r1, u2, hc3, hF⟩ := q_bnd_some hF
  refine sx_ci (Wd := (ax_W a cI L)) (σ1 := u2) (q_runV (Wd := (ax_W a cI L)) (σ := u) (q0 := 2) (ci := 8) (T := TX8) (N := 15) (As := []) (rest := [.int 4]) hx hb hml hown hts hK hP (kt_X8_freePlaces hD hc3) cw_X8_89 rfl rfl ⟨Nat.le_of_ble_eq_true rfl, Nat.le_of_ble_eq_true rfl⟩ rfl rfl rfl hl.1 rfl (Nat.le_of_ble_eq_true rfl) dX8_write_2) hS (fun H locs hP hS => ?_)
  refine lv_imul hx hb dX8_write_5 ?_
  refine lv_aload_n hx hb dX8_write_6 rfl (lv_at hl 0 rfl) ?_
  refine gx_vol_disk hx hb hts hown hK hP fl_X8_9 dX8_write_7 ?_
  refine gx_disk_places hx hb hts hown hK hP fl_X8_28 dX8_write_10 ?_
  refine sx_icmp_ge (tgt := 27) hx hb hF dX8_write_13 (by decide) (fun hF => ?_) (fun hF => ?_)
  · exact hB27 o1 o3 u2 ls (lv_sub hl [0, 1, 2, 3] rfl) hF _ _ hP hS
  · refine lv_aload_n hx hb dX8_write_16 rfl (lv_at hl 0 rfl) ?_
    obtain ⟨r18, u19, hc20, hF⟩ := q_bnd_some hF
    refine sx_ci (Wd := (ax_W a cI L)) (σ1 := u19) (q_runV (Wd := (ax_W a cI L)) (σ := u2) (q0 := 2) (ci := 8) (T := TX8) (N := 15) (As := []) (rest := []) hx hb hml hown hts hK hP (kt_X8_step hD hc20) cw_X8_93 rfl rfl ⟨Nat.le_of_ble_eq_true rfl, Nat.le_of_ble_eq_true rfl⟩ rfl rfl rfl hl.1 rfl (Nat.le_of_ble_eq_true rfl) dX8_write_17) hS (fun H locs hP hS => ?_)
    refine lv_bipush (v := (-99)) hx hb dX8_write_20 (by decide) ?_
    refine sx_icmp_ne (tgt := 27) hx hb hF dX8_write_22 (by decide) (fun hF => ?_) (fun hF => ?_)
    · exact hB27 o1 o3 u19 ls (lv_sub hl [0, 1, 2, 3] rfl) hF _ _ hP hS
    · refine lv_iconst (v := 0) hx hb dX8_write_25 (by decide) ?_
      exact sx_retz (Wd := (ax_W a cI L)) (σ := u19) hx hb hr (by decide) hF hP hS hlocks dX8_write_26
set_option maxHeartbeats 4000000 in
set_option maxRecDepth 100000 in
theorem kt_X2_writeEntry_19 {N : Nat} {l : Launch} {D : va_G} {a : Nat → Nat} {cI : Nat → ClassId} {L : Nat → Nat} (hD : ∀ σ, va_D (ax_A a) (ax_W a cI L σ)) {o1 : Int32} {o3 : Int32} {u σ0 : q_St} {r0 : Int32} (hF : fX2_writeEntry_19 L N o1 o3 u = some (r0, σ0)) : Met l yX2_writeEntry (Cond.code yX2_writeEntry cX2_writeEntry 4 (some .boolean) :: q_T) ({ frames := 1, cells := 0, slots := 0, locals := 30 } : Room) (q_P D vwCl (ax_T cI) (ax_W a cI L) [.ref (a 1), .int o1, .ref (a 19), .int o3] u) (q_Qi D vwCl (ax_W a cI L) (ax_A a) r0 σ0) 0 0 (ax_A a) := by
  refine Met.ofW (cc := cX2_writeEntry) (maxL := 4) (ret := (some .boolean)) (by decide) rfl ?_
  intro p e s m args below meth c s₁ B hml hv
  obtain ⟨rfl, hP, hK⟩ := hv
  have hx := B.exec
  have hb := B.bytes
  have hr := B.returns
  have hts := q_ts (atoms_spec (ws := Cond.code yX2_writeEntry cX2_writeEntry 4 (some .boolean) :: q_T) B.pre)
  have hown : s.vm.findClass RX2 = some m.cls := findClass_of_methodNamed B.named
  have hlocks := B.notSynchronized
  have hS : va_S (ax_A a) s.heap s.heap [] := va_S.rf
  have hl := lv_entry ([.ref (a 1), .int o1, .ref (a 19), .int o3]) (n := 4) (Nat.le_of_ble_eq_true rfl)
  rw [lg_entry_eq]
  generalize (lg_sl ([.ref (a 1), .int o1, .ref (a 19), .int o3]) ++ List.replicate (4 - (lg_sl ([.ref (a 1), .int o1, .ref (a 19), .int o3])).length) Slot.unset).toArray = ls at hl ⊢
  have hl : lv_has ls 4 [(0, .ref (a 1)), (1, .int o1), (2, .ref (a 19)), (3, .int o3)] := hl
  unfold fX2_writeEntry_19 at hF
  refine lv_iload_n hx hb dX2_writeEntry_0 rfl (lv_at hl 1 rfl) ?_
  refine sx_if_lt (tgt := 32) hx hb hF dX2_writeEntry_1 (by decide) (fun hF => ?_) (fun hF => ?_)
  · refine lv_iconst (v := 0) hx hb dX2_writeEntry_32 (by decide) ?_
    exact sx_retz (Wd := (ax_W a cI L)) (σ := u) hx hb hr (by decide) hF hP hS hlocks dX2_writeEntry_33
  · refine lv_iload_n hx hb dX2_writeEntry_4 rfl (lv_at hl 1 rfl) ?_
    refine lv_aload_n hx hb dX2_writeEntry_5 rfl (lv_at hl 0 rfl) ?_
    refine gx_disk_places hx hb hts hown hK hP fl_X2_36 dX2_writeEntry_6 ?_
    refine sx_icmp_ge (tgt := 32) hx hb hF dX2_writeEntry_9 (by decide) (fun hF => ?_) (fun hF => ?_)
    · refine lv_iconst (v := 0) hx hb dX2_writeEntry_32 (by decide) ?_
      exact sx_retz (Wd := (ax_W a cI L)) (σ := u) hx hb hr (by decide) hF hP hS hlocks dX2_writeEntry_33
    · refine lv_iload_n hx hb dX2_writeEntry_12 rfl (lv_at hl 3 rfl) ?_
      refine sx_if_lt (tgt := 32) hx hb hF dX2_writeEntry_13 (by decide) (fun hF => ?_) (fun hF => ?_)
      · refine lv_iconst (v := 0) hx hb dX2_writeEntry_32 (by decide) ?_
        exact sx_retz (Wd := (ax_W a cI L)) (σ := u) hx hb hr (by decide) hF hP hS hlocks dX2_writeEntry_33
      · refine lv_iload_n hx hb dX2_writeEntry_16 rfl (lv_at hl 3 rfl) ?_
        refine lv_aload_n hx hb dX2_writeEntry_17 rfl (lv_at hl 2 rfl) ?_
        refine nx_store_memory hx hb hK hP dX2_writeEntry_18 ?_
        refine lv_bipush (v := 8) hx hb dX2_writeEntry_19 (by decide) ?_
        refine lv_isub hx hb dX2_writeEntry_21 ?_
        refine sx_icmp_gt (tgt := 32) hx hb hF dX2_writeEntry_22 (by decide) (fun hF => ?_) (fun hF => ?_)
        · refine lv_iconst (v := 0) hx hb dX2_writeEntry_32 (by decide) ?_
          exact sx_retz (Wd := (ax_W a cI L)) (σ := u) hx hb hr (by decide) hF hP hS hlocks dX2_writeEntry_33
        · refine lv_aload_n hx hb dX2_writeEntry_25 rfl (lv_at hl 0 rfl) ?_
          obtain ⟨r1, u2, hc3, hF⟩ := q_bnd_some hF
          refine sx_ci (Wd := (ax_W a cI L)) (σ1 := u2) (q_runV (Wd := (ax_W a cI L)) (σ := u) (q0 := 1) (ci := 2) (T := TX2) (N := 15) (As := []) (rest := []) hx hb hml hown hts hK hP (kt_X2_spend hD hc3) cw_X2_68 rfl rfl ⟨Nat.le_of_ble_eq_true rfl, Nat.le_of_ble_eq_true rfl⟩ rfl rfl rfl hl.1 rfl (Nat.le_of_ble_eq_true rfl) dX2_writeEntry_26) hS (fun H locs hP hS => ?_)
          refine sx_if_ne (tgt := 34) hx hb hF dX2_writeEntry_29 (by decide) (fun hF => ?_) (fun hF => ?_)
          · refine lv_aload_n hx hb dX2_writeEntry_34 rfl (lv_at hl 2 rfl) ?_
            refine lv_iload_n hx hb dX2_writeEntry_35 rfl (lv_at hl 3 rfl) ?_
            refine lv_aload_n hx hb dX2_writeEntry_36 rfl (lv_at hl 0 rfl) ?_
            refine gx_disk_cells hx hb hts hown hK hP fl_X2_39 dX2_writeEntry_37 ?_
            refine lv_aload_n hx hb dX2_writeEntry_40 rfl (lv_at hl 0 rfl) ?_
            refine gx_disk_sectors hx hb hts hown hK hP fl_X2_33 dX2_writeEntry_41 ?_
            refine lv_aload_n hx hb dX2_writeEntry_44 rfl (lv_at hl 0 rfl) ?_
            refine gx_disk_bandSize hx hb hts hown hK hP fl_X2_30 dX2_writeEntry_45 ?_
            refine lv_iadd hx hb dX2_writeEntry_48 ?_
            refine lv_iload_n hx hb dX2_writeEntry_49 rfl (lv_at hl 1 rfl) ?_
            refine lv_iadd hx hb dX2_writeEntry_50 ?_
            refine lv_bipush (v := 8) hx hb dX2_writeEntry_51 (by decide) ?_
            refine lv_imul hx hb dX2_writeEntry_53 ?_
            refine lv_bipush (v := 8) hx hb dX2_writeEntry_54 (by decide) ?_
            obtain ⟨⟨hs1, hs2, hs3, hs4, hs5⟩, hF⟩ := q_cp_some hF
            refine va_copyl hx hb (hml.trans hl.1.symm) hown (hts _ lw_X2_72) (hts _ lb_cp_n) (hts _ lb_cp_s) (hts _ lb_sys) hK hP (hD u2) hS 19 12 7 0 (ty := .long) rfl rfl rfl rfl rfl hs1 hs2 hs3 hs4 hs5 (fun _ _ => rfl) (Nat.le_of_ble_eq_true rfl) (Nat.le_of_ble_eq_true rfl) dX2_writeEntry_56 (fun H locs hP _ hS => ?_)
            have hP : va_P D vwCl (ax_W a cI L (q_sj u2 0 (va_cpy (q_j u2 2) (q_j u2 0) (Int32.toNatClampNeg o3) (Int32.toNatClampNeg ((((q_i u2 5) + (q_i u2 4)) + o1) * 8)) (Int32.toNatClampNeg 8)))) H := hP
            obtain ⟨u4, hu1⟩ : ∃ q, q = (q_sj u2 0 (va_cpy (q_j u2 2) (q_j u2 0) (Int32.toNatClampNeg o3) (Int32.toNatClampNeg ((((q_i u2 5) + (q_i u2 4)) + o1) * 8)) (Int32.toNatClampNeg 8))) := ⟨_, rfl⟩
            rw [← hu1] at hP hF
            refine lv_aload_n hx hb dX2_writeEntry_59 rfl (lv_at hl 0 rfl) ?_
            refine lv_dup hx hb dX2_writeEntry_60 rfl ?_
            refine gx_disk_entryWrites hx hb hts hown hK hP fl_X2_56 dX2_writeEntry_61 ?_
            refine lv_iconst (v := 1) hx hb dX2_writeEntry_64 (by decide) ?_
            refine lv_iadd hx hb dX2_writeEntry_65 ?_
            refine px_disk_entryWrites hx hb hts hown hK hP fl_X2_56 hD hS hF dX2_writeEntry_66 (fun u5 H locs hF hP hS => ?_)
            refine lv_iconst (v := 1) hx hb dX2_writeEntry_69 (by decide) ?_
            exact sx_retz (Wd := (ax_W a cI L)) (σ := u5) hx hb hr (by decide) hF hP hS hlocks dX2_writeEntry_70
          · refine lv_iconst (v := 0) hx hb dX2_writeEntry_32 (by decide) ?_
            exact sx_retz (Wd := (ax_W a cI L)) (σ := u2) hx hb hr (by decide) hF hP hS hlocks dX2_writeEntry_33
set_option maxHeartbeats 4000000 in
set_option maxRecDepth 100000 in
theorem kt_X8_write_19 {N : Nat} {l : Launch} {D : va_G} {a : Nat → Nat} {cI : Nat → ClassId} {L : Nat → Nat} (hD : ∀ σ, va_D (ax_A a) (ax_W a cI L σ)) {o1 : Int32} {o3 : Int32} {u σ0 : q_St} {r0 : Int32} (hF : fX8_write_19 L N o1 o3 u = some (r0, σ0)) : Met l yX8_write (Cond.code yX8_write cX8_write 5 (some .boolean) :: q_T) ({ frames := 4, cells := 0, slots := 0, locals := 102 } : Room) (q_P D vwCl (ax_T cI) (ax_W a cI L) [.ref (a 2), .int o1, .ref (a 19), .int o3] u) (q_Qi D vwCl (ax_W a cI L) (ax_A a) r0 σ0) 0 0 (ax_A a) := by
  refine Met.ofW (cc := cX8_write) (maxL := 5) (ret := (some .boolean)) (by decide) rfl ?_
  intro p e s m args below meth c s₁ B hml hv
  obtain ⟨rfl, hP, hK⟩ := hv
  have hx := B.exec
  have hb := B.bytes
  have hr := B.returns
  have hts := q_ts (atoms_spec (ws := Cond.code yX8_write cX8_write 5 (some .boolean) :: q_T) B.pre)
  have hown : s.vm.findClass RX8 = some m.cls := findClass_of_methodNamed B.named
  have hlocks := B.notSynchronized
  have hS : va_S (ax_A a) s.heap s.heap [] := va_S.rf
  have hl := lv_entry ([.ref (a 2), .int o1, .ref (a 19), .int o3]) (n := 5) (Nat.le_of_ble_eq_true rfl)
  rw [lg_entry_eq]
  generalize (lg_sl ([.ref (a 2), .int o1, .ref (a 19), .int o3]) ++ List.replicate (5 - (lg_sl ([.ref (a 2), .int o1, .ref (a 19), .int o3])).length) Slot.unset).toArray = ls at hl ⊢
  have hl : lv_has ls 5 [(0, .ref (a 2)), (1, .int o1), (2, .ref (a 19)), (3, .int o3)] := hl
  have hB62 : ∀ (x1 : Int32) (x3 : Int32) (u : q_St) (ls : Array Slot), lv_has ls 5 [(0, .ref (a 2)), (1, .int x1), (2, .ref (a 19)), (3, .int x3)] → fX8_write_19_b62 L N x1 x3 u = some (r0, σ0) → ∀ (H : Heap) (locs : List Loc), va_P D vwCl (ax_W a cI L u) H → va_S (ax_A a) s.heap H locs → W p l e (headSpec (Cond.code yX8_write cX8_write 5 (some .boolean) :: q_T) ({ frames := 4, cells := 0, slots := 0, locals := 102 } : Room)).room s m ([.ref (a 2), .int o1, .ref (a 19), .int o3] : List Value).toArray below meth c H locs 0 0 (MQ below (q_Qi D vwCl (ax_W a cI L) (ax_A a) r0 σ0) ([.ref (a 2), .int o1, .ref (a 19), .int o3] : List Value).toArray s 0 0 (ax_A a)) (F0 m 62 ls []) := by
    intro x1 x3 u ls hl hF _ _ hP hS
    unfold fX8_write_19_b62 at hF
    refine lv_aload_n hx hb dX8_write_62 rfl (lv_at hl 0 rfl) ?_
    refine gx_vol_head hx hb hts hown hK hP fl_X8_65 dX8_write_63 ?_
    refine lv_aload_n hx hb dX8_write_66 rfl (lv_at hl 0 rfl) ?_
    refine gx_vol_disk hx hb hts hown hK hP fl_X8_9 dX8_write_67 ?_
    refine gx_disk_places hx hb hts hown hK hP fl_X8_28 dX8_write_70 ?_
    refine sx_irem hx hb hF dX8_write_73 (fun hF => ?_)
    refine sx_istore (lv2 := [(0, .ref (a 2)), (1, .int x1), (2, .ref (a 19)), (3, .int x3)]) hx hb hF dX8_write_74 hl (by decide) rfl (fun v4 hF ls hl => ?_)
    refine lv_iload_n hx hb dX8_write_76 rfl (lv_at hl 2 rfl) ?_
    refine sx_if_lt (tgt := 113) hx hb hF dX8_write_77 (by decide) (fun hF => ?_) (fun hF => ?_)
    · refine lv_iconst (v := 0) hx hb dX8_write_113 (by decide) ?_
      exact sx_retz (Wd := (ax_W a cI L)) (σ := u) hx hb hr (by decide) hF hP hS hlocks dX8_write_114
    · refine lv_iload_n hx hb dX8_write_80 rfl (lv_at hl 2 rfl) ?_
      refine lv_aload_n hx hb dX8_write_81 rfl (lv_at hl 1 rfl) ?_
      refine gx_vol_latest hx hb hts hown hK hP fl_X8_37 dX8_write_82 ?_
      refine nx_vol_latest hx hb hK hP dX8_write_85 ?_
      refine sx_icmp_ge (tgt := 113) hx hb hF dX8_write_86 (by decide) (fun hF => ?_) (fun hF => ?_)
      · refine lv_iconst (v := 0) hx hb dX8_write_113 (by decide) ?_
        exact sx_retz (Wd := (ax_W a cI L)) (σ := u) hx hb hr (by decide) hF hP hS hlocks dX8_write_114
      · refine lv_iload hx hb dX8_write_89 (lv_at hl 0 rfl) ?_
        refine lv_aload_n hx hb dX8_write_91 rfl (lv_at hl 1 rfl) ?_
        refine gx_vol_holds hx hb hts hown hK hP fl_X8_31 dX8_write_92 ?_
        refine nx_vol_holds hx hb hK hP dX8_write_95 ?_
        refine sx_icmp_ge (tgt := 113) hx hb hF dX8_write_96 (by decide) (fun hF => ?_) (fun hF => ?_)
        · refine lv_iconst (v := 0) hx hb dX8_write_113 (by decide) ?_
          exact sx_retz (Wd := (ax_W a cI L)) (σ := u) hx hb hr (by decide) hF hP hS hlocks dX8_write_114
        · refine lv_aload_n hx hb dX8_write_99 rfl (lv_at hl 1 rfl) ?_
          refine gx_vol_disk hx hb hts hown hK hP fl_X8_9 dX8_write_100 ?_
          refine lv_iload hx hb dX8_write_103 (lv_at hl 0 rfl) ?_
          refine lv_aload_n hx hb dX8_write_105 rfl (lv_at hl 3 rfl) ?_
          refine lv_iload_n hx hb dX8_write_106 rfl (lv_at hl 4 rfl) ?_
          obtain ⟨r5, u6, hc7, hF⟩ := q_bnd_some hF
          refine sx_ci (Wd := (ax_W a cI L)) (σ1 := u6) (q_runV (Wd := (ax_W a cI L)) (σ := u) (q0 := 1) (ci := 2) (T := TX2) (N := 15) (As := [.int v4, .ref (a 19), .int x3]) (rest := []) hx hb hml hown hts hK hP (kt_X2_writeEntry_19 hD hc7) cw_X8_96 rfl rfl ⟨Nat.le_of_ble_eq_true rfl, Nat.le_of_ble_eq_true rfl⟩ rfl rfl rfl hl.1 rfl (Nat.le_of_ble_eq_true rfl) dX8_write_107) hS (fun H locs hP hS => ?_)
          refine sx_if_ne (tgt := 115) hx hb hF dX8_write_110 (by decide) (fun hF => ?_) (fun hF => ?_)
          · refine lv_aload_n hx hb dX8_write_115 rfl (lv_at hl 1 rfl) ?_
            refine gx_vol_holds hx hb hts hown hK hP fl_X8_31 dX8_write_116 ?_
            refine lv_iload hx hb dX8_write_119 (lv_at hl 0 rfl) ?_
            refine lv_iload_n hx hb dX8_write_121 rfl (lv_at hl 2 rfl) ?_
            refine ux_vol_holds hx hb hK hP hD hS hF dX8_write_122 (fun u8 H locs hF hP hS => ?_)
            refine lv_aload_n hx hb dX8_write_123 rfl (lv_at hl 1 rfl) ?_
            refine gx_vol_latest hx hb hts hown hK hP fl_X8_37 dX8_write_124 ?_
            refine lv_iload_n hx hb dX8_write_127 rfl (lv_at hl 2 rfl) ?_
            refine lv_aload_n hx hb dX8_write_128 rfl (lv_at hl 1 rfl) ?_
            refine gx_vol_head hx hb hts hown hK hP fl_X8_65 dX8_write_129 ?_
            refine ux_vol_latest hx hb hK hP hD hS hF dX8_write_132 (fun u9 H locs hF hP hS => ?_)
            refine lv_aload_n hx hb dX8_write_133 rfl (lv_at hl 1 rfl) ?_
            refine lv_dup hx hb dX8_write_134 rfl ?_
            refine gx_vol_head hx hb hts hown hK hP fl_X8_65 dX8_write_135 ?_
            refine lv_iconst (v := 1) hx hb dX8_write_138 (by decide) ?_
            refine lv_iadd hx hb dX8_write_139 ?_
            refine px_vol_head hx hb hts hown hK hP fl_X8_65 hD hS hF dX8_write_140 (fun u10 H locs hF hP hS => ?_)
            refine lv_iconst (v := 1) hx hb dX8_write_143 (by decide) ?_
            exact sx_retz (Wd := (ax_W a cI L)) (σ := u10) hx hb hr (by decide) hF hP hS hlocks dX8_write_144
          · refine lv_iconst (v := 0) hx hb dX8_write_113 (by decide) ?_
            exact sx_retz (Wd := (ax_W a cI L)) (σ := u6) hx hb hr (by decide) hF hP hS hlocks dX8_write_114
  have hB30 : ∀ (n : Nat) (x1 : Int32) (x3 : Int32) (x4 : Int32) (u : q_St) (ls : Array Slot), lv_has ls 5 [(0, .ref (a 2)), (1, .int x1), (2, .ref (a 19)), (3, .int x3), (4, .int x4)] → q_lp (fX8_write_19_b30 L N) (fun _ _ _ _ => none) n x1 x3 x4 u = some (r0, σ0) → ∀ (H : Heap) (locs : List Loc), va_P D vwCl (ax_W a cI L u) H → va_S (ax_A a) s.heap H locs → W p l e (headSpec (Cond.code yX8_write cX8_write 5 (some .boolean) :: q_T) ({ frames := 4, cells := 0, slots := 0, locals := 102 } : Room)).room s m ([.ref (a 2), .int o1, .ref (a 19), .int o3] : List Value).toArray below meth c H locs 0 0 (MQ below (q_Qi D vwCl (ax_W a cI L) (ax_A a) r0 σ0) ([.ref (a 2), .int o1, .ref (a 19), .int o3] : List Value).toArray s 0 0 (ax_A a)) (F0 m 30 ls []) := by
    intro n
    induction n with
    | zero => intro x1 x3 x4 u ls hl hF; exact absurd (show (none : Option (Int32 × q_St)) = some _ from hF) (fun h => nomatch h)
    | succ n hi30 =>
      intro x1 x3 x4 u ls hl hF _ _ hP hS
      obtain ⟨ih30, hih⟩ : ∃ q, q = q_lp (fX8_write_19_b30 L N) (fun _ _ _ _ => none) n := ⟨_, rfl⟩
      rw [← hih] at hi30
      have hF : fX8_write_19_b30 L N (q_lp (fX8_write_19_b30 L N) (fun _ _ _ _ => none) n) x1 x3 x4 u = some (r0, σ0) := hF
      rw [← hih] at hF
      clear hih
      unfold fX8_write_19_b30 at hF
      refine lv_iload hx hb dX8_write_30 (lv_at hl 4 rfl) ?_
      refine lv_sipush (v := 10000) hx hb dX8_write_32 (by decide) ?_
      refine sx_icmp_ge (tgt := 62) hx hb hF dX8_write_35 (by decide) (fun hF => ?_) (fun hF => ?_)
      · exact hB62 x1 x3 u ls (lv_sub hl [0, 1, 2, 3] rfl) hF _ _ hP hS
      · refine lv_aload_n hx hb dX8_write_38 rfl (lv_at hl 0 rfl) ?_
        obtain ⟨r11, u12, hc13, hF⟩ := q_bnd_some hF
        refine sx_ci (Wd := (ax_W a cI L)) (σ1 := u12) (q_runV (Wd := (ax_W a cI L)) (σ := u) (q0 := 2) (ci := 8) (T := TX8) (N := 15) (As := []) (rest := []) hx hb hml hown hts hK hP (kt_X8_freePlaces hD hc13) cw_X8_89 rfl rfl ⟨Nat.le_of_ble_eq_true rfl, Nat.le_of_ble_eq_true rfl⟩ rfl rfl rfl hl.1 rfl (Nat.le_of_ble_eq_true rfl) dX8_write_39) hS (fun H locs hP hS => ?_)
        refine sx_if_ne (tgt := 62) hx hb hF dX8_write_42 (by decide) (fun hF => ?_) (fun hF => ?_)
        · exact hB62 x1 x3 u12 ls (lv_sub hl [0, 1, 2, 3] rfl) hF _ _ hP hS
        · refine lv_aload_n hx hb dX8_write_45 rfl (lv_at hl 0 rfl) ?_
          obtain ⟨r14, u15, hc16, hF⟩ := q_bnd_some hF
          refine sx_ci (Wd := (ax_W a cI L)) (σ1 := u15) (q_runV (Wd := (ax_W a cI L)) (σ := u12) (q0 := 2) (ci := 8) (T := TX8) (N := 15) (As := []) (rest := []) hx hb hml hown hts hK hP (kt_X8_step hD hc16) cw_X8_93 rfl rfl ⟨Nat.le_of_ble_eq_true rfl, Nat.le_of_ble_eq_true rfl⟩ rfl rfl rfl hl.1 rfl (Nat.le_of_ble_eq_true rfl) dX8_write_46) hS (fun H locs hP hS => ?_)
          refine lv_bipush (v := (-99)) hx hb dX8_write_49 (by decide) ?_
          refine sx_icmp_ne (tgt := 56) hx hb hF dX8_write_51 (by decide) (fun hF => ?_) (fun hF => ?_)
          · refine sx_iinc (d := 1) (k := 4) (lv2 := [(0, .ref (a 2)), (1, .int x1), (2, .ref (a 19)), (3, .int x3)]) hx hb hF dX8_write_56 hl rfl (by decide) (by decide) rfl (fun v17 hF ls hl => ?_)
            refine lv_goto (tgt := 30) hx hb dX8_write_59 (by decide) ?_
            exact hi30 x1 x3 v17 u15 ls (lv_sub hl [1, 2, 3, 4, 0] rfl) hF _ _ hP hS
          · refine lv_iconst (v := 0) hx hb dX8_write_54 (by decide) ?_
            exact sx_retz (Wd := (ax_W a cI L)) (σ := u15) hx hb hr (by decide) hF hP hS hlocks dX8_write_55
  have hB27 : ∀ (x1 : Int32) (x3 : Int32) (u : q_St) (ls : Array Slot), lv_has ls 5 [(0, .ref (a 2)), (1, .int x1), (2, .ref (a 19)), (3, .int x3)] → fX8_write_19_b27 L N x1 x3 u = some (r0, σ0) → ∀ (H : Heap) (locs : List Loc), va_P D vwCl (ax_W a cI L u) H → va_S (ax_A a) s.heap H locs → W p l e (headSpec (Cond.code yX8_write cX8_write 5 (some .boolean) :: q_T) ({ frames := 4, cells := 0, slots := 0, locals := 102 } : Room)).room s m ([.ref (a 2), .int o1, .ref (a 19), .int o3] : List Value).toArray below meth c H locs 0 0 (MQ below (q_Qi D vwCl (ax_W a cI L) (ax_A a) r0 σ0) ([.ref (a 2), .int o1, .ref (a 19), .int o3] : List Value).toArray s 0 0 (ax_A a)) (F0 m 27 ls []) := by
    intro x1 x3 u ls hl hF _ _ hP hS
    unfold fX8_write_19_b27 at hF
    refine lv_iconst (v := 0) hx hb dX8_write_27 (by decide) ?_
    refine lv_istore (lv' := [(4, .int 0), (0, .ref (a 2)), (1, .int x1), (2, .ref (a 19)), (3, .int x3)]) hx hb dX8_write_28 hl (by decide) rfl (fun ls hl => ?_)
    exact hB30 N x1 x3 0 u ls (lv_sub hl [1, 2, 3, 4, 0] rfl) hF _ _ hP hS
  unfold fX8_write_19 at hF
  refine lv_iconst (v := 4) hx hb dX8_write_0 (by decide) ?_
  refine lv_aload_n hx hb dX8_write_1 rfl (lv_at hl 0 rfl) ?_
  obtain ⟨r1, u2, hc3, hF⟩ := q_bnd_some hF
  refine sx_ci (Wd := (ax_W a cI L)) (σ1 := u2) (q_runV (Wd := (ax_W a cI L)) (σ := u) (q0 := 2) (ci := 8) (T := TX8) (N := 15) (As := []) (rest := [.int 4]) hx hb hml hown hts hK hP (kt_X8_freePlaces hD hc3) cw_X8_89 rfl rfl ⟨Nat.le_of_ble_eq_true rfl, Nat.le_of_ble_eq_true rfl⟩ rfl rfl rfl hl.1 rfl (Nat.le_of_ble_eq_true rfl) dX8_write_2) hS (fun H locs hP hS => ?_)
  refine lv_imul hx hb dX8_write_5 ?_
  refine lv_aload_n hx hb dX8_write_6 rfl (lv_at hl 0 rfl) ?_
  refine gx_vol_disk hx hb hts hown hK hP fl_X8_9 dX8_write_7 ?_
  refine gx_disk_places hx hb hts hown hK hP fl_X8_28 dX8_write_10 ?_
  refine sx_icmp_ge (tgt := 27) hx hb hF dX8_write_13 (by decide) (fun hF => ?_) (fun hF => ?_)
  · exact hB27 o1 o3 u2 ls (lv_sub hl [0, 1, 2, 3] rfl) hF _ _ hP hS
  · refine lv_aload_n hx hb dX8_write_16 rfl (lv_at hl 0 rfl) ?_
    obtain ⟨r18, u19, hc20, hF⟩ := q_bnd_some hF
    refine sx_ci (Wd := (ax_W a cI L)) (σ1 := u19) (q_runV (Wd := (ax_W a cI L)) (σ := u2) (q0 := 2) (ci := 8) (T := TX8) (N := 15) (As := []) (rest := []) hx hb hml hown hts hK hP (kt_X8_step hD hc20) cw_X8_93 rfl rfl ⟨Nat.le_of_ble_eq_true rfl, Nat.le_of_ble_eq_true rfl⟩ rfl rfl rfl hl.1 rfl (Nat.le_of_ble_eq_true rfl) dX8_write_17) hS (fun H locs hP hS => ?_)
    refine lv_bipush (v := (-99)) hx hb dX8_write_20 (by decide) ?_
    refine sx_icmp_ne (tgt := 27) hx hb hF dX8_write_22 (by decide) (fun hF => ?_) (fun hF => ?_)
    · exact hB27 o1 o3 u19 ls (lv_sub hl [0, 1, 2, 3] rfl) hF _ _ hP hS
    · refine lv_iconst (v := 0) hx hb dX8_write_25 (by decide) ?_
      exact sx_retz (Wd := (ax_W a cI L)) (σ := u19) hx hb hr (by decide) hF hP hS hlocks dX8_write_26
set_option maxHeartbeats 4000000 in
set_option maxRecDepth 100000 in
theorem kt_X6_listChosen {N : Nat} {l : Launch} {D : va_G} {a : Nat → Nat} {cI : Nat → ClassId} {L : Nat → Nat} (hD : ∀ σ, va_D (ax_A a) (ax_W a cI L σ)) {o1 : Int32} {o2 : Int32} {u σ0 : q_St} {r0 : Unit} (hF : fX6_listChosen L N o1 o2 u = some (r0, σ0)) : Met l yX6_listChosen (Cond.code yX6_listChosen cX6_listChosen 4 none :: q_T) ({ frames := 1, cells := 0, slots := 0, locals := 24 } : Room) (q_P D vwCl (ax_T cI) (ax_W a cI L) [.ref (a 3), .int o1, .int o2] u) (q_Qv D vwCl (ax_W a cI L) (ax_A a) σ0) 0 0 (ax_A a) := by
  refine Met.ofW (cc := cX6_listChosen) (maxL := 4) (ret := none) (by decide) rfl ?_
  intro p e s m args below meth c s₁ B hml hv
  obtain ⟨rfl, hP, hK⟩ := hv
  have hx := B.exec
  have hb := B.bytes
  have hr := B.returns
  have hts := q_ts (atoms_spec (ws := Cond.code yX6_listChosen cX6_listChosen 4 none :: q_T) B.pre)
  have hown : s.vm.findClass RX6 = some m.cls := findClass_of_methodNamed B.named
  have hlocks := B.notSynchronized
  have hS : va_S (ax_A a) s.heap s.heap [] := va_S.rf
  have hl := lv_entry ([.ref (a 3), .int o1, .int o2]) (n := 4) (Nat.le_of_ble_eq_true rfl)
  rw [lg_entry_eq]
  generalize (lg_sl ([.ref (a 3), .int o1, .int o2]) ++ List.replicate (4 - (lg_sl ([.ref (a 3), .int o1, .int o2])).length) Slot.unset).toArray = ls at hl ⊢
  have hl : lv_has ls 4 [(0, .ref (a 3)), (1, .int o1), (2, .int o2)] := hl
  have hB56 : ∀ (x2 : Int32) (u : q_St) (ls : Array Slot), lv_has ls 4 [(0, .ref (a 3)), (2, .int x2)] → fX6_listChosen_b56 L N x2 u = some (r0, σ0) → ∀ (H : Heap) (locs : List Loc), va_P D vwCl (ax_W a cI L u) H → va_S (ax_A a) s.heap H locs → W p l e (headSpec (Cond.code yX6_listChosen cX6_listChosen 4 none :: q_T) ({ frames := 1, cells := 0, slots := 0, locals := 24 } : Room)).room s m ([.ref (a 3), .int o1, .int o2] : List Value).toArray below meth c H locs 0 0 (MQ below (q_Qv D vwCl (ax_W a cI L) (ax_A a) σ0) ([.ref (a 3), .int o1, .int o2] : List Value).toArray s 0 0 (ax_A a)) (F0 m 56 ls []) := by
    intro x2 u ls hl hF _ _ hP hS
    unfold fX6_listChosen_b56 at hF
    refine lv_aload_n hx hb dX6_listChosen_56 rfl (lv_at hl 0 rfl) ?_
    refine gx_store_page hx hb hts hown hK hP fl_X6_37 dX6_listChosen_57 ?_
    refine lv_bipush (v := 6) hx hb dX6_listChosen_60 (by decide) ?_
    refine lv_iload_n hx hb dX6_listChosen_62 rfl (lv_at hl 1 rfl) ?_
    refine lv_i2l (v := Int32.toInt64 x2) hx hb dX6_listChosen_63 rfl ?_
    refine ux_store_page hx hb hK hP hD hS hF dX6_listChosen_64 (fun u4 H locs hF hP hS => ?_)
    exact sx_retv (Wd := (ax_W a cI L)) (σ := u4) hx hb hr hF hP hS hlocks dX6_listChosen_65
  have hB10 : ∀ (n : Nat) (x1 : Int32) (x2 : Int32) (x3 : Int32) (u : q_St) (ls : Array Slot), lv_has ls 4 [(0, .ref (a 3)), (1, .int x1), (2, .int x2), (3, .int x3)] → q_lp (fX6_listChosen_b10 L N) (fun _ _ _ _ => none) n x1 x2 x3 u = some (r0, σ0) → ∀ (H : Heap) (locs : List Loc), va_P D vwCl (ax_W a cI L u) H → va_S (ax_A a) s.heap H locs → W p l e (headSpec (Cond.code yX6_listChosen cX6_listChosen 4 none :: q_T) ({ frames := 1, cells := 0, slots := 0, locals := 24 } : Room)).room s m ([.ref (a 3), .int o1, .int o2] : List Value).toArray below meth c H locs 0 0 (MQ below (q_Qv D vwCl (ax_W a cI L) (ax_A a) σ0) ([.ref (a 3), .int o1, .int o2] : List Value).toArray s 0 0 (ax_A a)) (F0 m 10 ls []) := by
    intro n
    induction n with
    | zero => intro x1 x2 x3 u ls hl hF; exact absurd (show (none : Option (Unit × q_St)) = some _ from hF) (fun h => nomatch h)
    | succ n hi10 =>
      intro x1 x2 x3 u ls hl hF _ _ hP hS
      obtain ⟨ih10, hih⟩ : ∃ q, q = q_lp (fX6_listChosen_b10 L N) (fun _ _ _ _ => none) n := ⟨_, rfl⟩
      rw [← hih] at hi10
      have hF : fX6_listChosen_b10 L N (q_lp (fX6_listChosen_b10 L N) (fun _ _ _ _ => none) n) x1 x2 x3 u = some (r0, σ0) := hF
      rw [← hih] at hF
      clear hih
      unfold fX6_listChosen_b10 at hF
      refine lv_iload_n hx hb dX6_listChosen_10 rfl (lv_at hl 3 rfl) ?_
      refine lv_bipush (v := 24) hx hb dX6_listChosen_11 (by decide) ?_
      refine sx_icmp_ge (tgt := 56) hx hb hF dX6_listChosen_13 (by decide) (fun hF => ?_) (fun hF => ?_)
      · exact hB56 x2 u ls (lv_sub hl [0, 2] rfl) hF _ _ hP hS
      · refine lv_iload_n hx hb dX6_listChosen_16 rfl (lv_at hl 1 rfl) ?_
        refine lv_iload_n hx hb dX6_listChosen_17 rfl (lv_at hl 3 rfl) ?_
        refine lv_iadd hx hb dX6_listChosen_18 ?_
        refine lv_iload_n hx hb dX6_listChosen_19 rfl (lv_at hl 2 rfl) ?_
        refine sx_icmp_ge (tgt := 56) hx hb hF dX6_listChosen_20 (by decide) (fun hF => ?_) (fun hF => ?_)
        · exact hB56 x2 u ls (lv_sub hl [0, 2] rfl) hF _ _ hP hS
        · refine lv_aload_n hx hb dX6_listChosen_23 rfl (lv_at hl 0 rfl) ?_
          refine gx_store_page hx hb hts hown hK hP fl_X6_37 dX6_listChosen_24 ?_
          refine lv_iload_n hx hb dX6_listChosen_27 rfl (lv_at hl 3 rfl) ?_
          refine lv_iconst (v := 4) hx hb dX6_listChosen_28 (by decide) ?_
          refine lv_idiv hx hb dX6_listChosen_29 (by decide) ?_
          refine lv_dup2_11 hx hb dX6_listChosen_30 rfl rfl ?_
          refine lx_store_page hx hb hK hP hF dX6_listChosen_31 (fun v5 hF => ?_)
          refine lv_aload_n hx hb dX6_listChosen_32 rfl (lv_at hl 0 rfl) ?_
          refine gx_store_chosen hx hb hts hown hK hP fl_X6_33 dX6_listChosen_33 ?_
          refine lv_iload_n hx hb dX6_listChosen_36 rfl (lv_at hl 1 rfl) ?_
          refine lv_iload_n hx hb dX6_listChosen_37 rfl (lv_at hl 3 rfl) ?_
          refine lv_iadd hx hb dX6_listChosen_38 ?_
          refine lx_store_chosen hx hb hK hP hF dX6_listChosen_39 (fun v6 hF => ?_)
          refine lv_i2l (v := Int32.toInt64 v6) hx hb dX6_listChosen_40 rfl ?_
          refine lv_bipush (v := 16) hx hb dX6_listChosen_41 (by decide) ?_
          refine lv_iload_n hx hb dX6_listChosen_43 rfl (lv_at hl 3 rfl) ?_
          refine lv_iconst (v := 4) hx hb dX6_listChosen_44 (by decide) ?_
          refine lv_irem hx hb dX6_listChosen_45 (by decide) ?_
          refine lv_imul hx hb dX6_listChosen_46 ?_
          refine lv_lshl (v := q_lshl (Int32.toInt64 v6) (16 * (x3 - x3 / 4 * 4))) hx hb dX6_listChosen_47 rfl ?_
          refine lv_lor hx hb dX6_listChosen_48 ?_
          refine ux_store_page hx hb hK hP hD hS hF dX6_listChosen_49 (fun u7 H locs hF hP hS => ?_)
          refine sx_iinc (d := 1) (k := 3) (lv2 := [(0, .ref (a 3)), (1, .int x1), (2, .int x2)]) hx hb hF dX6_listChosen_50 hl rfl (by decide) (by decide) rfl (fun v8 hF ls hl => ?_)
          refine lv_goto (tgt := 10) hx hb dX6_listChosen_53 (by decide) ?_
          exact hi10 x1 x2 v8 u7 ls (lv_sub hl [1, 2, 3, 0] rfl) hF _ _ hP hS
  unfold fX6_listChosen at hF
  refine lv_aload_n hx hb dX6_listChosen_0 rfl (lv_at hl 0 rfl) ?_
  refine gx_store_page hx hb hts hown hK hP fl_X6_37 dX6_listChosen_1 ?_
  refine lv_lconst (v := 0) hx hb dX6_listChosen_4 (by decide) ?_
  obtain ⟨r1, u2, hc3, hF⟩ := q_bnd_some hF
  refine sx_cv (Wd := (ax_W a cI L)) (σ1 := u2) (q_runS (Wd := (ax_W a cI L)) (σ := u) (As := [.ref (a 22), .long 0]) (rest := []) hx hb hml hown hts hK hP (kt_J7_fillJ_22 hD hc3) cw_X6_98 rfl rfl ⟨Nat.le_of_ble_eq_true rfl, Nat.le_of_ble_eq_true rfl⟩ rfl hl.1 rfl (Nat.le_of_ble_eq_true rfl) dX6_listChosen_5) hS (fun H locs hP hS => ?_)
  refine lv_iconst (v := 0) hx hb dX6_listChosen_8 (by decide) ?_
  refine lv_istore_n (lv' := [(3, .int 0), (0, .ref (a 3)), (1, .int o1), (2, .int o2)]) hx hb dX6_listChosen_9 rfl hl (by decide) rfl (fun ls hl => ?_)
  exact hB10 N o1 o2 0 u2 ls (lv_sub hl [1, 2, 3, 0] rfl) hF _ _ hP hS
set_option maxHeartbeats 4000000 in
set_option maxRecDepth 100000 in
theorem kt_X6_writeJournal {N : Nat} {l : Launch} {D : va_G} {a : Nat → Nat} {cI : Nat → ClassId} {L : Nat → Nat} (hD : ∀ σ, va_D (ax_A a) (ax_W a cI L σ)) {o1 : Int32} {u σ0 : q_St} {r0 : Int32} (hF : fX6_writeJournal L N o1 u = some (r0, σ0)) : Met l yX6_writeJournal (Cond.code yX6_writeJournal cX6_writeJournal 4 (some .boolean) :: q_T) ({ frames := 5, cells := 0, slots := 0, locals := 126 } : Room) (q_P D vwCl (ax_T cI) (ax_W a cI L) [.ref (a 3), .int o1] u) (q_Qi D vwCl (ax_W a cI L) (ax_A a) r0 σ0) 0 0 (ax_A a) := by
  refine Met.ofW (cc := cX6_writeJournal) (maxL := 4) (ret := (some .boolean)) (by decide) rfl ?_
  intro p e s m args below meth c s₁ B hml hv
  obtain ⟨rfl, hP, hK⟩ := hv
  have hx := B.exec
  have hb := B.bytes
  have hr := B.returns
  have hts := q_ts (atoms_spec (ws := Cond.code yX6_writeJournal cX6_writeJournal 4 (some .boolean) :: q_T) B.pre)
  have hown : s.vm.findClass RX6 = some m.cls := findClass_of_methodNamed B.named
  have hlocks := B.notSynchronized
  have hS : va_S (ax_A a) s.heap s.heap [] := va_S.rf
  have hl := lv_entry ([.ref (a 3), .int o1]) (n := 4) (Nat.le_of_ble_eq_true rfl)
  rw [lg_entry_eq]
  generalize (lg_sl ([.ref (a 3), .int o1]) ++ List.replicate (4 - (lg_sl ([.ref (a 3), .int o1])).length) Slot.unset).toArray = ls at hl ⊢
  have hl : lv_has ls 4 [(0, .ref (a 3)), (1, .int o1)] := hl
  have hB57 : ∀ (n : Nat) (x1 : Int32) (x2 : Int32) (x3 : Int32) (u : q_St) (ls : Array Slot), lv_has ls 4 [(0, .ref (a 3)), (1, .int x1), (2, .int x2), (3, .int x3)] → q_lp (fX6_writeJournal_b57 L N) (fun _ _ _ _ => none) n x1 x2 x3 u = some (r0, σ0) → ∀ (H : Heap) (locs : List Loc), va_P D vwCl (ax_W a cI L u) H → va_S (ax_A a) s.heap H locs → W p l e (headSpec (Cond.code yX6_writeJournal cX6_writeJournal 4 (some .boolean) :: q_T) ({ frames := 5, cells := 0, slots := 0, locals := 126 } : Room)).room s m ([.ref (a 3), .int o1] : List Value).toArray below meth c H locs 0 0 (MQ below (q_Qi D vwCl (ax_W a cI L) (ax_A a) r0 σ0) ([.ref (a 3), .int o1] : List Value).toArray s 0 0 (ax_A a)) (F0 m 57 ls []) := by
    intro n
    induction n with
    | zero => intro x1 x2 x3 u ls hl hF; exact absurd (show (none : Option (Int32 × q_St)) = some _ from hF) (fun h => nomatch h)
    | succ n hi57 =>
      intro x1 x2 x3 u ls hl hF _ _ hP hS
      obtain ⟨ih57, hih⟩ : ∃ q, q = q_lp (fX6_writeJournal_b57 L N) (fun _ _ _ _ => none) n := ⟨_, rfl⟩
      rw [← hih] at hi57
      have hF : fX6_writeJournal_b57 L N (q_lp (fX6_writeJournal_b57 L N) (fun _ _ _ _ => none) n) x1 x2 x3 u = some (r0, σ0) := hF
      rw [← hih] at hF
      clear hih
      unfold fX6_writeJournal_b57 at hF
      refine lv_iload_n hx hb dX6_writeJournal_57 rfl (lv_at hl 3 rfl) ?_
      refine lv_iload_n hx hb dX6_writeJournal_58 rfl (lv_at hl 1 rfl) ?_
      refine sx_icmp_ge (tgt := 96) hx hb hF dX6_writeJournal_59 (by decide) (fun hF => ?_) (fun hF => ?_)
      · refine lv_aload_n hx hb dX6_writeJournal_96 rfl (lv_at hl 0 rfl) ?_
        refine gx_store_page hx hb hts hown hK hP fl_X6_37 dX6_writeJournal_97 ?_
        refine lv_lconst (v := 0) hx hb dX6_writeJournal_100 (by decide) ?_
        obtain ⟨r2, u3, hc4, hF⟩ := q_bnd_some hF
        refine sx_cv (Wd := (ax_W a cI L)) (σ1 := u3) (q_runS (Wd := (ax_W a cI L)) (σ := u) (As := [.ref (a 22), .long 0]) (rest := []) hx hb hml hown hts hK hP (kt_J7_fillJ_22 hD hc4) cw_X6_98 rfl rfl ⟨Nat.le_of_ble_eq_true rfl, Nat.le_of_ble_eq_true rfl⟩ rfl hl.1 rfl (Nat.le_of_ble_eq_true rfl) dX6_writeJournal_101) hS (fun H locs hP hS => ?_)
        refine lv_aload_n hx hb dX6_writeJournal_104 rfl (lv_at hl 0 rfl) ?_
        refine gx_store_volume hx hb hts hown hK hP fl_X6_15 dX6_writeJournal_105 ?_
        refine lv_iload_n hx hb dX6_writeJournal_108 rfl (lv_at hl 2 rfl) ?_
        refine lv_iload_n hx hb dX6_writeJournal_109 rfl (lv_at hl 1 rfl) ?_
        refine lv_iadd hx hb dX6_writeJournal_110 ?_
        refine lv_aload_n hx hb dX6_writeJournal_111 rfl (lv_at hl 0 rfl) ?_
        refine gx_store_page hx hb hts hown hK hP fl_X6_37 dX6_writeJournal_112 ?_
        refine lv_iconst (v := 0) hx hb dX6_writeJournal_115 (by decide) ?_
        obtain ⟨r5, u6, hc7, hF⟩ := q_bnd_some hF
        refine sx_ci (Wd := (ax_W a cI L)) (σ1 := u6) (q_runV (Wd := (ax_W a cI L)) (σ := u3) (q0 := 2) (ci := 8) (T := TX8) (N := 15) (As := [.int (x2 + x1), .ref (a 22), .int 0]) (rest := []) hx hb hml hown hts hK hP (kt_X8_write_22 hD hc7) cw_X6_87 rfl rfl ⟨Nat.le_of_ble_eq_true rfl, Nat.le_of_ble_eq_true rfl⟩ rfl rfl rfl hl.1 rfl (Nat.le_of_ble_eq_true rfl) dX6_writeJournal_116) hS (fun H locs hP hS => ?_)
        exact sx_retzv (Wd := (ax_W a cI L)) (σ := u6) hx hb hr hF hP hS hlocks dX6_writeJournal_119
      · refine lv_aload_n hx hb dX6_writeJournal_62 rfl (lv_at hl 0 rfl) ?_
        refine gx_store_volume hx hb hts hown hK hP fl_X6_15 dX6_writeJournal_63 ?_
        refine lv_iload_n hx hb dX6_writeJournal_66 rfl (lv_at hl 2 rfl) ?_
        refine lv_iload_n hx hb dX6_writeJournal_67 rfl (lv_at hl 3 rfl) ?_
        refine lv_iadd hx hb dX6_writeJournal_68 ?_
        refine lv_aload_n hx hb dX6_writeJournal_69 rfl (lv_at hl 0 rfl) ?_
        refine gx_store_memory hx hb hts hown hK hP fl_X6_25 dX6_writeJournal_70 ?_
        refine lv_aload_n hx hb dX6_writeJournal_73 rfl (lv_at hl 0 rfl) ?_
        refine gx_store_chosen hx hb hts hown hK hP fl_X6_33 dX6_writeJournal_74 ?_
        refine lv_iload_n hx hb dX6_writeJournal_77 rfl (lv_at hl 3 rfl) ?_
        refine lx_store_chosen hx hb hK hP hF dX6_writeJournal_78 (fun v8 hF => ?_)
        refine lv_bipush (v := 8) hx hb dX6_writeJournal_79 (by decide) ?_
        refine lv_imul hx hb dX6_writeJournal_81 ?_
        obtain ⟨r9, u10, hc11, hF⟩ := q_bnd_some hF
        refine sx_ci (Wd := (ax_W a cI L)) (σ1 := u10) (q_runV (Wd := (ax_W a cI L)) (σ := u) (q0 := 2) (ci := 8) (T := TX8) (N := 15) (As := [.int (x2 + x3), .ref (a 19), .int (v8 * 8)]) (rest := []) hx hb hml hown hts hK hP (kt_X8_write_19 hD hc11) cw_X6_87 rfl rfl ⟨Nat.le_of_ble_eq_true rfl, Nat.le_of_ble_eq_true rfl⟩ rfl rfl rfl hl.1 rfl (Nat.le_of_ble_eq_true rfl) dX6_writeJournal_82) hS (fun H locs hP hS => ?_)
        refine sx_if_ne (tgt := 90) hx hb hF dX6_writeJournal_85 (by decide) (fun hF => ?_) (fun hF => ?_)
        · refine sx_iinc (d := 1) (k := 3) (lv2 := [(0, .ref (a 3)), (1, .int x1), (2, .int x2)]) hx hb hF dX6_writeJournal_90 hl rfl (by decide) (by decide) rfl (fun v12 hF ls hl => ?_)
          refine lv_goto (tgt := 57) hx hb dX6_writeJournal_93 (by decide) ?_
          exact hi57 x1 x2 v12 u10 ls (lv_sub hl [1, 2, 3, 0] rfl) hF _ _ hP hS
        · refine lv_iconst (v := 0) hx hb dX6_writeJournal_88 (by decide) ?_
          exact sx_retz (Wd := (ax_W a cI L)) (σ := u10) hx hb hr (by decide) hF hP hS hlocks dX6_writeJournal_89
  have hB12 : ∀ (n : Nat) (x1 : Int32) (x2 : Int32) (x3 : Int32) (u : q_St) (ls : Array Slot), lv_has ls 4 [(0, .ref (a 3)), (1, .int x1), (2, .int x2), (3, .int x3)] → q_lp (fX6_writeJournal_b12 L N) (fun _ _ _ _ => none) n x1 x2 x3 u = some (r0, σ0) → ∀ (H : Heap) (locs : List Loc), va_P D vwCl (ax_W a cI L u) H → va_S (ax_A a) s.heap H locs → W p l e (headSpec (Cond.code yX6_writeJournal cX6_writeJournal 4 (some .boolean) :: q_T) ({ frames := 5, cells := 0, slots := 0, locals := 126 } : Room)).room s m ([.ref (a 3), .int o1] : List Value).toArray below meth c H locs 0 0 (MQ below (q_Qi D vwCl (ax_W a cI L) (ax_A a) r0 σ0) ([.ref (a 3), .int o1] : List Value).toArray s 0 0 (ax_A a)) (F0 m 12 ls []) := by
    intro n
    induction n with
    | zero => intro x1 x2 x3 u ls hl hF; exact absurd (show (none : Option (Int32 × q_St)) = some _ from hF) (fun h => nomatch h)
    | succ n hi12 =>
      intro x1 x2 x3 u ls hl hF _ _ hP hS
      obtain ⟨ih12, hih⟩ : ∃ q, q = q_lp (fX6_writeJournal_b12 L N) (fun _ _ _ _ => none) n := ⟨_, rfl⟩
      rw [← hih] at hi12
      have hF : fX6_writeJournal_b12 L N (q_lp (fX6_writeJournal_b12 L N) (fun _ _ _ _ => none) n) x1 x2 x3 u = some (r0, σ0) := hF
      rw [← hih] at hF
      clear hih
      unfold fX6_writeJournal_b12 at hF
      refine lv_iload_n hx hb dX6_writeJournal_12 rfl (lv_at hl 3 rfl) ?_
      refine lv_iload_n hx hb dX6_writeJournal_13 rfl (lv_at hl 2 rfl) ?_
      refine sx_icmp_ge (tgt := 55) hx hb hF dX6_writeJournal_14 (by decide) (fun hF => ?_) (fun hF => ?_)
      · refine lv_iconst (v := 0) hx hb dX6_writeJournal_55 (by decide) ?_
        refine lv_istore_n (lv' := [(3, .int 0), (0, .ref (a 3)), (1, .int x1), (2, .int x2)]) hx hb dX6_writeJournal_56 rfl hl (by decide) rfl (fun ls hl => ?_)
        exact hB57 N x1 x2 0 u ls (lv_sub hl [1, 2, 3, 0] rfl) hF _ _ hP hS
      · refine lv_aload_n hx hb dX6_writeJournal_17 rfl (lv_at hl 0 rfl) ?_
        refine lv_iload_n hx hb dX6_writeJournal_18 rfl (lv_at hl 3 rfl) ?_
        refine lv_bipush (v := 24) hx hb dX6_writeJournal_19 (by decide) ?_
        refine lv_imul hx hb dX6_writeJournal_21 ?_
        refine lv_iload_n hx hb dX6_writeJournal_22 rfl (lv_at hl 1 rfl) ?_
        obtain ⟨r13, u14, hc15, hF⟩ := q_bnd_some hF
        refine sx_cv (Wd := (ax_W a cI L)) (σ1 := u14) (q_runV (Wd := (ax_W a cI L)) (σ := u) (q0 := 3) (ci := 6) (T := TX6) (N := 9) (As := [.int (x3 * 24), .int x1]) (rest := []) hx hb hml hown hts hK hP (kt_X6_listChosen hD hc15) cw_X6_94 rfl rfl ⟨Nat.le_of_ble_eq_true rfl, Nat.le_of_ble_eq_true rfl⟩ rfl rfl rfl hl.1 rfl (Nat.le_of_ble_eq_true rfl) dX6_writeJournal_23) hS (fun H locs hP hS => ?_)
        refine lv_aload_n hx hb dX6_writeJournal_26 rfl (lv_at hl 0 rfl) ?_
        refine gx_store_volume hx hb hts hown hK hP fl_X6_15 dX6_writeJournal_27 ?_
        refine lv_iload_n hx hb dX6_writeJournal_30 rfl (lv_at hl 3 rfl) ?_
        refine lv_aload_n hx hb dX6_writeJournal_31 rfl (lv_at hl 0 rfl) ?_
        refine gx_store_page hx hb hts hown hK hP fl_X6_37 dX6_writeJournal_32 ?_
        refine lv_iconst (v := 0) hx hb dX6_writeJournal_35 (by decide) ?_
        obtain ⟨r16, u17, hc18, hF⟩ := q_bnd_some hF
        refine sx_ci (Wd := (ax_W a cI L)) (σ1 := u17) (q_runV (Wd := (ax_W a cI L)) (σ := u14) (q0 := 2) (ci := 8) (T := TX8) (N := 15) (As := [.int x3, .ref (a 22), .int 0]) (rest := []) hx hb hml hown hts hK hP (kt_X8_write_22 hD hc18) cw_X6_87 rfl rfl ⟨Nat.le_of_ble_eq_true rfl, Nat.le_of_ble_eq_true rfl⟩ rfl rfl rfl hl.1 rfl (Nat.le_of_ble_eq_true rfl) dX6_writeJournal_36) hS (fun H locs hP hS => ?_)
        refine sx_if_ne (tgt := 44) hx hb hF dX6_writeJournal_39 (by decide) (fun hF => ?_) (fun hF => ?_)
        · refine lv_aload_n hx hb dX6_writeJournal_44 rfl (lv_at hl 0 rfl) ?_
          refine lv_iconst (v := 0) hx hb dX6_writeJournal_45 (by decide) ?_
          refine px_store_told_0 hx hb hts hown hK hP fl_X6_81 hD hS hF dX6_writeJournal_46 (fun u19 H locs hF hP hS => ?_)
          refine sx_iinc (d := 1) (k := 3) (lv2 := [(0, .ref (a 3)), (1, .int x1), (2, .int x2)]) hx hb hF dX6_writeJournal_49 hl rfl (by decide) (by decide) rfl (fun v20 hF ls hl => ?_)
          refine lv_goto (tgt := 12) hx hb dX6_writeJournal_52 (by decide) ?_
          exact hi12 x1 x2 v20 u19 ls (lv_sub hl [1, 2, 3, 0] rfl) hF _ _ hP hS
        · refine lv_iconst (v := 0) hx hb dX6_writeJournal_42 (by decide) ?_
          exact sx_retz (Wd := (ax_W a cI L)) (σ := u17) hx hb hr (by decide) hF hP hS hlocks dX6_writeJournal_43
  unfold fX6_writeJournal at hF
  refine lv_iload_n hx hb dX6_writeJournal_0 rfl (lv_at hl 1 rfl) ?_
  refine lv_bipush (v := 24) hx hb dX6_writeJournal_1 (by decide) ?_
  refine lv_iadd hx hb dX6_writeJournal_3 ?_
  refine lv_iconst (v := 1) hx hb dX6_writeJournal_4 (by decide) ?_
  refine lv_isub hx hb dX6_writeJournal_5 ?_
  refine lv_bipush (v := 24) hx hb dX6_writeJournal_6 (by decide) ?_
  refine lv_idiv hx hb dX6_writeJournal_8 (by decide) ?_
  refine sx_istore_n (lv2 := [(0, .ref (a 3)), (1, .int o1)]) hx hb hF dX6_writeJournal_9 rfl hl (by decide) rfl (fun v1 hF ls hl => ?_)
  refine lv_iconst (v := 0) hx hb dX6_writeJournal_10 (by decide) ?_
  refine lv_istore_n (lv' := [(3, .int 0), (2, .int v1), (0, .ref (a 3)), (1, .int o1)]) hx hb dX6_writeJournal_11 rfl hl (by decide) rfl (fun ls hl => ?_)
  exact hB12 N o1 v1 0 u ls (lv_sub hl [2, 3, 1, 0] rfl) hF _ _ hP hS
set_option maxHeartbeats 4000000 in
set_option maxRecDepth 100000 in
theorem kt_X6_forgetAll {N : Nat} {l : Launch} {D : va_G} {a : Nat → Nat} {cI : Nat → ClassId} {L : Nat → Nat} (hD : ∀ σ, va_D (ax_A a) (ax_W a cI L σ))  {u σ0 : q_St} {r0 : Unit} (hF : fX6_forgetAll L N u = some (r0, σ0)) : Met l yX6_forgetAll (Cond.code yX6_forgetAll cX6_forgetAll 2 none :: q_T) ({ frames := 0, cells := 0, slots := 0, locals := 0 } : Room) (q_P D vwCl (ax_T cI) (ax_W a cI L) [.ref (a 3)] u) (q_Qv D vwCl (ax_W a cI L) (ax_A a) σ0) 0 0 (ax_A a) := by
  refine Met.ofW (cc := cX6_forgetAll) (maxL := 2) (ret := none) (by decide) rfl ?_
  intro p e s m args below meth c s₁ B hml hv
  obtain ⟨rfl, hP, hK⟩ := hv
  have hx := B.exec
  have hb := B.bytes
  have hr := B.returns
  have hts := q_ts (atoms_spec (ws := Cond.code yX6_forgetAll cX6_forgetAll 2 none :: q_T) B.pre)
  have hown : s.vm.findClass RX6 = some m.cls := findClass_of_methodNamed B.named
  have hlocks := B.notSynchronized
  have hS : va_S (ax_A a) s.heap s.heap [] := va_S.rf
  have hl := lv_entry ([.ref (a 3)]) (n := 2) (Nat.le_of_ble_eq_true rfl)
  rw [lg_entry_eq]
  generalize (lg_sl ([.ref (a 3)]) ++ List.replicate (2 - (lg_sl ([.ref (a 3)])).length) Slot.unset).toArray = ls at hl ⊢
  have hl : lv_has ls 2 [(0, .ref (a 3))] := hl
  have hB2 : ∀ (n : Nat) (x1 : Int32) (u : q_St) (ls : Array Slot), lv_has ls 2 [(0, .ref (a 3)), (1, .int x1)] → q_lp (fX6_forgetAll_b2 L N) (fun _ _ => none) n x1 u = some (r0, σ0) → ∀ (H : Heap) (locs : List Loc), va_P D vwCl (ax_W a cI L u) H → va_S (ax_A a) s.heap H locs → W p l e (headSpec (Cond.code yX6_forgetAll cX6_forgetAll 2 none :: q_T) ({ frames := 0, cells := 0, slots := 0, locals := 0 } : Room)).room s m ([.ref (a 3)] : List Value).toArray below meth c H locs 0 0 (MQ below (q_Qv D vwCl (ax_W a cI L) (ax_A a) σ0) ([.ref (a 3)] : List Value).toArray s 0 0 (ax_A a)) (F0 m 2 ls []) := by
    intro n
    induction n with
    | zero => intro x1 u ls hl hF; exact absurd (show (none : Option (Unit × q_St)) = some _ from hF) (fun h => nomatch h)
    | succ n hi2 =>
      intro x1 u ls hl hF _ _ hP hS
      obtain ⟨ih2, hih⟩ : ∃ q, q = q_lp (fX6_forgetAll_b2 L N) (fun _ _ => none) n := ⟨_, rfl⟩
      rw [← hih] at hi2
      have hF : fX6_forgetAll_b2 L N (q_lp (fX6_forgetAll_b2 L N) (fun _ _ => none) n) x1 u = some (r0, σ0) := hF
      rw [← hih] at hF
      clear hih
      unfold fX6_forgetAll_b2 at hF
      refine lv_iload_n hx hb dX6_forgetAll_2 rfl (lv_at hl 1 rfl) ?_
      refine lv_aload_n hx hb dX6_forgetAll_3 rfl (lv_at hl 0 rfl) ?_
      refine gx_store_dirty hx hb hts hown hK hP fl_X6_29 dX6_forgetAll_4 ?_
      refine nx_store_dirty hx hb hK hP dX6_forgetAll_7 ?_
      refine sx_icmp_ge (tgt := 24) hx hb hF dX6_forgetAll_8 (by decide) (fun hF => ?_) (fun hF => ?_)
      · refine lv_aload_n hx hb dX6_forgetAll_24 rfl (lv_at hl 0 rfl) ?_
        refine lv_iconst (v := 0) hx hb dX6_forgetAll_25 (by decide) ?_
        refine px_store_dirtyCount hx hb hts hown hK hP fl_X6_55 hD hS hF dX6_forgetAll_26 (fun u1 H locs hF hP hS => ?_)
        exact sx_retv (Wd := (ax_W a cI L)) (σ := u1) hx hb hr hF hP hS hlocks dX6_forgetAll_29
      · refine lv_aload_n hx hb dX6_forgetAll_11 rfl (lv_at hl 0 rfl) ?_
        refine gx_store_dirty hx hb hts hown hK hP fl_X6_29 dX6_forgetAll_12 ?_
        refine lv_iload_n hx hb dX6_forgetAll_15 rfl (lv_at hl 1 rfl) ?_
        refine lv_iconst (v := 0) hx hb dX6_forgetAll_16 (by decide) ?_
        refine ux_store_dirty hx hb hK hP hD hS hF dX6_forgetAll_17 (fun u2 H locs hF hP hS => ?_)
        refine sx_iinc (d := 1) (k := 1) (lv2 := [(0, .ref (a 3))]) hx hb hF dX6_forgetAll_18 hl rfl (by decide) (by decide) rfl (fun v3 hF ls hl => ?_)
        refine lv_goto (tgt := 2) hx hb dX6_forgetAll_21 (by decide) ?_
        exact hi2 v3 u2 ls (lv_sub hl [1, 0] rfl) hF _ _ hP hS
  unfold fX6_forgetAll at hF
  refine lv_iconst (v := 0) hx hb dX6_forgetAll_0 (by decide) ?_
  refine lv_istore_n (lv' := [(1, .int 0), (0, .ref (a 3))]) hx hb dX6_forgetAll_1 rfl hl (by decide) rfl (fun ls hl => ?_)
  exact hB2 N 0 u ls (lv_sub hl [1, 0] rfl) hF _ _ hP hS
set_option maxHeartbeats 4000000 in
set_option maxRecDepth 100000 in
theorem kt_X6_commitOver {N : Nat} {l : Launch} {D : va_G} {a : Nat → Nat} {cI : Nat → ClassId} {L : Nat → Nat} (hD : ∀ σ, va_D (ax_A a) (ax_W a cI L σ)) {o1 : Int32} {u σ0 : q_St} {r0 : Int32} (hF : fX6_commitOver L N o1 u = some (r0, σ0)) : Met l yX6_commitOver (Cond.code yX6_commitOver cX6_commitOver 4 (some .boolean) :: q_T) ({ frames := 6, cells := 0, slots := 0, locals := 149 } : Room) (q_P D vwCl (ax_T cI) (ax_W a cI L) [.ref (a 3), .int o1] u) (q_Qi D vwCl (ax_W a cI L) (ax_A a) r0 σ0) 0 0 (ax_A a) := by
  refine Met.ofW (cc := cX6_commitOver) (maxL := 4) (ret := (some .boolean)) (by decide) rfl ?_
  intro p e s m args below meth c s₁ B hml hv
  obtain ⟨rfl, hP, hK⟩ := hv
  have hx := B.exec
  have hb := B.bytes
  have hr := B.returns
  have hts := q_ts (atoms_spec (ws := Cond.code yX6_commitOver cX6_commitOver 4 (some .boolean) :: q_T) B.pre)
  have hown : s.vm.findClass RX6 = some m.cls := findClass_of_methodNamed B.named
  have hlocks := B.notSynchronized
  have hS : va_S (ax_A a) s.heap s.heap [] := va_S.rf
  have hl := lv_entry ([.ref (a 3), .int o1]) (n := 4) (Nat.le_of_ble_eq_true rfl)
  rw [lg_entry_eq]
  generalize (lg_sl ([.ref (a 3), .int o1]) ++ List.replicate (4 - (lg_sl ([.ref (a 3), .int o1])).length) Slot.unset).toArray = ls at hl ⊢
  have hl : lv_has ls 4 [(0, .ref (a 3)), (1, .int o1)] := hl
  have hB96 : ∀ (n : Nat) (x2 : Int32) (x3 : Int32) (u : q_St) (ls : Array Slot), lv_has ls 4 [(0, .ref (a 3)), (2, .int x2), (3, .int x3)] → q_lp (fX6_commitOver_b96 L N) (fun _ _ _ => none) n x2 x3 u = some (r0, σ0) → ∀ (H : Heap) (locs : List Loc), va_P D vwCl (ax_W a cI L u) H → va_S (ax_A a) s.heap H locs → W p l e (headSpec (Cond.code yX6_commitOver cX6_commitOver 4 (some .boolean) :: q_T) ({ frames := 6, cells := 0, slots := 0, locals := 149 } : Room)).room s m ([.ref (a 3), .int o1] : List Value).toArray below meth c H locs 0 0 (MQ below (q_Qi D vwCl (ax_W a cI L) (ax_A a) r0 σ0) ([.ref (a 3), .int o1] : List Value).toArray s 0 0 (ax_A a)) (F0 m 96 ls []) := by
    intro n
    induction n with
    | zero => intro x2 x3 u ls hl hF; exact absurd (show (none : Option (Int32 × q_St)) = some _ from hF) (fun h => nomatch h)
    | succ n hi96 =>
      intro x2 x3 u ls hl hF _ _ hP hS
      obtain ⟨ih96, hih⟩ : ∃ q, q = q_lp (fX6_commitOver_b96 L N) (fun _ _ _ => none) n := ⟨_, rfl⟩
      rw [← hih] at hi96
      have hF : fX6_commitOver_b96 L N (q_lp (fX6_commitOver_b96 L N) (fun _ _ _ => none) n) x2 x3 u = some (r0, σ0) := hF
      rw [← hih] at hF
      clear hih
      unfold fX6_commitOver_b96 at hF
      refine lv_iload_n hx hb dX6_commitOver_96 rfl (lv_at hl 2 rfl) ?_
      refine lv_iload_n hx hb dX6_commitOver_97 rfl (lv_at hl 1 rfl) ?_
      refine sx_icmp_ge (tgt := 138) hx hb hF dX6_commitOver_98 (by decide) (fun hF => ?_) (fun hF => ?_)
      · refine lv_aload_n hx hb dX6_commitOver_138 rfl (lv_at hl 0 rfl) ?_
        obtain ⟨r6, u7, hc8, hF⟩ := q_bnd_some hF
        refine sx_cv (Wd := (ax_W a cI L)) (σ1 := u7) (q_runV (Wd := (ax_W a cI L)) (σ := u) (q0 := 3) (ci := 6) (T := TX6) (N := 9) (As := []) (rest := []) hx hb hml hown hts hK hP (kt_X6_forgetAll hD hc8) cw_X6_91 rfl rfl ⟨Nat.le_of_ble_eq_true rfl, Nat.le_of_ble_eq_true rfl⟩ rfl rfl rfl hl.1 rfl (Nat.le_of_ble_eq_true rfl) dX6_commitOver_139) hS (fun H locs hP hS => ?_)
        refine lv_iconst (v := 1) hx hb dX6_commitOver_142 (by decide) ?_
        exact sx_retz (Wd := (ax_W a cI L)) (σ := u7) hx hb hr (by decide) hF hP hS hlocks dX6_commitOver_143
      · refine lv_aload_n hx hb dX6_commitOver_101 rfl (lv_at hl 0 rfl) ?_
        refine gx_store_volume hx hb hts hown hK hP fl_X6_15 dX6_commitOver_102 ?_
        refine lv_aload_n hx hb dX6_commitOver_105 rfl (lv_at hl 0 rfl) ?_
        refine gx_store_chosen hx hb hts hown hK hP fl_X6_33 dX6_commitOver_106 ?_
        refine lv_iload_n hx hb dX6_commitOver_109 rfl (lv_at hl 2 rfl) ?_
        refine lx_store_chosen hx hb hK hP hF dX6_commitOver_110 (fun v9 hF => ?_)
        refine lv_aload_n hx hb dX6_commitOver_111 rfl (lv_at hl 0 rfl) ?_
        refine gx_store_memory hx hb hts hown hK hP fl_X6_25 dX6_commitOver_112 ?_
        refine lv_aload_n hx hb dX6_commitOver_115 rfl (lv_at hl 0 rfl) ?_
        refine gx_store_chosen hx hb hts hown hK hP fl_X6_33 dX6_commitOver_116 ?_
        refine lv_iload_n hx hb dX6_commitOver_119 rfl (lv_at hl 2 rfl) ?_
        refine lx_store_chosen hx hb hK hP hF dX6_commitOver_120 (fun v10 hF => ?_)
        refine lv_bipush (v := 8) hx hb dX6_commitOver_121 (by decide) ?_
        refine lv_imul hx hb dX6_commitOver_123 ?_
        obtain ⟨r11, u12, hc13, hF⟩ := q_bnd_some hF
        refine sx_ci (Wd := (ax_W a cI L)) (σ1 := u12) (q_runV (Wd := (ax_W a cI L)) (σ := u) (q0 := 2) (ci := 8) (T := TX8) (N := 15) (As := [.int v9, .ref (a 19), .int (v10 * 8)]) (rest := []) hx hb hml hown hts hK hP (kt_X8_write_19 hD hc13) cw_X6_87 rfl rfl ⟨Nat.le_of_ble_eq_true rfl, Nat.le_of_ble_eq_true rfl⟩ rfl rfl rfl hl.1 rfl (Nat.le_of_ble_eq_true rfl) dX6_commitOver_124) hS (fun H locs hP hS => ?_)
        refine sx_if_ne (tgt := 132) hx hb hF dX6_commitOver_127 (by decide) (fun hF => ?_) (fun hF => ?_)
        · refine sx_iinc (d := 1) (k := 2) (lv2 := [(0, .ref (a 3)), (2, .int x2)]) hx hb hF dX6_commitOver_132 hl rfl (by decide) (by decide) rfl (fun v14 hF ls hl => ?_)
          refine lv_goto (tgt := 96) hx hb dX6_commitOver_135 (by decide) ?_
          exact hi96 x2 v14 u12 ls (lv_sub hl [1, 2, 0] rfl) hF _ _ hP hS
        · refine lv_iconst (v := 0) hx hb dX6_commitOver_130 (by decide) ?_
          exact sx_retz (Wd := (ax_W a cI L)) (σ := u12) hx hb hr (by decide) hF hP hS hlocks dX6_commitOver_131
  have hB63 : ∀ (ih26 : Int32 → Int32 → q_St → Option (Int32 × q_St)) (hi26 : ∀ (x2 : Int32) (x3 : Int32) (u : q_St) (ls : Array Slot), lv_has ls 4 [(0, .ref (a 3)), (2, .int x2), (3, .int x3)] → ih26 x2 x3 u = some (r0, σ0) → ∀ (H : Heap) (locs : List Loc), va_P D vwCl (ax_W a cI L u) H → va_S (ax_A a) s.heap H locs → W p l e (headSpec (Cond.code yX6_commitOver cX6_commitOver 4 (some .boolean) :: q_T) ({ frames := 6, cells := 0, slots := 0, locals := 149 } : Room)).room s m ([.ref (a 3), .int o1] : List Value).toArray below meth c H locs 0 0 (MQ below (q_Qi D vwCl (ax_W a cI L) (ax_A a) r0 σ0) ([.ref (a 3), .int o1] : List Value).toArray s 0 0 (ax_A a)) (F0 m 26 ls [])), ∀ (x2 : Int32) (x3 : Int32) (u : q_St) (ls : Array Slot), lv_has ls 4 [(0, .ref (a 3)), (2, .int x2), (3, .int x3)] → fX6_commitOver_b63 L N ih26 x2 x3 u = some (r0, σ0) → ∀ (H : Heap) (locs : List Loc), va_P D vwCl (ax_W a cI L u) H → va_S (ax_A a) s.heap H locs → W p l e (headSpec (Cond.code yX6_commitOver cX6_commitOver 4 (some .boolean) :: q_T) ({ frames := 6, cells := 0, slots := 0, locals := 149 } : Room)).room s m ([.ref (a 3), .int o1] : List Value).toArray below meth c H locs 0 0 (MQ below (q_Qi D vwCl (ax_W a cI L) (ax_A a) r0 σ0) ([.ref (a 3), .int o1] : List Value).toArray s 0 0 (ax_A a)) (F0 m 63 ls []) := by
    intro ih26 hi26 x2 x3 u ls hl hF _ _ hP hS
    unfold fX6_commitOver_b63 at hF
    refine sx_iinc (d := 1) (k := 2) (lv2 := [(0, .ref (a 3)), (2, .int x2)]) hx hb hF dX6_commitOver_63 hl rfl (by decide) (by decide) rfl (fun v16 hF ls hl => ?_)
    refine lv_goto (tgt := 26) hx hb dX6_commitOver_66 (by decide) ?_
    exact hi26 x2 v16 u ls (lv_sub hl [1, 2, 0] rfl) hF _ _ hP hS
  have hB26 : ∀ (n : Nat) (x2 : Int32) (x3 : Int32) (u : q_St) (ls : Array Slot), lv_has ls 4 [(0, .ref (a 3)), (2, .int x2), (3, .int x3)] → q_lp (fX6_commitOver_b26 L N) (fun _ _ _ => none) n x2 x3 u = some (r0, σ0) → ∀ (H : Heap) (locs : List Loc), va_P D vwCl (ax_W a cI L u) H → va_S (ax_A a) s.heap H locs → W p l e (headSpec (Cond.code yX6_commitOver cX6_commitOver 4 (some .boolean) :: q_T) ({ frames := 6, cells := 0, slots := 0, locals := 149 } : Room)).room s m ([.ref (a 3), .int o1] : List Value).toArray below meth c H locs 0 0 (MQ below (q_Qi D vwCl (ax_W a cI L) (ax_A a) r0 σ0) ([.ref (a 3), .int o1] : List Value).toArray s 0 0 (ax_A a)) (F0 m 26 ls []) := by
    intro n
    induction n with
    | zero => intro x2 x3 u ls hl hF; exact absurd (show (none : Option (Int32 × q_St)) = some _ from hF) (fun h => nomatch h)
    | succ n hi26 =>
      intro x2 x3 u ls hl hF _ _ hP hS
      obtain ⟨ih26, hih⟩ : ∃ q, q = q_lp (fX6_commitOver_b26 L N) (fun _ _ _ => none) n := ⟨_, rfl⟩
      rw [← hih] at hi26
      have hF : fX6_commitOver_b26 L N (q_lp (fX6_commitOver_b26 L N) (fun _ _ _ => none) n) x2 x3 u = some (r0, σ0) := hF
      rw [← hih] at hF
      clear hih
      unfold fX6_commitOver_b26 at hF
      refine lv_iload_n hx hb dX6_commitOver_26 rfl (lv_at hl 2 rfl) ?_
      refine lv_aload_n hx hb dX6_commitOver_27 rfl (lv_at hl 0 rfl) ?_
      refine gx_store_dirty hx hb hts hown hK hP fl_X6_29 dX6_commitOver_28 ?_
      refine nx_store_dirty hx hb hK hP dX6_commitOver_31 ?_
      refine sx_icmp_ge (tgt := 69) hx hb hF dX6_commitOver_32 (by decide) (fun hF => ?_) (fun hF => ?_)
      · refine lv_aload_n hx hb dX6_commitOver_69 rfl (lv_at hl 0 rfl) ?_
        refine lv_iload_n hx hb dX6_commitOver_70 rfl (lv_at hl 1 rfl) ?_
        obtain ⟨r1, u2, hc3, hF⟩ := q_bnd_some hF
        refine sx_ci (Wd := (ax_W a cI L)) (σ1 := u2) (q_runV (Wd := (ax_W a cI L)) (σ := u) (q0 := 3) (ci := 6) (T := TX6) (N := 9) (As := [.int x2]) (rest := []) hx hb hml hown hts hK hP (kt_X6_writeJournal hD hc3) cw_X6_77 rfl rfl ⟨Nat.le_of_ble_eq_true rfl, Nat.le_of_ble_eq_true rfl⟩ rfl rfl rfl hl.1 rfl (Nat.le_of_ble_eq_true rfl) dX6_commitOver_71) hS (fun H locs hP hS => ?_)
        refine sx_if_ne (tgt := 79) hx hb hF dX6_commitOver_74 (by decide) (fun hF => ?_) (fun hF => ?_)
        · refine lv_aload_n hx hb dX6_commitOver_79 rfl (lv_at hl 0 rfl) ?_
          refine lv_iconst (v := 1) hx hb dX6_commitOver_80 (by decide) ?_
          refine px_store_told_1 hx hb hts hown hK hP fl_X6_81 hD hS hF dX6_commitOver_81 (fun u4 H locs hF hP hS => ?_)
          refine lv_aload_n hx hb dX6_commitOver_84 rfl (lv_at hl 0 rfl) ?_
          refine lv_dup hx hb dX6_commitOver_85 rfl ?_
          refine gx_store_commits hx hb hts hown hK hP fl_X6_84 dX6_commitOver_86 ?_
          refine lv_iconst (v := 1) hx hb dX6_commitOver_89 (by decide) ?_
          refine lv_iadd hx hb dX6_commitOver_90 ?_
          refine px_store_commits hx hb hts hown hK hP fl_X6_84 hD hS hF dX6_commitOver_91 (fun u5 H locs hF hP hS => ?_)
          refine lv_iconst (v := 0) hx hb dX6_commitOver_94 (by decide) ?_
          refine lv_istore_n (lv' := [(3, .int 0), (0, .ref (a 3)), (2, .int x2)]) hx hb dX6_commitOver_95 rfl hl (by decide) rfl (fun ls hl => ?_)
          exact hB96 N x2 0 u5 ls (lv_sub hl [1, 2, 0] rfl) hF _ _ hP hS
        · refine lv_iconst (v := 0) hx hb dX6_commitOver_77 (by decide) ?_
          exact sx_retz (Wd := (ax_W a cI L)) (σ := u2) hx hb hr (by decide) hF hP hS hlocks dX6_commitOver_78
      · refine lv_aload_n hx hb dX6_commitOver_35 rfl (lv_at hl 0 rfl) ?_
        refine gx_store_dirty hx hb hts hown hK hP fl_X6_29 dX6_commitOver_36 ?_
        refine lv_iload_n hx hb dX6_commitOver_39 rfl (lv_at hl 2 rfl) ?_
        refine lx_store_dirty hx hb hK hP hF dX6_commitOver_40 (fun v15 hF => ?_)
        refine sx_if_eq (tgt := 63) hx hb hF dX6_commitOver_41 (by decide) (fun hF => ?_) (fun hF => ?_)
        · exact hB63 ih26 hi26 x2 x3 u ls (lv_sub hl [0, 1, 2] rfl) hF _ _ hP hS
        · refine lv_iload_n hx hb dX6_commitOver_44 rfl (lv_at hl 1 rfl) ?_
          refine lv_aload_n hx hb dX6_commitOver_45 rfl (lv_at hl 0 rfl) ?_
          refine gx_store_chosen hx hb hts hown hK hP fl_X6_33 dX6_commitOver_46 ?_
          refine nx_store_chosen hx hb hK hP dX6_commitOver_49 ?_
          refine sx_icmp_ge (tgt := 63) hx hb hF dX6_commitOver_50 (by decide) (fun hF => ?_) (fun hF => ?_)
          · exact hB63 ih26 hi26 x2 x3 u ls (lv_sub hl [0, 1, 2] rfl) hF _ _ hP hS
          · refine lv_aload_n hx hb dX6_commitOver_53 rfl (lv_at hl 0 rfl) ?_
            refine gx_store_chosen hx hb hts hown hK hP fl_X6_33 dX6_commitOver_54 ?_
            refine lv_iload_n hx hb dX6_commitOver_57 rfl (lv_at hl 1 rfl) ?_
            refine lv_iload_n hx hb dX6_commitOver_58 rfl (lv_at hl 2 rfl) ?_
            refine ux_store_chosen hx hb hK hP hD hS hF dX6_commitOver_59 (fun u17 H locs hF hP hS => ?_)
            refine sx_iinc (d := 1) (k := 1) (lv2 := [(0, .ref (a 3)), (3, .int x3)]) hx hb hF dX6_commitOver_60 hl rfl (by decide) (by decide) rfl (fun v18 hF ls hl => ?_)
            exact hB63 ih26 hi26 v18 x3 u17 ls (lv_sub hl [1, 0, 2] rfl) hF _ _ hP hS
  unfold fX6_commitOver at hF
  refine lv_aload_n hx hb dX6_commitOver_0 rfl (lv_at hl 0 rfl) ?_
  refine gx_store_disk hx hb hts hown hK hP fl_X6_9 dX6_commitOver_1 ?_
  refine gx_disk_on hx hb hts hown hK hP fl_X6_73 dX6_commitOver_4 ?_
  refine sx_if_ne (tgt := 12) hx hb hF dX6_commitOver_7 (by decide) (fun hF => ?_) (fun hF => ?_)
  · refine lv_aload_n hx hb dX6_commitOver_12 rfl (lv_at hl 0 rfl) ?_
    refine gx_store_dirtyCount hx hb hts hown hK hP fl_X6_55 dX6_commitOver_13 ?_
    refine lv_iload_n hx hb dX6_commitOver_16 rfl (lv_at hl 1 rfl) ?_
    refine sx_icmp_gt (tgt := 22) hx hb hF dX6_commitOver_17 (by decide) (fun hF => ?_) (fun hF => ?_)
    · refine lv_iconst (v := 0) hx hb dX6_commitOver_22 (by decide) ?_
      refine lv_istore_n (lv' := [(2, .int 0), (0, .ref (a 3)), (1, .int o1)]) hx hb dX6_commitOver_23 rfl hl (by decide) rfl (fun ls hl => ?_)
      refine lv_iconst (v := 0) hx hb dX6_commitOver_24 (by decide) ?_
      refine lv_istore_n (lv' := [(3, .int 0), (2, .int 0), (0, .ref (a 3)), (1, .int o1)]) hx hb dX6_commitOver_25 rfl hl (by decide) rfl (fun ls hl => ?_)
      exact hB26 N 0 0 u ls (lv_sub hl [2, 1, 0] rfl) hF _ _ hP hS
    · refine lv_iconst (v := 1) hx hb dX6_commitOver_20 (by decide) ?_
      exact sx_retz (Wd := (ax_W a cI L)) (σ := u) hx hb hr (by decide) hF hP hS hlocks dX6_commitOver_21
  · refine lv_iconst (v := 0) hx hb dX6_commitOver_10 (by decide) ?_
    exact sx_retz (Wd := (ax_W a cI L)) (σ := u) hx hb hr (by decide) hF hP hS hlocks dX6_commitOver_11
set_option maxHeartbeats 4000000 in
set_option maxRecDepth 100000 in
theorem kt_X4_isNumber {N : Nat} {l : Launch} {D : va_G} {a : Nat → Nat} {cI : Nat → ClassId} {L : Nat → Nat} (hD : ∀ σ, va_D (ax_A a) (ax_W a cI L σ)) {o0 : Int32} {u σ0 : q_St} {r0 : Int32} (hF : fX4_isNumber L N o0 u = some (r0, σ0)) : Met l yX4_isNumber (Cond.code yX4_isNumber cX4_isNumber 1 (some .boolean) :: q_T) ({ frames := 0, cells := 0, slots := 0, locals := 0 } : Room) (q_P D vwCl (ax_T cI) (ax_W a cI L) [.int o0] u) (q_Qi D vwCl (ax_W a cI L) (ax_A a) r0 σ0) 0 0 (ax_A a) := by
  refine Met.ofW (cc := cX4_isNumber) (maxL := 1) (ret := (some .boolean)) (by decide) rfl ?_
  intro p e s m args below meth c s₁ B hml hv
  obtain ⟨rfl, hP, hK⟩ := hv
  have hx := B.exec
  have hb := B.bytes
  have hr := B.returns
  have hts := q_ts (atoms_spec (ws := Cond.code yX4_isNumber cX4_isNumber 1 (some .boolean) :: q_T) B.pre)
  have hown : s.vm.findClass RX4 = some m.cls := findClass_of_methodNamed B.named
  have hlocks := B.notSynchronized
  have hS : va_S (ax_A a) s.heap s.heap [] := va_S.rf
  have hl := lv_entry ([.int o0]) (n := 1) (Nat.le_of_ble_eq_true rfl)
  rw [lg_entry_eq]
  generalize (lg_sl ([.int o0]) ++ List.replicate (1 - (lg_sl ([.int o0])).length) Slot.unset).toArray = ls at hl ⊢
  have hl : lv_has ls 1 [(0, .int o0)] := hl
  unfold fX4_isNumber at hF
  refine lv_iload_n hx hb dX4_isNumber_0 rfl (lv_at hl 0 rfl) ?_
  refine sx_if_lt (tgt := 14) hx hb hF dX4_isNumber_1 (by decide) (fun hF => ?_) (fun hF => ?_)
  · refine lv_iconst (v := 0) hx hb dX4_isNumber_14 (by decide) ?_
    exact sx_retz (Wd := (ax_W a cI L)) (σ := u) hx hb hr (by decide) hF hP hS hlocks dX4_isNumber_15
  · refine lv_iload_n hx hb dX4_isNumber_4 rfl (lv_at hl 0 rfl) ?_
    refine lv_bipush (v := 64) hx hb dX4_isNumber_5 (by decide) ?_
    refine sx_icmp_ge (tgt := 14) hx hb hF dX4_isNumber_7 (by decide) (fun hF => ?_) (fun hF => ?_)
    · refine lv_iconst (v := 0) hx hb dX4_isNumber_14 (by decide) ?_
      exact sx_retz (Wd := (ax_W a cI L)) (σ := u) hx hb hr (by decide) hF hP hS hlocks dX4_isNumber_15
    · refine lv_iconst (v := 1) hx hb dX4_isNumber_10 (by decide) ?_
      refine lv_goto (tgt := 15) hx hb dX4_isNumber_11 (by decide) ?_
      exact sx_retz (Wd := (ax_W a cI L)) (σ := u) hx hb hr (by decide) hF hP hS hlocks dX4_isNumber_15
set_option maxHeartbeats 4000000 in
set_option maxRecDepth 100000 in
theorem kt_X6_word {N : Nat} {l : Launch} {D : va_G} {a : Nat → Nat} {cI : Nat → ClassId} {L : Nat → Nat} (hD : ∀ σ, va_D (ax_A a) (ax_W a cI L σ)) {o1 : Int32} {o2 : Int32} {u σ0 : q_St} {r0 : Int64} (hF : fX6_word L N o1 o2 u = some (r0, σ0)) : Met l yX6_word (Cond.code yX6_word cX6_word 3 (some .long) :: q_T) ({ frames := 1, cells := 0, slots := 0, locals := 24 } : Room) (q_P D vwCl (ax_T cI) (ax_W a cI L) [.ref (a 3), .int o1, .int o2] u) (q_Ql D vwCl (ax_W a cI L) (ax_A a) r0 σ0) 0 0 (ax_A a) := by
  refine Met.ofW (cc := cX6_word) (maxL := 3) (ret := (some .long)) (by decide) rfl ?_
  intro p e s m args below meth c s₁ B hml hv
  obtain ⟨rfl, hP, hK⟩ := hv
  have hx := B.exec
  have hb := B.bytes
  have hr := B.returns
  have hts := q_ts (atoms_spec (ws := Cond.code yX6_word cX6_word 3 (some .long) :: q_T) B.pre)
  have hown : s.vm.findClass RX6 = some m.cls := findClass_of_methodNamed B.named
  have hlocks := B.notSynchronized
  have hS : va_S (ax_A a) s.heap s.heap [] := va_S.rf
  have hl := lv_entry ([.ref (a 3), .int o1, .int o2]) (n := 3) (Nat.le_of_ble_eq_true rfl)
  rw [lg_entry_eq]
  generalize (lg_sl ([.ref (a 3), .int o1, .int o2]) ++ List.replicate (3 - (lg_sl ([.ref (a 3), .int o1, .int o2])).length) Slot.unset).toArray = ls at hl ⊢
  have hl : lv_has ls 3 [(0, .ref (a 3)), (1, .int o1), (2, .int o2)] := hl
  unfold fX6_word at hF
  refine lv_iload_n hx hb dX6_word_0 rfl (lv_at hl 1 rfl) ?_
  refine sx_if_lt (tgt := 23) hx hb hF dX6_word_1 (by decide) (fun hF => ?_) (fun hF => ?_)
  · refine lv_lconst (v := 0) hx hb dX6_word_23 (by decide) ?_
    exact sx_retl (Wd := (ax_W a cI L)) (σ := u) hx hb hr hF hP hS hlocks dX6_word_24
  · refine lv_iload_n hx hb dX6_word_4 rfl (lv_at hl 1 rfl) ?_
    refine lv_aload_n hx hb dX6_word_5 rfl (lv_at hl 0 rfl) ?_
    refine gx_store_dirty hx hb hts hown hK hP fl_X6_29 dX6_word_6 ?_
    refine nx_store_dirty hx hb hK hP dX6_word_9 ?_
    refine sx_icmp_ge (tgt := 23) hx hb hF dX6_word_10 (by decide) (fun hF => ?_) (fun hF => ?_)
    · refine lv_lconst (v := 0) hx hb dX6_word_23 (by decide) ?_
      exact sx_retl (Wd := (ax_W a cI L)) (σ := u) hx hb hr hF hP hS hlocks dX6_word_24
    · refine lv_iload_n hx hb dX6_word_13 rfl (lv_at hl 2 rfl) ?_
      refine sx_if_lt (tgt := 23) hx hb hF dX6_word_14 (by decide) (fun hF => ?_) (fun hF => ?_)
      · refine lv_lconst (v := 0) hx hb dX6_word_23 (by decide) ?_
        exact sx_retl (Wd := (ax_W a cI L)) (σ := u) hx hb hr hF hP hS hlocks dX6_word_24
      · refine lv_iload_n hx hb dX6_word_17 rfl (lv_at hl 2 rfl) ?_
        refine lv_bipush (v := 8) hx hb dX6_word_18 (by decide) ?_
        refine sx_icmp_lt (tgt := 25) hx hb hF dX6_word_20 (by decide) (fun hF => ?_) (fun hF => ?_)
        · refine lv_aload_n hx hb dX6_word_25 rfl (lv_at hl 0 rfl) ?_
          refine gx_store_dirty hx hb hts hown hK hP fl_X6_29 dX6_word_26 ?_
          refine lv_iload_n hx hb dX6_word_29 rfl (lv_at hl 1 rfl) ?_
          refine lx_store_dirty hx hb hK hP hF dX6_word_30 (fun v1 hF => ?_)
          refine sx_if_eq (tgt := 48) hx hb hF dX6_word_31 (by decide) (fun hF => ?_) (fun hF => ?_)
          · refine lv_aload_n hx hb dX6_word_48 rfl (lv_at hl 0 rfl) ?_
            refine gx_store_disk hx hb hts hown hK hP fl_X6_9 dX6_word_49 ?_
            refine gx_disk_cells hx hb hts hown hK hP fl_X6_40 dX6_word_52 ?_
            refine lv_aload_n hx hb dX6_word_55 rfl (lv_at hl 0 rfl) ?_
            refine gx_store_volume hx hb hts hown hK hP fl_X6_15 dX6_word_56 ?_
            refine lv_iload_n hx hb dX6_word_59 rfl (lv_at hl 1 rfl) ?_
            obtain ⟨r2, u3, hc4, hF⟩ := q_bnd_some hF
            refine sx_ci (Wd := (ax_W a cI L)) (σ1 := u3) (q_runV (Wd := (ax_W a cI L)) (σ := u) (q0 := 2) (ci := 8) (T := TX8) (N := 15) (As := [.int o1]) (rest := [.ref (a 12)]) hx hb hml hown hts hK hP (kt_X8_spot hD hc4) cw_X6_43 rfl rfl ⟨Nat.le_of_ble_eq_true rfl, Nat.le_of_ble_eq_true rfl⟩ rfl rfl rfl hl.1 rfl (Nat.le_of_ble_eq_true rfl) dX6_word_60) hS (fun H locs hP hS => ?_)
            refine lv_iload_n hx hb dX6_word_63 rfl (lv_at hl 2 rfl) ?_
            refine lv_iadd hx hb dX6_word_64 ?_
            refine lx_disk_cells hx hb hK hP hF dX6_word_65 (fun v5 hF => ?_)
            exact sx_retl (Wd := (ax_W a cI L)) (σ := u3) hx hb hr hF hP hS hlocks dX6_word_66
          · refine lv_aload_n hx hb dX6_word_34 rfl (lv_at hl 0 rfl) ?_
            refine gx_store_memory hx hb hts hown hK hP fl_X6_25 dX6_word_35 ?_
            refine lv_iload_n hx hb dX6_word_38 rfl (lv_at hl 1 rfl) ?_
            refine lv_bipush (v := 8) hx hb dX6_word_39 (by decide) ?_
            refine lv_imul hx hb dX6_word_41 ?_
            refine lv_iload_n hx hb dX6_word_42 rfl (lv_at hl 2 rfl) ?_
            refine lv_iadd hx hb dX6_word_43 ?_
            refine lx_store_memory hx hb hK hP hF dX6_word_44 (fun v6 hF => ?_)
            refine lv_goto (tgt := 66) hx hb dX6_word_45 (by decide) ?_
            exact sx_retl (Wd := (ax_W a cI L)) (σ := u) hx hb hr hF hP hS hlocks dX6_word_66
        · refine lv_lconst (v := 0) hx hb dX6_word_23 (by decide) ?_
          exact sx_retl (Wd := (ax_W a cI L)) (σ := u) hx hb hr hF hP hS hlocks dX6_word_24
set_option maxHeartbeats 4000000 in
set_option maxRecDepth 100000 in
theorem kt_X6_octet {N : Nat} {l : Launch} {D : va_G} {a : Nat → Nat} {cI : Nat → ClassId} {L : Nat → Nat} (hD : ∀ σ, va_D (ax_A a) (ax_W a cI L σ)) {o1 : Int32} {o2 : Int32} {u σ0 : q_St} {r0 : Int32} (hF : fX6_octet L N o1 o2 u = some (r0, σ0)) : Met l yX6_octet (Cond.code yX6_octet cX6_octet 3 (some .int) :: q_T) ({ frames := 2, cells := 0, slots := 0, locals := 46 } : Room) (q_P D vwCl (ax_T cI) (ax_W a cI L) [.ref (a 3), .int o1, .int o2] u) (q_Qi D vwCl (ax_W a cI L) (ax_A a) r0 σ0) 0 0 (ax_A a) := by
  refine Met.ofW (cc := cX6_octet) (maxL := 3) (ret := (some .int)) (by decide) rfl ?_
  intro p e s m args below meth c s₁ B hml hv
  obtain ⟨rfl, hP, hK⟩ := hv
  have hx := B.exec
  have hb := B.bytes
  have hr := B.returns
  have hts := q_ts (atoms_spec (ws := Cond.code yX6_octet cX6_octet 3 (some .int) :: q_T) B.pre)
  have hown : s.vm.findClass RX6 = some m.cls := findClass_of_methodNamed B.named
  have hlocks := B.notSynchronized
  have hS : va_S (ax_A a) s.heap s.heap [] := va_S.rf
  have hl := lv_entry ([.ref (a 3), .int o1, .int o2]) (n := 3) (Nat.le_of_ble_eq_true rfl)
  rw [lg_entry_eq]
  generalize (lg_sl ([.ref (a 3), .int o1, .int o2]) ++ List.replicate (3 - (lg_sl ([.ref (a 3), .int o1, .int o2])).length) Slot.unset).toArray = ls at hl ⊢
  have hl : lv_has ls 3 [(0, .ref (a 3)), (1, .int o1), (2, .int o2)] := hl
  unfold fX6_octet at hF
  refine lv_aload_n hx hb dX6_octet_0 rfl (lv_at hl 0 rfl) ?_
  refine lv_iload_n hx hb dX6_octet_1 rfl (lv_at hl 1 rfl) ?_
  refine lv_iload_n hx hb dX6_octet_2 rfl (lv_at hl 2 rfl) ?_
  refine lv_bipush (v := 8) hx hb dX6_octet_3 (by decide) ?_
  refine lv_idiv hx hb dX6_octet_5 (by decide) ?_
  obtain ⟨r1, u2, hc3, hF⟩ := q_bnd_some hF
  refine sx_cl (Wd := (ax_W a cI L)) (σ1 := u2) (q_runV (Wd := (ax_W a cI L)) (σ := u) (q0 := 3) (ci := 6) (T := TX6) (N := 9) (As := [.int o1, .int (o2 / 8)]) (rest := []) hx hb hml hown hts hK hP (kt_X6_word hD hc3) cw_X6_58 rfl rfl ⟨Nat.le_of_ble_eq_true rfl, Nat.le_of_ble_eq_true rfl⟩ rfl rfl rfl hl.1 rfl (Nat.le_of_ble_eq_true rfl) dX6_octet_6) hS (fun H locs hP hS => ?_)
  refine lv_bipush (v := 8) hx hb dX6_octet_9 (by decide) ?_
  refine lv_iload_n hx hb dX6_octet_11 rfl (lv_at hl 2 rfl) ?_
  refine lv_bipush (v := 8) hx hb dX6_octet_12 (by decide) ?_
  refine lv_irem hx hb dX6_octet_14 (by decide) ?_
  refine lv_imul hx hb dX6_octet_15 ?_
  refine lv_lushr (v := q_lush r1 (8 * (o2 - o2 / 8 * 8))) hx hb dX6_octet_16 rfl ?_
  refine lv_l2i (v := Int64.toInt32 (q_lush r1 (8 * (o2 - o2 / 8 * 8)))) hx hb dX6_octet_17 rfl ?_
  refine lv_sipush (v := 255) hx hb dX6_octet_18 (by decide) ?_
  refine lv_iand hx hb dX6_octet_21 ?_
  exact sx_reti (Wd := (ax_W a cI L)) (σ := u2) hx hb hr hF hP hS hlocks dX6_octet_22
set_option maxHeartbeats 4000000 in
set_option maxRecDepth 100000 in
theorem kt_X4_kindOf {N : Nat} {l : Launch} {D : va_G} {a : Nat → Nat} {cI : Nat → ClassId} {L : Nat → Nat} (hD : ∀ σ, va_D (ax_A a) (ax_W a cI L σ)) {o1 : Int32} {u σ0 : q_St} {r0 : Int32} (hF : fX4_kindOf L N o1 u = some (r0, σ0)) : Met l yX4_kindOf (Cond.code yX4_kindOf cX4_kindOf 2 (some .int) :: q_T) ({ frames := 3, cells := 0, slots := 0, locals := 68 } : Room) (q_P D vwCl (ax_T cI) (ax_W a cI L) [.ref (a 5), .int o1] u) (q_Qi D vwCl (ax_W a cI L) (ax_A a) r0 σ0) 0 0 (ax_A a) := by
  refine Met.ofW (cc := cX4_kindOf) (maxL := 2) (ret := (some .int)) (by decide) rfl ?_
  intro p e s m args below meth c s₁ B hml hv
  obtain ⟨rfl, hP, hK⟩ := hv
  have hx := B.exec
  have hb := B.bytes
  have hr := B.returns
  have hts := q_ts (atoms_spec (ws := Cond.code yX4_kindOf cX4_kindOf 2 (some .int) :: q_T) B.pre)
  have hown : s.vm.findClass RX4 = some m.cls := findClass_of_methodNamed B.named
  have hlocks := B.notSynchronized
  have hS : va_S (ax_A a) s.heap s.heap [] := va_S.rf
  have hl := lv_entry ([.ref (a 5), .int o1]) (n := 2) (Nat.le_of_ble_eq_true rfl)
  rw [lg_entry_eq]
  generalize (lg_sl ([.ref (a 5), .int o1]) ++ List.replicate (2 - (lg_sl ([.ref (a 5), .int o1])).length) Slot.unset).toArray = ls at hl ⊢
  have hl : lv_has ls 2 [(0, .ref (a 5)), (1, .int o1)] := hl
  unfold fX4_kindOf at hF
  refine lv_iload_n hx hb dX4_kindOf_0 rfl (lv_at hl 1 rfl) ?_
  obtain ⟨r1, u2, hc3, hF⟩ := q_bnd_some hF
  refine sx_ci (Wd := (ax_W a cI L)) (σ1 := u2) (q_runS (Wd := (ax_W a cI L)) (σ := u) (As := [.int o1]) (rest := []) hx hb hml hown hts hK hP (kt_X4_isNumber hD hc3) cw_X4_19 rfl rfl ⟨Nat.le_of_ble_eq_true rfl, Nat.le_of_ble_eq_true rfl⟩ rfl hl.1 rfl (Nat.le_of_ble_eq_true rfl) dX4_kindOf_1) hS (fun H locs hP hS => ?_)
  refine sx_if_eq (tgt := 24) hx hb hF dX4_kindOf_4 (by decide) (fun hF => ?_) (fun hF => ?_)
  · refine lv_iconst (v := 0) hx hb dX4_kindOf_24 (by decide) ?_
    exact sx_reti (Wd := (ax_W a cI L)) (σ := u2) hx hb hr hF hP hS hlocks dX4_kindOf_25
  · refine lv_aload_n hx hb dX4_kindOf_7 rfl (lv_at hl 0 rfl) ?_
    refine gx_nodes_store hx hb hts hown hK hP fl_X4_9 dX4_kindOf_8 ?_
    refine lv_aload_n hx hb dX4_kindOf_11 rfl (lv_at hl 0 rfl) ?_
    refine gx_nodes_firstNode hx hb hts hown hK hP fl_X4_15 dX4_kindOf_12 ?_
    refine lv_iload_n hx hb dX4_kindOf_15 rfl (lv_at hl 1 rfl) ?_
    refine lv_iadd hx hb dX4_kindOf_16 ?_
    refine lv_iconst (v := 0) hx hb dX4_kindOf_17 (by decide) ?_
    obtain ⟨r4, u5, hc6, hF⟩ := q_bnd_some hF
    refine sx_ci (Wd := (ax_W a cI L)) (σ1 := u5) (q_runV (Wd := (ax_W a cI L)) (σ := u2) (q0 := 3) (ci := 6) (T := TX6) (N := 9) (As := [.int ((q_i u2 30) + o1), .int 0]) (rest := []) hx hb hml hown hts hK hP (kt_X6_octet hD hc6) cw_X4_23 rfl rfl ⟨Nat.le_of_ble_eq_true rfl, Nat.le_of_ble_eq_true rfl⟩ rfl rfl rfl hl.1 rfl (Nat.le_of_ble_eq_true rfl) dX4_kindOf_18) hS (fun H locs hP hS => ?_)
    refine lv_goto (tgt := 25) hx hb dX4_kindOf_21 (by decide) ?_
    exact sx_reti (Wd := (ax_W a cI L)) (σ := u5) hx hb hr hF hP hS hlocks dX4_kindOf_25
set_option maxHeartbeats 4000000 in
set_option maxRecDepth 100000 in
theorem kt_X3_isNameByte {N : Nat} {l : Launch} {D : va_G} {a : Nat → Nat} {cI : Nat → ClassId} {L : Nat → Nat} (hD : ∀ σ, va_D (ax_A a) (ax_W a cI L σ)) {o0 : Int32} {u σ0 : q_St} {r0 : Int32} (hF : fX3_isNameByte L N o0 u = some (r0, σ0)) : Met l yX3_isNameByte (Cond.code yX3_isNameByte cX3_isNameByte 1 (some .boolean) :: q_T) ({ frames := 0, cells := 0, slots := 0, locals := 0 } : Room) (q_P D vwCl (ax_T cI) (ax_W a cI L) [.int o0] u) (q_Qi D vwCl (ax_W a cI L) (ax_A a) r0 σ0) 0 0 (ax_A a) := by
  refine Met.ofW (cc := cX3_isNameByte) (maxL := 1) (ret := (some .boolean)) (by decide) rfl ?_
  intro p e s m args below meth c s₁ B hml hv
  obtain ⟨rfl, hP, hK⟩ := hv
  have hx := B.exec
  have hb := B.bytes
  have hr := B.returns
  have hts := q_ts (atoms_spec (ws := Cond.code yX3_isNameByte cX3_isNameByte 1 (some .boolean) :: q_T) B.pre)
  have hown : s.vm.findClass RX3 = some m.cls := findClass_of_methodNamed B.named
  have hlocks := B.notSynchronized
  have hS : va_S (ax_A a) s.heap s.heap [] := va_S.rf
  have hl := lv_entry ([.int o0]) (n := 1) (Nat.le_of_ble_eq_true rfl)
  rw [lg_entry_eq]
  generalize (lg_sl ([.int o0]) ++ List.replicate (1 - (lg_sl ([.int o0])).length) Slot.unset).toArray = ls at hl ⊢
  have hl : lv_has ls 1 [(0, .int o0)] := hl
  have hB42 : ∀ (u : q_St) (ls : Array Slot), lv_has ls 1 [] → fX3_isNameByte_b42 L N u = some (r0, σ0) → ∀ (H : Heap) (locs : List Loc), va_P D vwCl (ax_W a cI L u) H → va_S (ax_A a) s.heap H locs → W p l e (headSpec (Cond.code yX3_isNameByte cX3_isNameByte 1 (some .boolean) :: q_T) ({ frames := 0, cells := 0, slots := 0, locals := 0 } : Room)).room s m ([.int o0] : List Value).toArray below meth c H locs 0 0 (MQ below (q_Qi D vwCl (ax_W a cI L) (ax_A a) r0 σ0) ([.int o0] : List Value).toArray s 0 0 (ax_A a)) (F0 m 42 ls []) := by
    intro u ls hl hF _ _ hP hS
    unfold fX3_isNameByte_b42 at hF
    refine lv_iconst (v := 1) hx hb dX3_isNameByte_42 (by decide) ?_
    refine lv_goto (tgt := 47) hx hb dX3_isNameByte_43 (by decide) ?_
    exact sx_retz (Wd := (ax_W a cI L)) (σ := u) hx hb hr (by decide) hF hP hS hlocks dX3_isNameByte_47
  have hB24 : ∀ (x0 : Int32) (u : q_St) (ls : Array Slot), lv_has ls 1 [(0, .int x0)] → fX3_isNameByte_b24 L N x0 u = some (r0, σ0) → ∀ (H : Heap) (locs : List Loc), va_P D vwCl (ax_W a cI L u) H → va_S (ax_A a) s.heap H locs → W p l e (headSpec (Cond.code yX3_isNameByte cX3_isNameByte 1 (some .boolean) :: q_T) ({ frames := 0, cells := 0, slots := 0, locals := 0 } : Room)).room s m ([.int o0] : List Value).toArray below meth c H locs 0 0 (MQ below (q_Qi D vwCl (ax_W a cI L) (ax_A a) r0 σ0) ([.int o0] : List Value).toArray s 0 0 (ax_A a)) (F0 m 24 ls []) := by
    intro x0 u ls hl hF _ _ hP hS
    unfold fX3_isNameByte_b24 at hF
    refine lv_iload_n hx hb dX3_isNameByte_24 rfl (lv_at hl 0 rfl) ?_
    refine lv_bipush (v := 45) hx hb dX3_isNameByte_25 (by decide) ?_
    refine sx_icmp_eq (tgt := 42) hx hb hF dX3_isNameByte_27 (by decide) (fun hF => ?_) (fun hF => ?_)
    · exact hB42 u ls (lv_sub hl [] rfl) hF _ _ hP hS
    · refine lv_iload_n hx hb dX3_isNameByte_30 rfl (lv_at hl 0 rfl) ?_
      refine lv_bipush (v := 95) hx hb dX3_isNameByte_31 (by decide) ?_
      refine sx_icmp_eq (tgt := 42) hx hb hF dX3_isNameByte_33 (by decide) (fun hF => ?_) (fun hF => ?_)
      · exact hB42 u ls (lv_sub hl [] rfl) hF _ _ hP hS
      · refine lv_iload_n hx hb dX3_isNameByte_36 rfl (lv_at hl 0 rfl) ?_
        refine lv_bipush (v := 46) hx hb dX3_isNameByte_37 (by decide) ?_
        refine sx_icmp_ne (tgt := 46) hx hb hF dX3_isNameByte_39 (by decide) (fun hF => ?_) (fun hF => ?_)
        · refine lv_iconst (v := 0) hx hb dX3_isNameByte_46 (by decide) ?_
          exact sx_retz (Wd := (ax_W a cI L)) (σ := u) hx hb hr (by decide) hF hP hS hlocks dX3_isNameByte_47
        · exact hB42 u ls (lv_sub hl [] rfl) hF _ _ hP hS
  have hB12 : ∀ (x0 : Int32) (u : q_St) (ls : Array Slot), lv_has ls 1 [(0, .int x0)] → fX3_isNameByte_b12 L N x0 u = some (r0, σ0) → ∀ (H : Heap) (locs : List Loc), va_P D vwCl (ax_W a cI L u) H → va_S (ax_A a) s.heap H locs → W p l e (headSpec (Cond.code yX3_isNameByte cX3_isNameByte 1 (some .boolean) :: q_T) ({ frames := 0, cells := 0, slots := 0, locals := 0 } : Room)).room s m ([.int o0] : List Value).toArray below meth c H locs 0 0 (MQ below (q_Qi D vwCl (ax_W a cI L) (ax_A a) r0 σ0) ([.int o0] : List Value).toArray s 0 0 (ax_A a)) (F0 m 12 ls []) := by
    intro x0 u ls hl hF _ _ hP hS
    unfold fX3_isNameByte_b12 at hF
    refine lv_iload_n hx hb dX3_isNameByte_12 rfl (lv_at hl 0 rfl) ?_
    refine lv_bipush (v := 48) hx hb dX3_isNameByte_13 (by decide) ?_
    refine sx_icmp_lt (tgt := 24) hx hb hF dX3_isNameByte_15 (by decide) (fun hF => ?_) (fun hF => ?_)
    · exact hB24 x0 u ls (lv_sub hl [0] rfl) hF _ _ hP hS
    · refine lv_iload_n hx hb dX3_isNameByte_18 rfl (lv_at hl 0 rfl) ?_
      refine lv_bipush (v := 57) hx hb dX3_isNameByte_19 (by decide) ?_
      refine sx_icmp_le (tgt := 42) hx hb hF dX3_isNameByte_21 (by decide) (fun hF => ?_) (fun hF => ?_)
      · exact hB42 u ls (lv_sub hl [] rfl) hF _ _ hP hS
      · exact hB24 x0 u ls (lv_sub hl [0] rfl) hF _ _ hP hS
  unfold fX3_isNameByte at hF
  refine lv_iload_n hx hb dX3_isNameByte_0 rfl (lv_at hl 0 rfl) ?_
  refine lv_bipush (v := 97) hx hb dX3_isNameByte_1 (by decide) ?_
  refine sx_icmp_lt (tgt := 12) hx hb hF dX3_isNameByte_3 (by decide) (fun hF => ?_) (fun hF => ?_)
  · exact hB12 o0 u ls (lv_sub hl [0] rfl) hF _ _ hP hS
  · refine lv_iload_n hx hb dX3_isNameByte_6 rfl (lv_at hl 0 rfl) ?_
    refine lv_bipush (v := 122) hx hb dX3_isNameByte_7 (by decide) ?_
    refine sx_icmp_le (tgt := 42) hx hb hF dX3_isNameByte_9 (by decide) (fun hF => ?_) (fun hF => ?_)
    · exact hB42 u ls (lv_sub hl [] rfl) hF _ _ hP hS
    · exact hB12 o0 u ls (lv_sub hl [0] rfl) hF _ _ hP hS
set_option maxHeartbeats 4000000 in
set_option maxRecDepth 100000 in
theorem kt_X3_isName {N : Nat} {l : Launch} {D : va_G} {a : Nat → Nat} {cI : Nat → ClassId} {L : Nat → Nat} (hD : ∀ σ, va_D (ax_A a) (ax_W a cI L σ)) {o0 : Int64} {u σ0 : q_St} {r0 : Int32} (hF : fX3_isName L N o0 u = some (r0, σ0)) : Met l yX3_isName (Cond.code yX3_isName cX3_isName 5 (some .boolean) :: q_T) ({ frames := 1, cells := 0, slots := 0, locals := 20 } : Room) (q_P D vwCl (ax_T cI) (ax_W a cI L) [.long o0] u) (q_Qi D vwCl (ax_W a cI L) (ax_A a) r0 σ0) 0 0 (ax_A a) := by
  refine Met.ofW (cc := cX3_isName) (maxL := 5) (ret := (some .boolean)) (by decide) rfl ?_
  intro p e s m args below meth c s₁ B hml hv
  obtain ⟨rfl, hP, hK⟩ := hv
  have hx := B.exec
  have hb := B.bytes
  have hr := B.returns
  have hts := q_ts (atoms_spec (ws := Cond.code yX3_isName cX3_isName 5 (some .boolean) :: q_T) B.pre)
  have hown : s.vm.findClass RX3 = some m.cls := findClass_of_methodNamed B.named
  have hlocks := B.notSynchronized
  have hS : va_S (ax_A a) s.heap s.heap [] := va_S.rf
  have hl := lv_entry ([.long o0]) (n := 5) (Nat.le_of_ble_eq_true rfl)
  rw [lg_entry_eq]
  generalize (lg_sl ([.long o0]) ++ List.replicate (5 - (lg_sl ([.long o0])).length) Slot.unset).toArray = ls at hl ⊢
  have hl : lv_has ls 5 [(0, .long o0)] := hl
  have hB43 : ∀ (x0 : Int64) (u : q_St) (ls : Array Slot), lv_has ls 5 [(0, .long x0)] → fX3_isName_b43 L N x0 u = some (r0, σ0) → ∀ (H : Heap) (locs : List Loc), va_P D vwCl (ax_W a cI L u) H → va_S (ax_A a) s.heap H locs → W p l e (headSpec (Cond.code yX3_isName cX3_isName 5 (some .boolean) :: q_T) ({ frames := 1, cells := 0, slots := 0, locals := 20 } : Room)).room s m ([.long o0] : List Value).toArray below meth c H locs 0 0 (MQ below (q_Qi D vwCl (ax_W a cI L) (ax_A a) r0 σ0) ([.long o0] : List Value).toArray s 0 0 (ax_A a)) (F0 m 43 ls []) := by
    intro x0 u ls hl hF _ _ hP hS
    unfold fX3_isName_b43 at hF
    refine lv_lload_n hx hb dX3_isName_43 rfl (lv_at hl 0 rfl) ?_
    refine lv_lconst (v := 0) hx hb dX3_isName_44 (by decide) ?_
    refine W.lcmp hx hb dX3_isName_45 ?_
    refine sx_if_eq (tgt := 53) hx hb hF dX3_isName_46 (by decide) (fun hF => ?_) (fun hF => ?_)
    · refine lv_iconst (v := 0) hx hb dX3_isName_53 (by decide) ?_
      exact sx_retz (Wd := (ax_W a cI L)) (σ := u) hx hb hr (by decide) hF hP hS hlocks dX3_isName_54
    · refine lv_iconst (v := 1) hx hb dX3_isName_49 (by decide) ?_
      refine lv_goto (tgt := 54) hx hb dX3_isName_50 (by decide) ?_
      exact sx_retz (Wd := (ax_W a cI L)) (σ := u) hx hb hr (by decide) hF hP hS hlocks dX3_isName_54
  have hB5 : ∀ (n : Nat) (x0 : Int64) (x2 : Int64) (x4 : Int32) (u : q_St) (ls : Array Slot), lv_has ls 5 [(0, .long x0), (2, .long x2), (4, .int x4)] → q_lp (fX3_isName_b5 L N) (fun _ _ _ _ => none) n x0 x2 x4 u = some (r0, σ0) → ∀ (H : Heap) (locs : List Loc), va_P D vwCl (ax_W a cI L u) H → va_S (ax_A a) s.heap H locs → W p l e (headSpec (Cond.code yX3_isName cX3_isName 5 (some .boolean) :: q_T) ({ frames := 1, cells := 0, slots := 0, locals := 20 } : Room)).room s m ([.long o0] : List Value).toArray below meth c H locs 0 0 (MQ below (q_Qi D vwCl (ax_W a cI L) (ax_A a) r0 σ0) ([.long o0] : List Value).toArray s 0 0 (ax_A a)) (F0 m 5 ls []) := by
    intro n
    induction n with
    | zero => intro x0 x2 x4 u ls hl hF; exact absurd (show (none : Option (Int32 × q_St)) = some _ from hF) (fun h => nomatch h)
    | succ n hi5 =>
      intro x0 x2 x4 u ls hl hF _ _ hP hS
      obtain ⟨ih5, hih⟩ : ∃ q, q = q_lp (fX3_isName_b5 L N) (fun _ _ _ _ => none) n := ⟨_, rfl⟩
      rw [← hih] at hi5
      have hF : fX3_isName_b5 L N (q_lp (fX3_isName_b5 L N) (fun _ _ _ _ => none) n) x0 x2 x4 u = some (r0, σ0) := hF
      rw [← hih] at hF
      clear hih
      unfold fX3_isName_b5 at hF
      refine lv_iload hx hb dX3_isName_5 (lv_at hl 2 rfl) ?_
      refine lv_bipush (v := 8) hx hb dX3_isName_7 (by decide) ?_
      refine sx_icmp_ge (tgt := 43) hx hb hF dX3_isName_9 (by decide) (fun hF => ?_) (fun hF => ?_)
      · exact hB43 x0 u ls (lv_sub hl [0] rfl) hF _ _ hP hS
      · refine lv_lload_n hx hb dX3_isName_12 rfl (lv_at hl 1 rfl) ?_
        refine lv_lconst (v := 0) hx hb dX3_isName_13 (by decide) ?_
        refine W.lcmp hx hb dX3_isName_14 ?_
        refine sx_if_eq (tgt := 43) hx hb hF dX3_isName_15 (by decide) (fun hF => ?_) (fun hF => ?_)
        · exact hB43 x0 u ls (lv_sub hl [0] rfl) hF _ _ hP hS
        · refine lv_lload_n hx hb dX3_isName_18 rfl (lv_at hl 1 rfl) ?_
          refine lv_ldc2 (v := 255) hx hb hown (hts _ kc_X3_31) dX3_isName_19 ?_
          refine lv_land hx hb dX3_isName_22 ?_
          refine lv_l2i (v := Int64.toInt32 (x2 &&& 255)) hx hb dX3_isName_23 rfl ?_
          obtain ⟨r1, u2, hc3, hF⟩ := q_bnd_some hF
          refine sx_ci (Wd := (ax_W a cI L)) (σ1 := u2) (q_runS (Wd := (ax_W a cI L)) (σ := u) (As := [.int (Int64.toInt32 (x2 &&& 255))]) (rest := []) hx hb hml hown hts hK hP (kt_X3_isNameByte hD hc3) cw_X3_33 rfl rfl ⟨Nat.le_of_ble_eq_true rfl, Nat.le_of_ble_eq_true rfl⟩ rfl hl.1 rfl (Nat.le_of_ble_eq_true rfl) dX3_isName_24) hS (fun H locs hP hS => ?_)
          refine sx_if_ne (tgt := 32) hx hb hF dX3_isName_27 (by decide) (fun hF => ?_) (fun hF => ?_)
          · refine lv_lload_n hx hb dX3_isName_32 rfl (lv_at hl 1 rfl) ?_
            refine lv_bipush (v := 8) hx hb dX3_isName_33 (by decide) ?_
            refine lv_lushr (v := q_lush x2 8) hx hb dX3_isName_35 rfl ?_
            refine sx_lstore_n (lv2 := [(0, .long x0), (4, .int x4)]) hx hb hF dX3_isName_36 rfl hl (by decide) rfl (fun v4 hF ls hl => ?_)
            refine sx_iinc (d := 1) (k := 2) (lv2 := [(2, .long v4), (0, .long x0)]) hx hb hF dX3_isName_37 hl rfl (by decide) (by decide) rfl (fun v5 hF ls hl => ?_)
            refine lv_goto (tgt := 5) hx hb dX3_isName_40 (by decide) ?_
            exact hi5 x0 v4 v5 u2 ls (lv_sub hl [2, 1, 0] rfl) hF _ _ hP hS
          · refine lv_iconst (v := 0) hx hb dX3_isName_30 (by decide) ?_
            exact sx_retz (Wd := (ax_W a cI L)) (σ := u2) hx hb hr (by decide) hF hP hS hlocks dX3_isName_31
  unfold fX3_isName at hF
  refine lv_lload_n hx hb dX3_isName_0 rfl (lv_at hl 0 rfl) ?_
  refine lv_lstore_n (lv' := [(2, .long o0), (0, .long o0)]) hx hb dX3_isName_1 rfl hl (by decide) rfl (fun ls hl => ?_)
  refine lv_iconst (v := 0) hx hb dX3_isName_2 (by decide) ?_
  refine lv_istore (lv' := [(4, .int 0), (2, .long o0), (0, .long o0)]) hx hb dX3_isName_3 hl (by decide) rfl (fun ls hl => ?_)
  exact hB5 N o0 o0 0 u ls (lv_sub hl [2, 1, 0] rfl) hF _ _ hP hS
set_option maxHeartbeats 4000000 in
set_option maxRecDepth 100000 in
theorem kt_X4_may {N : Nat} {l : Launch} {D : va_G} {a : Nat → Nat} {cI : Nat → ClassId} {L : Nat → Nat} (hD : ∀ σ, va_D (ax_A a) (ax_W a cI L σ)) {o1 : Int32} {o2 : Int32} {o3 : Int32} {u σ0 : q_St} {r0 : Int32} (hF : fX4_may L N o1 o2 o3 u = some (r0, σ0)) : Met l yX4_may (Cond.code yX4_may cX4_may 8 (some .boolean) :: q_T) ({ frames := 2, cells := 0, slots := 0, locals := 46 } : Room) (q_P D vwCl (ax_T cI) (ax_W a cI L) [.ref (a 5), .int o1, .int o2, .int o3] u) (q_Qi D vwCl (ax_W a cI L) (ax_A a) r0 σ0) 0 0 (ax_A a) := by
  refine Met.ofW (cc := cX4_may) (maxL := 8) (ret := (some .boolean)) (by decide) rfl ?_
  intro p e s m args below meth c s₁ B hml hv
  obtain ⟨rfl, hP, hK⟩ := hv
  have hx := B.exec
  have hb := B.bytes
  have hr := B.returns
  have hts := q_ts (atoms_spec (ws := Cond.code yX4_may cX4_may 8 (some .boolean) :: q_T) B.pre)
  have hown : s.vm.findClass RX4 = some m.cls := findClass_of_methodNamed B.named
  have hlocks := B.notSynchronized
  have hS : va_S (ax_A a) s.heap s.heap [] := va_S.rf
  have hl := lv_entry ([.ref (a 5), .int o1, .int o2, .int o3]) (n := 8) (Nat.le_of_ble_eq_true rfl)
  rw [lg_entry_eq]
  generalize (lg_sl ([.ref (a 5), .int o1, .int o2, .int o3]) ++ List.replicate (8 - (lg_sl ([.ref (a 5), .int o1, .int o2, .int o3])).length) Slot.unset).toArray = ls at hl ⊢
  have hl : lv_has ls 8 [(0, .ref (a 5)), (1, .int o1), (2, .int o2), (3, .int o3)] := hl
  have hB61 : ∀ (x2 : Int32) (y0 : Int32) (u : q_St) (ls : Array Slot), lv_has ls 8 [(2, .int x2)] → fX4_may_b61 L N x2 y0 u = some (r0, σ0) → ∀ (H : Heap) (locs : List Loc), va_P D vwCl (ax_W a cI L u) H → va_S (ax_A a) s.heap H locs → W p l e (headSpec (Cond.code yX4_may cX4_may 8 (some .boolean) :: q_T) ({ frames := 2, cells := 0, slots := 0, locals := 46 } : Room)).room s m ([.ref (a 5), .int o1, .int o2, .int o3] : List Value).toArray below meth c H locs 0 0 (MQ below (q_Qi D vwCl (ax_W a cI L) (ax_A a) r0 σ0) ([.ref (a 5), .int o1, .int o2, .int o3] : List Value).toArray s 0 0 (ax_A a)) (F0 m 61 ls [.int y0]) := by
    intro x2 y0 u ls hl hF _ _ hP hS
    unfold fX4_may_b61 at hF
    refine lv_iload_n hx hb dX4_may_61 rfl (lv_at hl 0 rfl) ?_
    refine lv_iand hx hb dX4_may_62 ?_
    refine lv_iload_n hx hb dX4_may_63 rfl (lv_at hl 0 rfl) ?_
    refine sx_icmp_ne (tgt := 71) hx hb hF dX4_may_64 (by decide) (fun hF => ?_) (fun hF => ?_)
    · refine lv_iconst (v := 0) hx hb dX4_may_71 (by decide) ?_
      exact sx_retz (Wd := (ax_W a cI L)) (σ := u) hx hb hr (by decide) hF hP hS hlocks dX4_may_72
    · refine lv_iconst (v := 1) hx hb dX4_may_67 (by decide) ?_
      refine lv_goto (tgt := 72) hx hb dX4_may_68 (by decide) ?_
      exact sx_retz (Wd := (ax_W a cI L)) (σ := u) hx hb hr (by decide) hF hP hS hlocks dX4_may_72
  unfold fX4_may at hF
  refine lv_iload_n hx hb dX4_may_0 rfl (lv_at hl 3 rfl) ?_
  refine sx_if_ne (tgt := 6) hx hb hF dX4_may_1 (by decide) (fun hF => ?_) (fun hF => ?_)
  · refine lv_aload_n hx hb dX4_may_6 rfl (lv_at hl 0 rfl) ?_
    refine gx_nodes_store hx hb hts hown hK hP fl_X4_9 dX4_may_7 ?_
    refine lv_aload_n hx hb dX4_may_10 rfl (lv_at hl 0 rfl) ?_
    refine gx_nodes_firstNode hx hb hts hown hK hP fl_X4_15 dX4_may_11 ?_
    refine lv_iload_n hx hb dX4_may_14 rfl (lv_at hl 1 rfl) ?_
    refine lv_iadd hx hb dX4_may_15 ?_
    refine lv_iconst (v := 0) hx hb dX4_may_16 (by decide) ?_
    obtain ⟨r1, u2, hc3, hF⟩ := q_bnd_some hF
    refine sx_cl (Wd := (ax_W a cI L)) (σ1 := u2) (q_runV (Wd := (ax_W a cI L)) (σ := u) (q0 := 3) (ci := 6) (T := TX6) (N := 9) (As := [.int ((q_i u 30) + o1), .int 0]) (rest := []) hx hb hml hown hts hK hP (kt_X6_word hD hc3) cw_X4_37 rfl rfl ⟨Nat.le_of_ble_eq_true rfl, Nat.le_of_ble_eq_true rfl⟩ rfl rfl rfl hl.1 rfl (Nat.le_of_ble_eq_true rfl) dX4_may_17) hS (fun H locs hP hS => ?_)
    refine lv_lstore (lv' := [(4, .long r1), (0, .ref (a 5)), (1, .int o1), (2, .int o2), (3, .int o3)]) hx hb dX4_may_20 hl (by decide) rfl (fun ls hl => ?_)
    refine lv_lload hx hb dX4_may_22 (lv_at hl 0 rfl) ?_
    refine lv_bipush (v := 8) hx hb dX4_may_24 (by decide) ?_
    refine lv_lushr (v := q_lush r1 8) hx hb dX4_may_26 rfl ?_
    refine lv_l2i (v := Int64.toInt32 (q_lush r1 8)) hx hb dX4_may_27 rfl ?_
    refine lv_sipush (v := 255) hx hb dX4_may_28 (by decide) ?_
    refine lv_iand hx hb dX4_may_31 ?_
    refine sx_istore (lv2 := [(4, .long r1), (0, .ref (a 5)), (1, .int o1), (2, .int o2), (3, .int o3)]) hx hb hF dX4_may_32 hl (by decide) rfl (fun v4 hF ls hl => ?_)
    refine lv_lload hx hb dX4_may_34 (lv_at hl 1 rfl) ?_
    refine lv_bipush (v := 16) hx hb dX4_may_36 (by decide) ?_
    refine lv_lushr (v := q_lush r1 16) hx hb dX4_may_38 rfl ?_
    refine lv_l2i (v := Int64.toInt32 (q_lush r1 16)) hx hb dX4_may_39 rfl ?_
    refine lv_sipush (v := 255) hx hb dX4_may_40 (by decide) ?_
    refine lv_iand hx hb dX4_may_43 ?_
    refine sx_istore (lv2 := [(6, .int v4), (4, .long r1), (0, .ref (a 5)), (1, .int o1), (2, .int o2), (3, .int o3)]) hx hb hF dX4_may_44 hl (by decide) rfl (fun v5 hF ls hl => ?_)
    refine lv_iload_n hx hb dX4_may_46 rfl (lv_at hl 6 rfl) ?_
    refine lv_iload hx hb dX4_may_47 (lv_at hl 1 rfl) ?_
    refine sx_icmp_ne (tgt := 59) hx hb hF dX4_may_49 (by decide) (fun hF => ?_) (fun hF => ?_)
    · refine lv_iload hx hb dX4_may_59 (lv_at hl 0 rfl) ?_
      exact hB61 o2 v5 u2 ls (lv_sub hl [5] rfl) hF _ _ hP hS
    · refine lv_iload hx hb dX4_may_52 (lv_at hl 0 rfl) ?_
      refine lv_iconst (v := 3) hx hb dX4_may_54 (by decide) ?_
      refine lv_ishr hx hb dX4_may_55 ?_
      refine lv_goto (tgt := 61) hx hb dX4_may_56 (by decide) ?_
      exact hB61 o2 (v5 >>> (3 &&& 31)) u2 ls (lv_sub hl [5] rfl) hF _ _ hP hS
  · refine lv_iconst (v := 1) hx hb dX4_may_4 (by decide) ?_
    exact sx_retz (Wd := (ax_W a cI L)) (σ := u) hx hb hr (by decide) hF hP hS hlocks dX4_may_5
set_option maxHeartbeats 4000000 in
set_option maxRecDepth 100000 in
theorem kt_X10_refusalToGoBy {N : Nat} {l : Launch} {D : va_G} {a : Nat → Nat} {cI : Nat → ClassId} {L : Nat → Nat} (hD : ∀ σ, va_D (ax_A a) (ax_W a cI L σ)) {o1 : Int32} {o2 : Int64} {u σ0 : q_St} {r0 : Int32} (hF : fX10_refusalToGoBy L N o1 o2 u = some (r0, σ0)) : Met l yX10_refusalToGoBy (Cond.code yX10_refusalToGoBy cX10_refusalToGoBy 4 (some .int) :: q_T) ({ frames := 4, cells := 0, slots := 0, locals := 89 } : Room) (q_P D vwCl (ax_T cI) (ax_W a cI L) [.ref (a 0), .int o1, .long o2] u) (q_Qi D vwCl (ax_W a cI L) (ax_A a) r0 σ0) 0 0 (ax_A a) := by
  refine Met.ofW (cc := cX10_refusalToGoBy) (maxL := 4) (ret := (some .int)) (by decide) rfl ?_
  intro p e s m args below meth c s₁ B hml hv
  obtain ⟨rfl, hP, hK⟩ := hv
  have hx := B.exec
  have hb := B.bytes
  have hr := B.returns
  have hts := q_ts (atoms_spec (ws := Cond.code yX10_refusalToGoBy cX10_refusalToGoBy 4 (some .int) :: q_T) B.pre)
  have hown : s.vm.findClass RX10 = some m.cls := findClass_of_methodNamed B.named
  have hlocks := B.notSynchronized
  have hS : va_S (ax_A a) s.heap s.heap [] := va_S.rf
  have hl := lv_entry ([.ref (a 0), .int o1, .long o2]) (n := 4) (Nat.le_of_ble_eq_true rfl)
  rw [lg_entry_eq]
  generalize (lg_sl ([.ref (a 0), .int o1, .long o2]) ++ List.replicate (4 - (lg_sl ([.ref (a 0), .int o1, .long o2])).length) Slot.unset).toArray = ls at hl ⊢
  have hl : lv_has ls 4 [(0, .ref (a 0)), (1, .int o1), (2, .long o2)] := hl
  unfold fX10_refusalToGoBy at hF
  refine lv_aload_n hx hb dX10_refusalToGoBy_0 rfl (lv_at hl 0 rfl) ?_
  refine gx_h_nodes hx hb hts hown hK hP fl_X10_71 dX10_refusalToGoBy_1 ?_
  refine lv_iload_n hx hb dX10_refusalToGoBy_4 rfl (lv_at hl 1 rfl) ?_
  obtain ⟨r1, u2, hc3, hF⟩ := q_bnd_some hF
  refine sx_ci (Wd := (ax_W a cI L)) (σ1 := u2) (q_runV (Wd := (ax_W a cI L)) (σ := u) (q0 := 5) (ci := 4) (T := TX4) (N := 2) (As := [.int o1]) (rest := []) hx hb hml hown hts hK hP (kt_X4_kindOf hD hc3) cw_X10_173 rfl rfl ⟨Nat.le_of_ble_eq_true rfl, Nat.le_of_ble_eq_true rfl⟩ rfl rfl rfl hl.1 rfl (Nat.le_of_ble_eq_true rfl) dX10_refusalToGoBy_5) hS (fun H locs hP hS => ?_)
  refine lv_iconst (v := 2) hx hb dX10_refusalToGoBy_8 (by decide) ?_
  refine sx_icmp_eq (tgt := 15) hx hb hF dX10_refusalToGoBy_9 (by decide) (fun hF => ?_) (fun hF => ?_)
  · refine lv_lload_n hx hb dX10_refusalToGoBy_15 rfl (lv_at hl 2 rfl) ?_
    obtain ⟨r4, u5, hc6, hF⟩ := q_bnd_some hF
    refine sx_ci (Wd := (ax_W a cI L)) (σ1 := u5) (q_runS (Wd := (ax_W a cI L)) (σ := u2) (As := [.long o2]) (rest := []) hx hb hml hown hts hK hP (kt_X3_isName hD hc6) cw_X10_206 rfl rfl ⟨Nat.le_of_ble_eq_true rfl, Nat.le_of_ble_eq_true rfl⟩ rfl hl.1 rfl (Nat.le_of_ble_eq_true rfl) dX10_refusalToGoBy_16) hS (fun H locs hP hS => ?_)
    refine sx_if_ne (tgt := 25) hx hb hF dX10_refusalToGoBy_19 (by decide) (fun hF => ?_) (fun hF => ?_)
    · refine lv_aload_n hx hb dX10_refusalToGoBy_25 rfl (lv_at hl 0 rfl) ?_
      refine gx_h_nodes hx hb hts hown hK hP fl_X10_71 dX10_refusalToGoBy_26 ?_
      refine lv_iload_n hx hb dX10_refusalToGoBy_29 rfl (lv_at hl 1 rfl) ?_
      refine lv_iconst (v := 3) hx hb dX10_refusalToGoBy_30 (by decide) ?_
      refine lv_aload_n hx hb dX10_refusalToGoBy_31 rfl (lv_at hl 0 rfl) ?_
      refine gx_h_who hx hb hts hown hK hP fl_X10_113 dX10_refusalToGoBy_32 ?_
      obtain ⟨r7, u8, hc9, hF⟩ := q_bnd_some hF
      refine sx_ci (Wd := (ax_W a cI L)) (σ1 := u8) (q_runV (Wd := (ax_W a cI L)) (σ := u5) (q0 := 5) (ci := 4) (T := TX4) (N := 2) (As := [.int o1, .int 3, .int (q_i u5 0)]) (rest := []) hx hb hml hown hts hK hP (kt_X4_may hD hc9) cw_X10_176 rfl rfl ⟨Nat.le_of_ble_eq_true rfl, Nat.le_of_ble_eq_true rfl⟩ rfl rfl rfl hl.1 rfl (Nat.le_of_ble_eq_true rfl) dX10_refusalToGoBy_35) hS (fun H locs hP hS => ?_)
      refine sx_if_eq (tgt := 45) hx hb hF dX10_refusalToGoBy_38 (by decide) (fun hF => ?_) (fun hF => ?_)
      · refine lv_bipush (v := (-20)) hx hb dX10_refusalToGoBy_45 (by decide) ?_
        exact sx_reti (Wd := (ax_W a cI L)) (σ := u8) hx hb hr hF hP hS hlocks dX10_refusalToGoBy_47
      · refine lv_iconst (v := 0) hx hb dX10_refusalToGoBy_41 (by decide) ?_
        refine lv_goto (tgt := 47) hx hb dX10_refusalToGoBy_42 (by decide) ?_
        exact sx_reti (Wd := (ax_W a cI L)) (σ := u8) hx hb hr hF hP hS hlocks dX10_refusalToGoBy_47
    · refine lv_bipush (v := (-11)) hx hb dX10_refusalToGoBy_22 (by decide) ?_
      exact sx_reti (Wd := (ax_W a cI L)) (σ := u5) hx hb hr hF hP hS hlocks dX10_refusalToGoBy_24
  · refine lv_bipush (v := (-10)) hx hb dX10_refusalToGoBy_12 (by decide) ?_
    exact sx_reti (Wd := (ax_W a cI L)) (σ := u2) hx hb hr hF hP hS hlocks dX10_refusalToGoBy_14
set_option maxHeartbeats 4000000 in
set_option maxRecDepth 100000 in
theorem kt_X4_sectorOf {N : Nat} {l : Launch} {D : va_G} {a : Nat → Nat} {cI : Nat → ClassId} {L : Nat → Nat} (hD : ∀ σ, va_D (ax_A a) (ax_W a cI L σ)) {o1 : Int32} {u σ0 : q_St} {r0 : Int32} (hF : fX4_sectorOf L N o1 u = some (r0, σ0)) : Met l yX4_sectorOf (Cond.code yX4_sectorOf cX4_sectorOf 2 (some .int) :: q_T) ({ frames := 0, cells := 0, slots := 0, locals := 0 } : Room) (q_P D vwCl (ax_T cI) (ax_W a cI L) [.ref (a 5), .int o1] u) (q_Qi D vwCl (ax_W a cI L) (ax_A a) r0 σ0) 0 0 (ax_A a) := by
  refine Met.ofW (cc := cX4_sectorOf) (maxL := 2) (ret := (some .int)) (by decide) rfl ?_
  intro p e s m args below meth c s₁ B hml hv
  obtain ⟨rfl, hP, hK⟩ := hv
  have hx := B.exec
  have hb := B.bytes
  have hr := B.returns
  have hts := q_ts (atoms_spec (ws := Cond.code yX4_sectorOf cX4_sectorOf 2 (some .int) :: q_T) B.pre)
  have hown : s.vm.findClass RX4 = some m.cls := findClass_of_methodNamed B.named
  have hlocks := B.notSynchronized
  have hS : va_S (ax_A a) s.heap s.heap [] := va_S.rf
  have hl := lv_entry ([.ref (a 5), .int o1]) (n := 2) (Nat.le_of_ble_eq_true rfl)
  rw [lg_entry_eq]
  generalize (lg_sl ([.ref (a 5), .int o1]) ++ List.replicate (2 - (lg_sl ([.ref (a 5), .int o1])).length) Slot.unset).toArray = ls at hl ⊢
  have hl : lv_has ls 2 [(0, .ref (a 5)), (1, .int o1)] := hl
  unfold fX4_sectorOf at hF
  refine lv_aload_n hx hb dX4_sectorOf_0 rfl (lv_at hl 0 rfl) ?_
  refine gx_nodes_firstNode hx hb hts hown hK hP fl_X4_15 dX4_sectorOf_1 ?_
  refine lv_iload_n hx hb dX4_sectorOf_4 rfl (lv_at hl 1 rfl) ?_
  refine lv_iadd hx hb dX4_sectorOf_5 ?_
  exact sx_reti (Wd := (ax_W a cI L)) (σ := u) hx hb hr hF hP hS hlocks dX4_sectorOf_6
