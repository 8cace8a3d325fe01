set_option maxHeartbeats 4000000 in
set_option maxRecDepth 100000 in
theorem kt_X11_sizeOf {N : Nat} {l : Launch} {D : va_G} {a : Nat → Nat} {cI : Nat → ClassId} (hD : ∀ σ, va_D (am_A a) (am_W a cI σ)) {o1 : Int32} {u σ0 : q_St} {r0 : Int32} (hF : fX11_sizeOf N o1 u = some (r0, σ0)) : Met l yX11_sizeOf (Cond.code yX11_sizeOf cX11_sizeOf 2 (some .int) :: q_T) ({ frames := 0, cells := 0, slots := 0, locals := 0 } : Room) (q_P D vwCl (am_T cI) (am_W a cI) [.ref (a 0), .int o1] u) (q_Qi D vwCl (am_W a cI) (am_A a) r0 σ0) 0 0 (am_A a) := by
  refine Met.ofW (cc := cX11_sizeOf) (maxL := 2) (ret := (some .int)) (by decide) rfl ?_
  intro p e s m args below meth c s₁ B hml hv
  obtain ⟨rfl, hP, hK⟩ := hv
  have hx := B.exec
  have hb := B.bytes
  have hr := B.returns
  have hts := q_ts (atoms_spec (ws := Cond.code yX11_sizeOf cX11_sizeOf 2 (some .int) :: q_T) B.pre)
  have hown : s.vm.findClass RX11 = some m.cls := findClass_of_methodNamed B.named
  have hlocks := B.notSynchronized
  have hS : va_S (am_A a) s.heap s.heap [] := va_S.rf
  have hl := lv_entry ([.ref (a 0), .int o1]) (n := 2) (Nat.le_of_ble_eq_true rfl)
  rw [lg_entry_eq]
  generalize (lg_sl ([.ref (a 0), .int o1]) ++ List.replicate (2 - (lg_sl ([.ref (a 0), .int o1])).length) Slot.unset).toArray = ls at hl ⊢
  have hl : lv_has ls 2 [(0, .ref (a 0)), (1, .int o1)] := hl
  unfold fX11_sizeOf at hF
  refine lv_iload_n hx hb dX11_sizeOf_0 rfl (lv_at hl 1 rfl) ?_
  refine lv_iconst (v := (-1)) hx hb dX11_sizeOf_1 (by decide) ?_
  refine sx_icmp_ne (tgt := 12) hx hb hF dX11_sizeOf_2 (by decide) (fun hF => ?_) (fun hF => ?_)
  · refine lv_aload_n hx hb dX11_sizeOf_12 rfl (lv_at hl 0 rfl) ?_
    refine gm_m_size hx hb hts hown hK hP fl_X11_43 dX11_sizeOf_13 ?_
    refine lv_iload_n hx hb dX11_sizeOf_16 rfl (lv_at hl 1 rfl) ?_
    refine lm_m_size hx hb hK hP hF dX11_sizeOf_17 (fun v1 hF => ?_)
    exact sx_reti (Wd := (am_W a cI)) (σ := u) hx hb hr hF hP hS hlocks dX11_sizeOf_18
  · refine lv_aload_n hx hb dX11_sizeOf_5 rfl (lv_at hl 0 rfl) ?_
    refine gm_m_taped hx hb hts hown hK hP fl_X11_377 dX11_sizeOf_6 ?_
    refine lv_goto (tgt := 18) hx hb dX11_sizeOf_9 (by decide) ?_
    exact sx_reti (Wd := (am_W a cI)) (σ := u) hx hb hr hF hP hS hlocks dX11_sizeOf_18
set_option maxHeartbeats 4000000 in
set_option maxRecDepth 100000 in
theorem kt_X11_byteOf {N : Nat} {l : Launch} {D : va_G} {a : Nat → Nat} {cI : Nat → ClassId} (hD : ∀ σ, va_D (am_A a) (am_W a cI σ)) {o1 : Int32} {o2 : Int32} {u σ0 : q_St} {r0 : Int32} (hF : fX11_byteOf N o1 o2 u = some (r0, σ0)) : Met l yX11_byteOf (Cond.code yX11_byteOf cX11_byteOf 3 (some .int) :: q_T) ({ frames := 0, cells := 0, slots := 0, locals := 0 } : Room) (q_P D vwCl (am_T cI) (am_W a cI) [.ref (a 0), .int o1, .int o2] u) (q_Qi D vwCl (am_W a cI) (am_A a) r0 σ0) 0 0 (am_A a) := by
  refine Met.ofW (cc := cX11_byteOf) (maxL := 3) (ret := (some .int)) (by decide) rfl ?_
  intro p e s m args below meth c s₁ B hml hv
  obtain ⟨rfl, hP, hK⟩ := hv
  have hx := B.exec
  have hb := B.bytes
  have hr := B.returns
  have hts := q_ts (atoms_spec (ws := Cond.code yX11_byteOf cX11_byteOf 3 (some .int) :: q_T) B.pre)
  have hown : s.vm.findClass RX11 = some m.cls := findClass_of_methodNamed B.named
  have hlocks := B.notSynchronized
  have hS : va_S (am_A a) s.heap s.heap [] := va_S.rf
  have hl := lv_entry ([.ref (a 0), .int o1, .int o2]) (n := 3) (Nat.le_of_ble_eq_true rfl)
  rw [lg_entry_eq]
  generalize (lg_sl ([.ref (a 0), .int o1, .int o2]) ++ List.replicate (3 - (lg_sl ([.ref (a 0), .int o1, .int o2])).length) Slot.unset).toArray = ls at hl ⊢
  have hl : lv_has ls 3 [(0, .ref (a 0)), (1, .int o1), (2, .int o2)] := hl
  unfold fX11_byteOf at hF
  refine lv_iload_n hx hb dX11_byteOf_0 rfl (lv_at hl 1 rfl) ?_
  refine lv_iconst (v := (-1)) hx hb dX11_byteOf_1 (by decide) ?_
  refine sx_icmp_ne (tgt := 14) hx hb hF dX11_byteOf_2 (by decide) (fun hF => ?_) (fun hF => ?_)
  · refine lv_aload_n hx hb dX11_byteOf_14 rfl (lv_at hl 0 rfl) ?_
    refine gm_m_text hx hb hts hown hK hP fl_X11_78 dX11_byteOf_15 ?_
    refine lv_bipush (v := 40) hx hb dX11_byteOf_18 (by decide) ?_
    refine lv_iload_n hx hb dX11_byteOf_20 rfl (lv_at hl 1 rfl) ?_
    refine lv_imul hx hb dX11_byteOf_21 ?_
    refine lv_iload_n hx hb dX11_byteOf_22 rfl (lv_at hl 2 rfl) ?_
    refine lv_iadd hx hb dX11_byteOf_23 ?_
    refine lm_m_text hx hb hK hP hF dX11_byteOf_24 (fun v1 hF => ?_)
    exact sx_reti (Wd := (am_W a cI)) (σ := u) hx hb hr hF hP hS hlocks dX11_byteOf_25
  · refine lv_aload_n hx hb dX11_byteOf_5 rfl (lv_at hl 0 rfl) ?_
    refine gm_m_tape hx hb hts hown hK hP fl_X11_140 dX11_byteOf_6 ?_
    refine lv_iload_n hx hb dX11_byteOf_9 rfl (lv_at hl 2 rfl) ?_
    refine lm_m_tape hx hb hK hP hF dX11_byteOf_10 (fun v2 hF => ?_)
    refine lv_goto (tgt := 25) hx hb dX11_byteOf_11 (by decide) ?_
    exact sx_reti (Wd := (am_W a cI)) (σ := u) hx hb hr hF hP hS hlocks dX11_byteOf_25
set_option maxHeartbeats 4000000 in
set_option maxRecDepth 100000 in
theorem kt_X11_begin {N : Nat} {l : Launch} {D : va_G} {a : Nat → Nat} {cI : Nat → ClassId} (hD : ∀ σ, va_D (am_A a) (am_W a cI σ)) {o1 : Int32} {o2 : Int32} {u σ0 : q_St} {r0 : Int32} (hF : fX11_begin N o1 o2 u = some (r0, σ0)) : Met l yX11_begin (Cond.code yX11_begin cX11_begin 3 (some .int) :: q_T) ({ frames := 1, cells := 0, slots := 0, locals := 22 } : Room) (q_P D vwCl (am_T cI) (am_W a cI) [.ref (a 0), .int o1, .int o2] u) (q_Qi D vwCl (am_W a cI) (am_A a) r0 σ0) 0 0 (am_A a) := by
  refine Met.ofW (cc := cX11_begin) (maxL := 3) (ret := (some .int)) (by decide) rfl ?_
  intro p e s m args below meth c s₁ B hml hv
  obtain ⟨rfl, hP, hK⟩ := hv
  have hx := B.exec
  have hb := B.bytes
  have hr := B.returns
  have hts := q_ts (atoms_spec (ws := Cond.code yX11_begin cX11_begin 3 (some .int) :: q_T) B.pre)
  have hown : s.vm.findClass RX11 = some m.cls := findClass_of_methodNamed B.named
  have hlocks := B.notSynchronized
  have hS : va_S (am_A a) s.heap s.heap [] := va_S.rf
  have hl := lv_entry ([.ref (a 0), .int o1, .int o2]) (n := 3) (Nat.le_of_ble_eq_true rfl)
  rw [lg_entry_eq]
  generalize (lg_sl ([.ref (a 0), .int o1, .int o2]) ++ List.replicate (3 - (lg_sl ([.ref (a 0), .int o1, .int o2])).length) Slot.unset).toArray = ls at hl ⊢
  have hl : lv_has ls 3 [(0, .ref (a 0)), (1, .int o1), (2, .int o2)] := hl
  unfold fX11_begin at hF
  refine lv_aload_n hx hb dX11_begin_0 rfl (lv_at hl 0 rfl) ?_
  refine gm_m_waits hx hb hts hown hK hP fl_X11_143 dX11_begin_1 ?_
  refine lv_aload_n hx hb dX11_begin_4 rfl (lv_at hl 0 rfl) ?_
  refine gm_m_high hx hb hts hown hK hP fl_X11_380 dX11_begin_5 ?_
  refine lv_iload_n hx hb dX11_begin_8 rfl (lv_at hl 1 rfl) ?_
  refine um_m_waits hx hb hK hP hD hS hF dX11_begin_9 (fun u1 H locs hF hP hS => ?_)
  refine lv_aload_n hx hb dX11_begin_10 rfl (lv_at hl 0 rfl) ?_
  refine gm_m_spot hx hb hts hown hK hP fl_X11_146 dX11_begin_11 ?_
  refine lv_aload_n hx hb dX11_begin_14 rfl (lv_at hl 0 rfl) ?_
  refine gm_m_high hx hb hts hown hK hP fl_X11_380 dX11_begin_15 ?_
  refine lv_iconst (v := 0) hx hb dX11_begin_18 (by decide) ?_
  refine um_m_spot hx hb hK hP hD hS hF dX11_begin_19 (fun u2 H locs hF hP hS => ?_)
  refine lv_aload_n hx hb dX11_begin_20 rfl (lv_at hl 0 rfl) ?_
  refine lv_dup hx hb dX11_begin_21 rfl ?_
  refine gm_m_high hx hb hts hown hK hP fl_X11_380 dX11_begin_22 ?_
  refine lv_iconst (v := 1) hx hb dX11_begin_25 (by decide) ?_
  refine lv_iadd hx hb dX11_begin_26 ?_
  refine pm_m_high hx hb hts hown hK hP fl_X11_380 hD hS hF dX11_begin_27 (fun u3 H locs hF hP hS => ?_)
  refine lv_aload_n hx hb dX11_begin_30 rfl (lv_at hl 0 rfl) ?_
  refine lv_iload_n hx hb dX11_begin_31 rfl (lv_at hl 1 rfl) ?_
  obtain ⟨r4, u5, hc6, hF⟩ := q_bnd_some hF
  refine sx_ci (Wd := (am_W a cI)) (σ1 := u5) (q_runV (Wd := (am_W a cI)) (σ := u3) (q0 := 0) (ci := 11) (T := TX11) (N := 72) (As := [.int o1]) (rest := []) hx hb hml hown hts hK hP (kt_X11_sizeOf hD hc6) cw_X11_383 rfl rfl ⟨Nat.le_of_ble_eq_true rfl, Nat.le_of_ble_eq_true rfl⟩ rfl rfl rfl hl.1 rfl (Nat.le_of_ble_eq_true rfl) dX11_begin_32) hS (fun H locs hP hS => ?_)
  refine sx_if_le (tgt := 53) hx hb hF dX11_begin_35 (by decide) (fun hF => ?_) (fun hF => ?_)
  · refine lv_iload_n hx hb dX11_begin_53 rfl (lv_at hl 2 rfl) ?_
    exact sx_reti (Wd := (am_W a cI)) (σ := u5) hx hb hr hF hP hS hlocks dX11_begin_54
  · refine lv_aload_n hx hb dX11_begin_38 rfl (lv_at hl 0 rfl) ?_
    refine lv_iload_n hx hb dX11_begin_39 rfl (lv_at hl 1 rfl) ?_
    refine lv_iconst (v := 0) hx hb dX11_begin_40 (by decide) ?_
    obtain ⟨r7, u8, hc9, hF⟩ := q_bnd_some hF
    refine sx_ci (Wd := (am_W a cI)) (σ1 := u8) (q_runV (Wd := (am_W a cI)) (σ := u5) (q0 := 0) (ci := 11) (T := TX11) (N := 72) (As := [.int o1, .int 0]) (rest := []) hx hb hml hown hts hK hP (kt_X11_byteOf hD hc9) cw_X11_386 rfl rfl ⟨Nat.le_of_ble_eq_true rfl, Nat.le_of_ble_eq_true rfl⟩ rfl rfl rfl hl.1 rfl (Nat.le_of_ble_eq_true rfl) dX11_begin_41) hS (fun H locs hP hS => ?_)
    refine lv_bipush (v := 47) hx hb dX11_begin_44 (by decide) ?_
    refine sx_icmp_ne (tgt := 53) hx hb hF dX11_begin_46 (by decide) (fun hF => ?_) (fun hF => ?_)
    · refine lv_iload_n hx hb dX11_begin_53 rfl (lv_at hl 2 rfl) ?_
      exact sx_reti (Wd := (am_W a cI)) (σ := u8) hx hb hr hF hP hS hlocks dX11_begin_54
    · refine lv_iconst (v := 0) hx hb dX11_begin_49 (by decide) ?_
      refine lv_goto (tgt := 54) hx hb dX11_begin_50 (by decide) ?_
      exact sx_reti (Wd := (am_W a cI)) (σ := u8) hx hb hr hF hP hS hlocks dX11_begin_54
set_option maxHeartbeats 4000000 in
set_option maxRecDepth 100000 in
theorem kt_X11_isWhole {N : Nat} {l : Launch} {D : va_G} {a : Nat → Nat} {cI : Nat → ClassId} (hD : ∀ σ, va_D (am_A a) (am_W a cI σ)) {o0 : Int64} {o2 : Int32} {u σ0 : q_St} {r0 : Int32} (hF : fX11_isWhole N o0 o2 u = some (r0, σ0)) : Met l yX11_isWhole (Cond.code yX11_isWhole cX11_isWhole 3 (some .boolean) :: q_T) ({ frames := 2, cells := 0, slots := 0, locals := 45 } : Room) (q_P D vwCl (am_T cI) (am_W a cI) [.long o0, .int o2] u) (q_Qi D vwCl (am_W a cI) (am_A a) r0 σ0) 0 0 (am_A a) := by
  refine Met.ofW (cc := cX11_isWhole) (maxL := 3) (ret := (some .boolean)) (by decide) rfl ?_
  intro p e s m args below meth c s₁ B hml hv
  obtain ⟨rfl, hP, hK⟩ := hv
  have hx := B.exec
  have hb := B.bytes
  have hr := B.returns
  have hts := q_ts (atoms_spec (ws := Cond.code yX11_isWhole cX11_isWhole 3 (some .boolean) :: q_T) B.pre)
  have hown : s.vm.findClass RX11 = some m.cls := findClass_of_methodNamed B.named
  have hlocks := B.notSynchronized
  have hS : va_S (am_A a) s.heap s.heap [] := va_S.rf
  have hl := lv_entry ([.long o0, .int o2]) (n := 3) (Nat.le_of_ble_eq_true rfl)
  rw [lg_entry_eq]
  generalize (lg_sl ([.long o0, .int o2]) ++ List.replicate (3 - (lg_sl ([.long o0, .int o2])).length) Slot.unset).toArray = ls at hl ⊢
  have hl : lv_has ls 3 [(0, .long o0), (2, .int o2)] := hl
  have hB21 : ∀ (x0 : Int64) (x2 : Int32) (u : q_St) (ls : Array Slot), lv_has ls 3 [(0, .long x0), (2, .int x2)] → fX11_isWhole_b21 N x0 x2 u = some (r0, σ0) → ∀ (H : Heap) (locs : List Loc), va_P D vwCl (am_W a cI u) H → va_S (am_A a) s.heap H locs → W p l e (headSpec (Cond.code yX11_isWhole cX11_isWhole 3 (some .boolean) :: q_T) ({ frames := 2, cells := 0, slots := 0, locals := 45 } : Room)).room s m ([.long o0, .int o2] : List Value).toArray below meth c H locs 0 0 (MQ below (q_Qi D vwCl (am_W a cI) (am_A a) r0 σ0) ([.long o0, .int o2] : List Value).toArray s 0 0 (am_A a)) (F0 m 21 ls []) := by
    intro x0 x2 u ls hl hF _ _ hP hS
    unfold fX11_isWhole_b21 at hF
    refine lv_lload_n hx hb dX11_isWhole_21 rfl (lv_at hl 0 rfl) ?_
    refine lv_iload_n hx hb dX11_isWhole_22 rfl (lv_at hl 1 rfl) ?_
    refine lv_iconst (v := 1) hx hb dX11_isWhole_23 (by decide) ?_
    refine lv_isub hx hb dX11_isWhole_24 ?_
    obtain ⟨r4, u5, hc6, hF⟩ := q_bnd_some hF
    refine sx_ci (Wd := (am_W a cI)) (σ1 := u5) (q_runS (Wd := (am_W a cI)) (σ := u) (As := [.long x0, .int (x2 - 1)]) (rest := []) hx hb hml hown hts hK hP (kt_X11_letter hD hc6) cw_X11_308 rfl rfl ⟨Nat.le_of_ble_eq_true rfl, Nat.le_of_ble_eq_true rfl⟩ rfl hl.1 rfl (Nat.le_of_ble_eq_true rfl) dX11_isWhole_25) hS (fun H locs hP hS => ?_)
    refine sx_if_eq (tgt := 35) hx hb hF dX11_isWhole_28 (by decide) (fun hF => ?_) (fun hF => ?_)
    · refine lv_iconst (v := 0) hx hb dX11_isWhole_35 (by decide) ?_
      exact sx_retz (Wd := (am_W a cI)) (σ := u5) hx hb hr (by decide) hF hP hS hlocks dX11_isWhole_36
    · refine lv_iconst (v := 1) hx hb dX11_isWhole_31 (by decide) ?_
      refine lv_goto (tgt := 36) hx hb dX11_isWhole_32 (by decide) ?_
      exact sx_retz (Wd := (am_W a cI)) (σ := u5) hx hb hr (by decide) hF hP hS hlocks dX11_isWhole_36
  unfold fX11_isWhole at hF
  refine lv_lload_n hx hb dX11_isWhole_0 rfl (lv_at hl 0 rfl) ?_
  obtain ⟨r1, u2, hc3, hF⟩ := q_bnd_some hF
  refine sx_ci (Wd := (am_W a cI)) (σ1 := u2) (q_runS (Wd := (am_W a cI)) (σ := u) (As := [.long o0]) (rest := []) hx hb hml hown hts hK hP (kt_X11_isName hD hc3) cw_X11_342 rfl rfl ⟨Nat.le_of_ble_eq_true rfl, Nat.le_of_ble_eq_true rfl⟩ rfl hl.1 rfl (Nat.le_of_ble_eq_true rfl) dX11_isWhole_1) hS (fun H locs hP hS => ?_)
  refine sx_if_eq (tgt := 35) hx hb hF dX11_isWhole_4 (by decide) (fun hF => ?_) (fun hF => ?_)
  · refine lv_iconst (v := 0) hx hb dX11_isWhole_35 (by decide) ?_
    exact sx_retz (Wd := (am_W a cI)) (σ := u2) hx hb hr (by decide) hF hP hS hlocks dX11_isWhole_36
  · refine lv_iload_n hx hb dX11_isWhole_7 rfl (lv_at hl 1 rfl) ?_
    refine lv_bipush (v := 8) hx hb dX11_isWhole_8 (by decide) ?_
    refine sx_icmp_eq (tgt := 21) hx hb hF dX11_isWhole_10 (by decide) (fun hF => ?_) (fun hF => ?_)
    · exact hB21 o0 o2 u2 ls (lv_sub hl [0, 1] rfl) hF _ _ hP hS
    · refine lv_lload_n hx hb dX11_isWhole_13 rfl (lv_at hl 0 rfl) ?_
      refine lv_iload_n hx hb dX11_isWhole_14 rfl (lv_at hl 1 rfl) ?_
      obtain ⟨r7, u8, hc9, hF⟩ := q_bnd_some hF
      refine sx_ci (Wd := (am_W a cI)) (σ1 := u8) (q_runS (Wd := (am_W a cI)) (σ := u2) (As := [.long o0, .int o2]) (rest := []) hx hb hml hown hts hK hP (kt_X11_letter hD hc9) cw_X11_308 rfl rfl ⟨Nat.le_of_ble_eq_true rfl, Nat.le_of_ble_eq_true rfl⟩ rfl hl.1 rfl (Nat.le_of_ble_eq_true rfl) dX11_isWhole_15) hS (fun H locs hP hS => ?_)
      refine sx_if_ne (tgt := 35) hx hb hF dX11_isWhole_18 (by decide) (fun hF => ?_) (fun hF => ?_)
      · refine lv_iconst (v := 0) hx hb dX11_isWhole_35 (by decide) ?_
        exact sx_retz (Wd := (am_W a cI)) (σ := u8) hx hb hr (by decide) hF hP hS hlocks dX11_isWhole_36
      · exact hB21 o0 o2 u8 ls (lv_sub hl [0, 1] rfl) hF _ _ hP hS
set_option maxHeartbeats 4000000 in
set_option maxRecDepth 100000 in
theorem kt_X11_part {N : Nat} {l : Launch} {D : va_G} {a : Nat → Nat} {cI : Nat → ClassId} (hD : ∀ σ, va_D (am_A a) (am_W a cI σ)) {o1 : Int32} {u σ0 : q_St} {r0 : Int32} (hF : fX11_part N o1 u = some (r0, σ0)) : Met l yX11_part (Cond.code yX11_part cX11_part 11 (some .int) :: q_T) ({ frames := 3, cells := 0, slots := 0, locals := 67 } : Room) (q_P D vwCl (am_T cI) (am_W a cI) [.ref (a 0), .int o1] u) (q_Qi D vwCl (am_W a cI) (am_A a) r0 σ0) 0 0 (am_A a) := by
  refine Met.ofW (cc := cX11_part) (maxL := 11) (ret := (some .int)) (by decide) rfl ?_
  intro p e s m args below meth c s₁ B hml hv
  obtain ⟨rfl, hP, hK⟩ := hv
  have hx := B.exec
  have hb := B.bytes
  have hr := B.returns
  have hts := q_ts (atoms_spec (ws := Cond.code yX11_part cX11_part 11 (some .int) :: q_T) B.pre)
  have hown : s.vm.findClass RX11 = some m.cls := findClass_of_methodNamed B.named
  have hlocks := B.notSynchronized
  have hS : va_S (am_A a) s.heap s.heap [] := va_S.rf
  have hl := lv_entry ([.ref (a 0), .int o1]) (n := 11) (Nat.le_of_ble_eq_true rfl)
  rw [lg_entry_eq]
  generalize (lg_sl ([.ref (a 0), .int o1]) ++ List.replicate (11 - (lg_sl ([.ref (a 0), .int o1])).length) Slot.unset).toArray = ls at hl ⊢
  have hl : lv_has ls 11 [(0, .ref (a 0)), (1, .int o1)] := hl
  have hB203 : ∀ (n : Nat) (x1 : Int32) (x2 : Int32) (x3 : Int32) (x5 : Int32) (x7 : Int64) (x9 : Int32) (u : q_St) (ls : Array Slot), lv_has ls 11 [(0, .ref (a 0)), (1, .int x1), (2, .int x2), (3, .int x3), (5, .int x5), (7, .long x7), (9, .int x9)] → q_lp (fX11_part_b203 N) (fun _ _ _ _ _ _ _ => none) n x1 x2 x3 x5 x7 x9 u = some (r0, σ0) → ∀ (H : Heap) (locs : List Loc), va_P D vwCl (am_W a cI u) H → va_S (am_A a) s.heap H locs → W p l e (headSpec (Cond.code yX11_part cX11_part 11 (some .int) :: q_T) ({ frames := 3, cells := 0, slots := 0, locals := 67 } : Room)).room s m ([.ref (a 0), .int o1] : List Value).toArray below meth c H locs 0 0 (MQ below (q_Qi D vwCl (am_W a cI) (am_A a) r0 σ0) ([.ref (a 0), .int o1] : List Value).toArray s 0 0 (am_A a)) (F0 m 203 ls []) := by
    intro n
    induction n with
    | zero => intro x1 x2 x3 x5 x7 x9 u ls hl hF; exact absurd (show (none : Option (Int32 × q_St)) = some _ from hF) (fun h => nomatch h)
    | succ n hi203 =>
      intro x1 x2 x3 x5 x7 x9 u ls hl hF _ _ hP hS
      obtain ⟨ih203, hih⟩ : ∃ q, q = q_lp (fX11_part_b203 N) (fun _ _ _ _ _ _ _ => none) n := ⟨_, rfl⟩
      rw [← hih] at hi203
      have hF : fX11_part_b203 N (q_lp (fX11_part_b203 N) (fun _ _ _ _ _ _ _ => none) n) x1 x2 x3 x5 x7 x9 u = some (r0, σ0) := hF
      rw [← hih] at hF
      clear hih
      unfold fX11_part_b203 at hF
      refine lv_iload hx hb dX11_part_203 (lv_at hl 6 rfl) ?_
      refine lv_iload_n hx hb dX11_part_205 rfl (lv_at hl 3 rfl) ?_
      refine sx_icmp_lt (tgt := 235) hx hb hF dX11_part_206 (by decide) (fun hF => ?_) (fun hF => ?_)
      · refine lv_lload hx hb dX11_part_235 (lv_at hl 5 rfl) ?_
        refine lv_iload hx hb dX11_part_237 (lv_at hl 4 rfl) ?_
        obtain ⟨r13, u14, hc15, hF⟩ := q_bnd_some hF
        refine sx_ci (Wd := (am_W a cI)) (σ1 := u14) (q_runS (Wd := (am_W a cI)) (σ := u) (As := [.long x7, .int x5]) (rest := []) hx hb hml hown hts hK hP (kt_X11_isWhole hD hc15) cw_X11_399 rfl rfl ⟨Nat.le_of_ble_eq_true rfl, Nat.le_of_ble_eq_true rfl⟩ rfl hl.1 rfl (Nat.le_of_ble_eq_true rfl) dX11_part_239) hS (fun H locs hP hS => ?_)
        refine sx_if_ne (tgt := 248) hx hb hF dX11_part_242 (by decide) (fun hF => ?_) (fun hF => ?_)
        · refine lv_aload_n hx hb dX11_part_248 rfl (lv_at hl 0 rfl) ?_
          refine lv_iload_n hx hb dX11_part_249 rfl (lv_at hl 1 rfl) ?_
          refine lv_iconst (v := 1) hx hb dX11_part_250 (by decide) ?_
          obtain ⟨r16, u17, hc18, hF⟩ := q_bnd_some hF
          refine sx_ci (Wd := (am_W a cI)) (σ1 := u17) (q_runV (Wd := (am_W a cI)) (σ := u14) (q0 := 0) (ci := 11) (T := TX11) (N := 72) (As := [.int x1, .int 1]) (rest := []) hx hb hml hown hts hK hP (kt_X11_may hD hc18) cw_X11_346 rfl rfl ⟨Nat.le_of_ble_eq_true rfl, Nat.le_of_ble_eq_true rfl⟩ rfl rfl rfl hl.1 rfl (Nat.le_of_ble_eq_true rfl) dX11_part_251) hS (fun H locs hP hS => ?_)
          refine sx_if_ne (tgt := 260) hx hb hF dX11_part_254 (by decide) (fun hF => ?_) (fun hF => ?_)
          · refine lv_aload_n hx hb dX11_part_260 rfl (lv_at hl 0 rfl) ?_
            refine lv_iload_n hx hb dX11_part_261 rfl (lv_at hl 1 rfl) ?_
            refine lv_lload hx hb dX11_part_262 (lv_at hl 5 rfl) ?_
            obtain ⟨r19, u20, hc21, hF⟩ := q_bnd_some hF
            refine sx_ci (Wd := (am_W a cI)) (σ1 := u20) (q_runV (Wd := (am_W a cI)) (σ := u17) (q0 := 0) (ci := 11) (T := TX11) (N := 72) (As := [.int x1, .long x7]) (rest := []) hx hb hml hown hts hK hP (kt_X11_slotOf hD hc21) cw_X11_349 rfl rfl ⟨Nat.le_of_ble_eq_true rfl, Nat.le_of_ble_eq_true rfl⟩ rfl rfl rfl hl.1 rfl (Nat.le_of_ble_eq_true rfl) dX11_part_264) hS (fun H locs hP hS => ?_)
            refine lv_istore (lv' := [(9, .int r19), (0, .ref (a 0)), (1, .int x1), (2, .int x2), (3, .int x3), (5, .int x5), (7, .long x7)]) hx hb dX11_part_267 hl (by decide) rfl (fun ls hl => ?_)
            refine lv_iload hx hb dX11_part_269 (lv_at hl 0 rfl) ?_
            refine lv_iconst (v := (-1)) hx hb dX11_part_271 (by decide) ?_
            refine sx_icmp_ne (tgt := 278) hx hb hF dX11_part_272 (by decide) (fun hF => ?_) (fun hF => ?_)
            · refine lv_aload_n hx hb dX11_part_278 rfl (lv_at hl 1 rfl) ?_
              refine gm_m_slotNode hx hb hts hown hK hP fl_X11_68 dX11_part_279 ?_
              refine lv_iload hx hb dX11_part_282 (lv_at hl 0 rfl) ?_
              refine lm_m_slotNode hx hb hK hP hF dX11_part_284 (fun v22 hF => ?_)
              refine lv_istore (lv' := [(10, .int v22), (9, .int r19), (0, .ref (a 0)), (1, .int x1), (2, .int x2), (3, .int x3), (5, .int x5), (7, .long x7)]) hx hb dX11_part_285 hl (by decide) rfl (fun ls hl => ?_)
              refine lv_aload_n hx hb dX11_part_287 rfl (lv_at hl 2 rfl) ?_
              refine gm_m_kind hx hb hts hown hK hP fl_X11_40 dX11_part_288 ?_
              refine lv_iload hx hb dX11_part_291 (lv_at hl 0 rfl) ?_
              refine lm_m_kind hx hb hK hP hF dX11_part_293 (fun v23 hF => ?_)
              refine lv_iconst (v := 4) hx hb dX11_part_294 (by decide) ?_
              refine sx_icmp_eq (tgt := 301) hx hb hF dX11_part_295 (by decide) (fun hF => ?_) (fun hF => ?_)
              · refine lv_aload_n hx hb dX11_part_301 rfl (lv_at hl 2 rfl) ?_
                refine lv_dup hx hb dX11_part_302 rfl ?_
                refine gm_m_seen hx hb hts hown hK hP fl_X11_390 dX11_part_303 ?_
                refine lv_iconst (v := 1) hx hb dX11_part_306 (by decide) ?_
                refine lv_iadd hx hb dX11_part_307 ?_
                refine pm_m_seen hx hb hts hown hK hP fl_X11_390 hD hS hF dX11_part_308 (fun u24 H locs hF hP hS => ?_)
                refine lv_aload_n hx hb dX11_part_311 rfl (lv_at hl 2 rfl) ?_
                refine gm_m_seen hx hb hts hown hK hP fl_X11_390 dX11_part_312 ?_
                refine lv_bipush (v := 8) hx hb dX11_part_315 (by decide) ?_
                refine sx_icmp_le (tgt := 325) hx hb hF dX11_part_317 (by decide) (fun hF => ?_) (fun hF => ?_)
                · refine lv_aload_n hx hb dX11_part_325 rfl (lv_at hl 2 rfl) ?_
                  refine lv_iload hx hb dX11_part_326 (lv_at hl 0 rfl) ?_
                  refine lv_iload_n hx hb dX11_part_328 rfl (lv_at hl 3 rfl) ?_
                  obtain ⟨r25, u26, hc27, hF⟩ := q_bnd_some hF
                  refine sx_ci (Wd := (am_W a cI)) (σ1 := u26) (q_runV (Wd := (am_W a cI)) (σ := u24) (q0 := 0) (ci := 11) (T := TX11) (N := 72) (As := [.int v22, .int x1]) (rest := []) hx hb hml hown hts hK hP (kt_X11_begin hD hc27) cw_X11_393 rfl rfl ⟨Nat.le_of_ble_eq_true rfl, Nat.le_of_ble_eq_true rfl⟩ rfl rfl rfl hl.1 rfl (Nat.le_of_ble_eq_true rfl) dX11_part_329) hS (fun H locs hP hS => ?_)
                  exact sx_reti (Wd := (am_W a cI)) (σ := u26) hx hb hr hF hP hS hlocks dX11_part_332
                · refine lv_bipush (v := (-19)) hx hb dX11_part_320 (by decide) ?_
                  refine lv_goto (tgt := 332) hx hb dX11_part_322 (by decide) ?_
                  exact sx_reti (Wd := (am_W a cI)) (σ := u24) hx hb hr hF hP hS hlocks dX11_part_332
              · refine lv_iload hx hb dX11_part_298 (lv_at hl 0 rfl) ?_
                exact sx_reti (Wd := (am_W a cI)) (σ := u20) hx hb hr hF hP hS hlocks dX11_part_300
            · refine lv_bipush (v := (-12)) hx hb dX11_part_275 (by decide) ?_
              exact sx_reti (Wd := (am_W a cI)) (σ := u20) hx hb hr hF hP hS hlocks dX11_part_277
          · refine lv_bipush (v := (-20)) hx hb dX11_part_257 (by decide) ?_
            exact sx_reti (Wd := (am_W a cI)) (σ := u17) hx hb hr hF hP hS hlocks dX11_part_259
        · refine lv_bipush (v := (-11)) hx hb dX11_part_245 (by decide) ?_
          exact sx_reti (Wd := (am_W a cI)) (σ := u14) hx hb hr hF hP hS hlocks dX11_part_247
      · refine lv_lload hx hb dX11_part_209 (lv_at hl 5 rfl) ?_
        refine lv_bipush (v := 8) hx hb dX11_part_211 (by decide) ?_
        refine lv_lshl (v := q_lshl x7 8) hx hb dX11_part_213 rfl ?_
        refine lv_aload_n hx hb dX11_part_214 rfl (lv_at hl 0 rfl) ?_
        refine lv_iload_n hx hb dX11_part_215 rfl (lv_at hl 2 rfl) ?_
        refine lv_iload hx hb dX11_part_216 (lv_at hl 6 rfl) ?_
        obtain ⟨r28, u29, hc30, hF⟩ := q_bnd_some hF
        refine sx_ci (Wd := (am_W a cI)) (σ1 := u29) (q_runV (Wd := (am_W a cI)) (σ := u) (q0 := 0) (ci := 11) (T := TX11) (N := 72) (As := [.int x2, .int x9]) (rest := [.long (q_lshl x7 8)]) hx hb hml hown hts hK hP (kt_X11_byteOf hD hc30) cw_X11_386 rfl rfl ⟨Nat.le_of_ble_eq_true rfl, Nat.le_of_ble_eq_true rfl⟩ rfl rfl rfl hl.1 rfl (Nat.le_of_ble_eq_true rfl) dX11_part_218) hS (fun H locs hP hS => ?_)
        refine lv_sipush (v := 255) hx hb dX11_part_221 (by decide) ?_
        refine lv_iand hx hb dX11_part_224 ?_
        refine lv_i2l (v := Int32.toInt64 (r28 &&& 255)) hx hb dX11_part_225 rfl ?_
        refine lv_lor hx hb dX11_part_226 ?_
        refine sx_lstore (lv2 := [(0, .ref (a 0)), (1, .int x1), (2, .int x2), (3, .int x3), (5, .int x5), (9, .int x9)]) hx hb hF dX11_part_227 hl (by decide) rfl (fun v31 hF ls hl => ?_)
        refine sx_iinc (d := (-1)) (k := 6) (lv2 := [(7, .long v31), (0, .ref (a 0)), (1, .int x1), (2, .int x2), (3, .int x3), (5, .int x5)]) hx hb hF dX11_part_229 hl rfl (by decide) (by decide) rfl (fun v32 hF ls hl => ?_)
        refine lv_goto (tgt := 203) hx hb dX11_part_232 (by decide) ?_
        exact hi203 x1 x2 x3 x5 v31 v32 u29 ls (lv_sub hl [2, 3, 4, 5, 6, 1, 0] rfl) hF _ _ hP hS
  have hB184 : ∀ (x1 : Int32) (x2 : Int32) (x3 : Int32) (x4 : Int32) (x5 : Int32) (u : q_St) (ls : Array Slot), lv_has ls 11 [(0, .ref (a 0)), (1, .int x1), (2, .int x2), (3, .int x3), (4, .int x4), (5, .int x5)] → fX11_part_b184 N x1 x2 x3 x4 x5 u = some (r0, σ0) → ∀ (H : Heap) (locs : List Loc), va_P D vwCl (am_W a cI u) H → va_S (am_A a) s.heap H locs → W p l e (headSpec (Cond.code yX11_part cX11_part 11 (some .int) :: q_T) ({ frames := 3, cells := 0, slots := 0, locals := 67 } : Room)).room s m ([.ref (a 0), .int o1] : List Value).toArray below meth c H locs 0 0 (MQ below (q_Qi D vwCl (am_W a cI) (am_A a) r0 σ0) ([.ref (a 0), .int o1] : List Value).toArray s 0 0 (am_A a)) (F0 m 184 ls []) := by
    intro x1 x2 x3 x4 x5 u ls hl hF _ _ hP hS
    unfold fX11_part_b184 at hF
    refine lv_iload hx hb dX11_part_184 (lv_at hl 5 rfl) ?_
    refine lv_bipush (v := 8) hx hb dX11_part_186 (by decide) ?_
    refine sx_icmp_le (tgt := 194) hx hb hF dX11_part_188 (by decide) (fun hF => ?_) (fun hF => ?_)
    · refine lv_lconst (v := 0) hx hb dX11_part_194 (by decide) ?_
      refine lv_lstore (lv' := [(7, .long 0), (0, .ref (a 0)), (1, .int x1), (2, .int x2), (3, .int x3), (4, .int x4), (5, .int x5)]) hx hb dX11_part_195 hl (by decide) rfl (fun ls hl => ?_)
      refine lv_iload hx hb dX11_part_197 (lv_at hl 5 rfl) ?_
      refine lv_iconst (v := 1) hx hb dX11_part_199 (by decide) ?_
      refine lv_isub hx hb dX11_part_200 ?_
      refine sx_istore (lv2 := [(7, .long 0), (0, .ref (a 0)), (1, .int x1), (2, .int x2), (3, .int x3), (4, .int x4), (5, .int x5)]) hx hb hF dX11_part_201 hl (by decide) rfl (fun v12 hF ls hl => ?_)
      exact hB203 N x1 x2 x3 x5 0 v12 u ls (lv_sub hl [2, 3, 4, 5, 7, 1, 0] rfl) hF _ _ hP hS
    · refine lv_bipush (v := (-11)) hx hb dX11_part_191 (by decide) ?_
      exact sx_reti (Wd := (am_W a cI)) (σ := u) hx hb hr hF hP hS hlocks dX11_part_193
  have hB153 : ∀ (x1 : Int32) (x2 : Int32) (x3 : Int32) (x4 : Int32) (x5 : Int32) (x6 : Int32) (u : q_St) (ls : Array Slot), lv_has ls 11 [(0, .ref (a 0)), (1, .int x1), (2, .int x2), (3, .int x3), (4, .int x4), (5, .int x5), (6, .int x6)] → fX11_part_b153 N x1 x2 x3 x4 x5 x6 u = some (r0, σ0) → ∀ (H : Heap) (locs : List Loc), va_P D vwCl (am_W a cI u) H → va_S (am_A a) s.heap H locs → W p l e (headSpec (Cond.code yX11_part cX11_part 11 (some .int) :: q_T) ({ frames := 3, cells := 0, slots := 0, locals := 67 } : Room)).room s m ([.ref (a 0), .int o1] : List Value).toArray below meth c H locs 0 0 (MQ below (q_Qi D vwCl (am_W a cI) (am_A a) r0 σ0) ([.ref (a 0), .int o1] : List Value).toArray s 0 0 (am_A a)) (F0 m 153 ls []) := by
    intro x1 x2 x3 x4 x5 x6 u ls hl hF _ _ hP hS
    unfold fX11_part_b153 at hF
    refine lv_iload hx hb dX11_part_153 (lv_at hl 5 rfl) ?_
    refine lv_iconst (v := 2) hx hb dX11_part_155 (by decide) ?_
    refine sx_icmp_ne (tgt := 184) hx hb hF dX11_part_156 (by decide) (fun hF => ?_) (fun hF => ?_)
    · exact hB184 x1 x2 x3 x4 x5 u ls (lv_sub hl [0, 1, 2, 3, 4, 5] rfl) hF _ _ hP hS
    · refine lv_iload hx hb dX11_part_159 (lv_at hl 6 rfl) ?_
      refine sx_if_eq (tgt := 184) hx hb hF dX11_part_161 (by decide) (fun hF => ?_) (fun hF => ?_)
      · exact hB184 x1 x2 x3 x4 x5 u ls (lv_sub hl [0, 1, 2, 3, 4, 5] rfl) hF _ _ hP hS
      · refine lv_aload_n hx hb dX11_part_164 rfl (lv_at hl 0 rfl) ?_
        refine lv_iload_n hx hb dX11_part_165 rfl (lv_at hl 2 rfl) ?_
        refine lv_iload_n hx hb dX11_part_166 rfl (lv_at hl 3 rfl) ?_
        refine lv_iconst (v := 1) hx hb dX11_part_167 (by decide) ?_
        refine lv_iadd hx hb dX11_part_168 ?_
        obtain ⟨r33, u34, hc35, hF⟩ := q_bnd_some hF
        refine sx_ci (Wd := (am_W a cI)) (σ1 := u34) (q_runV (Wd := (am_W a cI)) (σ := u) (q0 := 0) (ci := 11) (T := TX11) (N := 72) (As := [.int x2, .int (x3 + 1)]) (rest := []) hx hb hml hown hts hK hP (kt_X11_byteOf hD hc35) cw_X11_386 rfl rfl ⟨Nat.le_of_ble_eq_true rfl, Nat.le_of_ble_eq_true rfl⟩ rfl rfl rfl hl.1 rfl (Nat.le_of_ble_eq_true rfl) dX11_part_169) hS (fun H locs hP hS => ?_)
        refine lv_bipush (v := 46) hx hb dX11_part_172 (by decide) ?_
        refine sx_icmp_ne (tgt := 184) hx hb hF dX11_part_174 (by decide) (fun hF => ?_) (fun hF => ?_)
        · exact hB184 x1 x2 x3 x4 x5 u34 ls (lv_sub hl [0, 1, 2, 3, 4, 5] rfl) hF _ _ hP hS
        · refine lv_aload_n hx hb dX11_part_177 rfl (lv_at hl 0 rfl) ?_
          refine gm_m_parent hx hb hts hown hK hP fl_X11_46 dX11_part_178 ?_
          refine lv_iload_n hx hb dX11_part_181 rfl (lv_at hl 1 rfl) ?_
          refine lm_m_parent hx hb hK hP hF dX11_part_182 (fun v36 hF => ?_)
          exact sx_reti (Wd := (am_W a cI)) (σ := u34) hx hb hr hF hP hS hlocks dX11_part_183
  have hB133 : ∀ (x1 : Int32) (x2 : Int32) (x3 : Int32) (x4 : Int32) (x5 : Int32) (y0 : Int32) (u : q_St) (ls : Array Slot), lv_has ls 11 [(0, .ref (a 0)), (1, .int x1), (2, .int x2), (3, .int x3), (4, .int x4), (5, .int x5)] → fX11_part_b133 N x1 x2 x3 x4 x5 y0 u = some (r0, σ0) → ∀ (H : Heap) (locs : List Loc), va_P D vwCl (am_W a cI u) H → va_S (am_A a) s.heap H locs → W p l e (headSpec (Cond.code yX11_part cX11_part 11 (some .int) :: q_T) ({ frames := 3, cells := 0, slots := 0, locals := 67 } : Room)).room s m ([.ref (a 0), .int o1] : List Value).toArray below meth c H locs 0 0 (MQ below (q_Qi D vwCl (am_W a cI) (am_A a) r0 σ0) ([.ref (a 0), .int o1] : List Value).toArray s 0 0 (am_A a)) (F0 m 133 ls [.int y0]) := by
    intro x1 x2 x3 x4 x5 y0 u ls hl hF _ _ hP hS
    unfold fX11_part_b133 at hF
    refine lv_istore (lv' := [(6, .int y0), (0, .ref (a 0)), (1, .int x1), (2, .int x2), (3, .int x3), (4, .int x4), (5, .int x5)]) hx hb dX11_part_133 hl (by decide) rfl (fun ls hl => ?_)
    refine lv_iload hx hb dX11_part_135 (lv_at hl 6 rfl) ?_
    refine sx_if_eq (tgt := 151) hx hb hF dX11_part_137 (by decide) (fun hF => ?_) (fun hF => ?_)
    · refine lv_iload_n hx hb dX11_part_151 rfl (lv_at hl 2 rfl) ?_
      exact sx_reti (Wd := (am_W a cI)) (σ := u) hx hb hr hF hP hS hlocks dX11_part_152
    · refine lv_iload hx hb dX11_part_140 (lv_at hl 6 rfl) ?_
      refine lv_iconst (v := 1) hx hb dX11_part_142 (by decide) ?_
      refine sx_icmp_ne (tgt := 153) hx hb hF dX11_part_143 (by decide) (fun hF => ?_) (fun hF => ?_)
      · exact hB153 x1 x2 x3 x4 x5 y0 u ls (lv_sub hl [1, 2, 3, 4, 5, 6, 0] rfl) hF _ _ hP hS
      · refine lv_iload hx hb dX11_part_146 (lv_at hl 0 rfl) ?_
        refine sx_if_eq (tgt := 153) hx hb hF dX11_part_148 (by decide) (fun hF => ?_) (fun hF => ?_)
        · exact hB153 x1 x2 x3 x4 x5 y0 u ls (lv_sub hl [1, 2, 3, 4, 5, 6, 0] rfl) hF _ _ hP hS
        · refine lv_iload_n hx hb dX11_part_151 rfl (lv_at hl 2 rfl) ?_
          exact sx_reti (Wd := (am_W a cI)) (σ := u) hx hb hr hF hP hS hlocks dX11_part_152
  have hB132 : ∀ (x1 : Int32) (x2 : Int32) (x3 : Int32) (x4 : Int32) (x5 : Int32) (u : q_St) (ls : Array Slot), lv_has ls 11 [(0, .ref (a 0)), (1, .int x1), (2, .int x2), (3, .int x3), (4, .int x4), (5, .int x5)] → fX11_part_b132 N x1 x2 x3 x4 x5 u = some (r0, σ0) → ∀ (H : Heap) (locs : List Loc), va_P D vwCl (am_W a cI u) H → va_S (am_A a) s.heap H locs → W p l e (headSpec (Cond.code yX11_part cX11_part 11 (some .int) :: q_T) ({ frames := 3, cells := 0, slots := 0, locals := 67 } : Room)).room s m ([.ref (a 0), .int o1] : List Value).toArray below meth c H locs 0 0 (MQ below (q_Qi D vwCl (am_W a cI) (am_A a) r0 σ0) ([.ref (a 0), .int o1] : List Value).toArray s 0 0 (am_A a)) (F0 m 132 ls []) := by
    intro x1 x2 x3 x4 x5 u ls hl hF _ _ hP hS
    unfold fX11_part_b132 at hF
    refine lv_iconst (v := 0) hx hb dX11_part_132 (by decide) ?_
    exact hB133 x1 x2 x3 x4 x5 0 u ls (lv_sub hl [0, 1, 2, 3, 4, 5] rfl) hF _ _ hP hS
  have hB93 : ∀ (x1 : Int32) (x2 : Int32) (x3 : Int32) (x4 : Int32) (u : q_St) (ls : Array Slot), lv_has ls 11 [(0, .ref (a 0)), (1, .int x1), (2, .int x2), (3, .int x3), (4, .int x4)] → fX11_part_b93 N x1 x2 x3 x4 u = some (r0, σ0) → ∀ (H : Heap) (locs : List Loc), va_P D vwCl (am_W a cI u) H → va_S (am_A a) s.heap H locs → W p l e (headSpec (Cond.code yX11_part cX11_part 11 (some .int) :: q_T) ({ frames := 3, cells := 0, slots := 0, locals := 67 } : Room)).room s m ([.ref (a 0), .int o1] : List Value).toArray below meth c H locs 0 0 (MQ below (q_Qi D vwCl (am_W a cI) (am_A a) r0 σ0) ([.ref (a 0), .int o1] : List Value).toArray s 0 0 (am_A a)) (F0 m 93 ls []) := by
    intro x1 x2 x3 x4 u ls hl hF _ _ hP hS
    unfold fX11_part_b93 at hF
    refine lv_aload_n hx hb dX11_part_93 rfl (lv_at hl 0 rfl) ?_
    refine gm_m_kind hx hb hts hown hK hP fl_X11_40 dX11_part_94 ?_
    refine lv_iload_n hx hb dX11_part_97 rfl (lv_at hl 1 rfl) ?_
    refine lm_m_kind hx hb hK hP hF dX11_part_98 (fun v10 hF => ?_)
    refine lv_iconst (v := 2) hx hb dX11_part_99 (by decide) ?_
    refine sx_icmp_eq (tgt := 106) hx hb hF dX11_part_100 (by decide) (fun hF => ?_) (fun hF => ?_)
    · refine lv_iload hx hb dX11_part_106 (lv_at hl 4 rfl) ?_
      refine lv_iload_n hx hb dX11_part_108 rfl (lv_at hl 3 rfl) ?_
      refine lv_isub hx hb dX11_part_109 ?_
      refine sx_istore (lv2 := [(0, .ref (a 0)), (1, .int x1), (2, .int x2), (3, .int x3), (4, .int x4)]) hx hb hF dX11_part_110 hl (by decide) rfl (fun v11 hF ls hl => ?_)
      refine lv_iload hx hb dX11_part_112 (lv_at hl 0 rfl) ?_
      refine sx_if_le (tgt := 132) hx hb hF dX11_part_114 (by decide) (fun hF => ?_) (fun hF => ?_)
      · exact hB132 x1 x2 x3 x4 v11 u ls (lv_sub hl [1, 2, 3, 4, 5, 0] rfl) hF _ _ hP hS
      · refine lv_aload_n hx hb dX11_part_117 rfl (lv_at hl 1 rfl) ?_
        refine lv_iload_n hx hb dX11_part_118 rfl (lv_at hl 3 rfl) ?_
        refine lv_iload_n hx hb dX11_part_119 rfl (lv_at hl 4 rfl) ?_
        obtain ⟨r37, u38, hc39, hF⟩ := q_bnd_some hF
        refine sx_ci (Wd := (am_W a cI)) (σ1 := u38) (q_runV (Wd := (am_W a cI)) (σ := u) (q0 := 0) (ci := 11) (T := TX11) (N := 72) (As := [.int x2, .int x3]) (rest := []) hx hb hml hown hts hK hP (kt_X11_byteOf hD hc39) cw_X11_386 rfl rfl ⟨Nat.le_of_ble_eq_true rfl, Nat.le_of_ble_eq_true rfl⟩ rfl rfl rfl hl.1 rfl (Nat.le_of_ble_eq_true rfl) dX11_part_120) hS (fun H locs hP hS => ?_)
        refine lv_bipush (v := 46) hx hb dX11_part_123 (by decide) ?_
        refine sx_icmp_ne (tgt := 132) hx hb hF dX11_part_125 (by decide) (fun hF => ?_) (fun hF => ?_)
        · exact hB132 x1 x2 x3 x4 v11 u38 ls (lv_sub hl [1, 2, 3, 4, 5, 0] rfl) hF _ _ hP hS
        · refine lv_iconst (v := 1) hx hb dX11_part_128 (by decide) ?_
          refine lv_goto (tgt := 133) hx hb dX11_part_129 (by decide) ?_
          exact hB133 x1 x2 x3 x4 v11 1 u38 ls (lv_sub hl [1, 2, 3, 4, 5, 0] rfl) hF _ _ hP hS
    · refine lv_bipush (v := (-12)) hx hb dX11_part_103 (by decide) ?_
      exact sx_reti (Wd := (am_W a cI)) (σ := u) hx hb hr hF hP hS hlocks dX11_part_105
  have hB55 : ∀ (x1 : Int32) (x2 : Int32) (x3 : Int32) (x4 : Int32) (u : q_St) (ls : Array Slot), lv_has ls 11 [(0, .ref (a 0)), (1, .int x1), (2, .int x2), (3, .int x3), (4, .int x4)] → fX11_part_b55 N x1 x2 x3 x4 u = some (r0, σ0) → ∀ (H : Heap) (locs : List Loc), va_P D vwCl (am_W a cI u) H → va_S (am_A a) s.heap H locs → W p l e (headSpec (Cond.code yX11_part cX11_part 11 (some .int) :: q_T) ({ frames := 3, cells := 0, slots := 0, locals := 67 } : Room)).room s m ([.ref (a 0), .int o1] : List Value).toArray below meth c H locs 0 0 (MQ below (q_Qi D vwCl (am_W a cI) (am_A a) r0 σ0) ([.ref (a 0), .int o1] : List Value).toArray s 0 0 (am_A a)) (F0 m 55 ls []) := by
    intro x1 x2 x3 x4 u ls hl hF _ _ hP hS
    unfold fX11_part_b55 at hF
    refine lv_iload hx hb dX11_part_55 (lv_at hl 4 rfl) ?_
    refine lv_aload_n hx hb dX11_part_57 rfl (lv_at hl 0 rfl) ?_
    refine lv_iload_n hx hb dX11_part_58 rfl (lv_at hl 2 rfl) ?_
    obtain ⟨r6, u7, hc8, hF⟩ := q_bnd_some hF
    refine sx_ci (Wd := (am_W a cI)) (σ1 := u7) (q_runV (Wd := (am_W a cI)) (σ := u) (q0 := 0) (ci := 11) (T := TX11) (N := 72) (As := [.int x2]) (rest := [.int x4]) hx hb hml hown hts hK hP (kt_X11_sizeOf hD hc8) cw_X11_383 rfl rfl ⟨Nat.le_of_ble_eq_true rfl, Nat.le_of_ble_eq_true rfl⟩ rfl rfl rfl hl.1 rfl (Nat.le_of_ble_eq_true rfl) dX11_part_59) hS (fun H locs hP hS => ?_)
    refine sx_icmp_ne (tgt := 78) hx hb hF dX11_part_62 (by decide) (fun hF => ?_) (fun hF => ?_)
    · refine lv_aload_n hx hb dX11_part_78 rfl (lv_at hl 0 rfl) ?_
      refine gm_m_spot hx hb hts hown hK hP fl_X11_146 dX11_part_79 ?_
      refine lv_aload_n hx hb dX11_part_82 rfl (lv_at hl 0 rfl) ?_
      refine gm_m_high hx hb hts hown hK hP fl_X11_380 dX11_part_83 ?_
      refine lv_iconst (v := 1) hx hb dX11_part_86 (by decide) ?_
      refine lv_isub hx hb dX11_part_87 ?_
      refine lv_iload hx hb dX11_part_88 (lv_at hl 4 rfl) ?_
      refine lv_iconst (v := 1) hx hb dX11_part_90 (by decide) ?_
      refine lv_iadd hx hb dX11_part_91 ?_
      refine um_m_spot hx hb hK hP hD hS hF dX11_part_92 (fun u9 H locs hF hP hS => ?_)
      exact hB93 x1 x2 x3 x4 u9 ls (lv_sub hl [0, 1, 2, 3, 4] rfl) hF _ _ hP hS
    · refine lv_aload_n hx hb dX11_part_65 rfl (lv_at hl 0 rfl) ?_
      refine lv_dup hx hb dX11_part_66 rfl ?_
      refine gm_m_high hx hb hts hown hK hP fl_X11_380 dX11_part_67 ?_
      refine lv_iconst (v := 1) hx hb dX11_part_70 (by decide) ?_
      refine lv_isub hx hb dX11_part_71 ?_
      refine pm_m_high hx hb hts hown hK hP fl_X11_380 hD hS hF dX11_part_72 (fun u40 H locs hF hP hS => ?_)
      refine lv_goto (tgt := 93) hx hb dX11_part_75 (by decide) ?_
      exact hB93 x1 x2 x3 x4 u40 ls (lv_sub hl [0, 1, 2, 3, 4] rfl) hF _ _ hP hS
  have hB27 : ∀ (n : Nat) (x1 : Int32) (x2 : Int32) (x3 : Int32) (x4 : Int32) (u : q_St) (ls : Array Slot), lv_has ls 11 [(0, .ref (a 0)), (1, .int x1), (2, .int x2), (3, .int x3), (4, .int x4)] → q_lp (fX11_part_b27 N) (fun _ _ _ _ _ => none) n x1 x2 x3 x4 u = some (r0, σ0) → ∀ (H : Heap) (locs : List Loc), va_P D vwCl (am_W a cI u) H → va_S (am_A a) s.heap H locs → W p l e (headSpec (Cond.code yX11_part cX11_part 11 (some .int) :: q_T) ({ frames := 3, cells := 0, slots := 0, locals := 67 } : Room)).room s m ([.ref (a 0), .int o1] : List Value).toArray below meth c H locs 0 0 (MQ below (q_Qi D vwCl (am_W a cI) (am_A a) r0 σ0) ([.ref (a 0), .int o1] : List Value).toArray s 0 0 (am_A a)) (F0 m 27 ls []) := by
    intro n
    induction n with
    | zero => intro x1 x2 x3 x4 u ls hl hF; exact absurd (show (none : Option (Int32 × q_St)) = some _ from hF) (fun h => nomatch h)
    | succ n hi27 =>
      intro x1 x2 x3 x4 u ls hl hF _ _ hP hS
      obtain ⟨ih27, hih⟩ : ∃ q, q = q_lp (fX11_part_b27 N) (fun _ _ _ _ _ => none) n := ⟨_, rfl⟩
      rw [← hih] at hi27
      have hF : fX11_part_b27 N (q_lp (fX11_part_b27 N) (fun _ _ _ _ _ => none) n) x1 x2 x3 x4 u = some (r0, σ0) := hF
      rw [← hih] at hF
      clear hih
      unfold fX11_part_b27 at hF
      refine lv_iload hx hb dX11_part_27 (lv_at hl 4 rfl) ?_
      refine lv_aload_n hx hb dX11_part_29 rfl (lv_at hl 0 rfl) ?_
      refine lv_iload_n hx hb dX11_part_30 rfl (lv_at hl 2 rfl) ?_
      obtain ⟨r3, u4, hc5, hF⟩ := q_bnd_some hF
      refine sx_ci (Wd := (am_W a cI)) (σ1 := u4) (q_runV (Wd := (am_W a cI)) (σ := u) (q0 := 0) (ci := 11) (T := TX11) (N := 72) (As := [.int x2]) (rest := [.int x4]) hx hb hml hown hts hK hP (kt_X11_sizeOf hD hc5) cw_X11_383 rfl rfl ⟨Nat.le_of_ble_eq_true rfl, Nat.le_of_ble_eq_true rfl⟩ rfl rfl rfl hl.1 rfl (Nat.le_of_ble_eq_true rfl) dX11_part_31) hS (fun H locs hP hS => ?_)
      refine sx_icmp_ge (tgt := 55) hx hb hF dX11_part_34 (by decide) (fun hF => ?_) (fun hF => ?_)
      · exact hB55 x1 x2 x3 x4 u4 ls (lv_sub hl [0, 1, 2, 3, 4] rfl) hF _ _ hP hS
      · refine lv_aload_n hx hb dX11_part_37 rfl (lv_at hl 0 rfl) ?_
        refine lv_iload_n hx hb dX11_part_38 rfl (lv_at hl 2 rfl) ?_
        refine lv_iload hx hb dX11_part_39 (lv_at hl 4 rfl) ?_
        obtain ⟨r41, u42, hc43, hF⟩ := q_bnd_some hF
        refine sx_ci (Wd := (am_W a cI)) (σ1 := u42) (q_runV (Wd := (am_W a cI)) (σ := u4) (q0 := 0) (ci := 11) (T := TX11) (N := 72) (As := [.int x2, .int x4]) (rest := []) hx hb hml hown hts hK hP (kt_X11_byteOf hD hc43) cw_X11_386 rfl rfl ⟨Nat.le_of_ble_eq_true rfl, Nat.le_of_ble_eq_true rfl⟩ rfl rfl rfl hl.1 rfl (Nat.le_of_ble_eq_true rfl) dX11_part_41) hS (fun H locs hP hS => ?_)
        refine lv_bipush (v := 47) hx hb dX11_part_44 (by decide) ?_
        refine sx_icmp_eq (tgt := 55) hx hb hF dX11_part_46 (by decide) (fun hF => ?_) (fun hF => ?_)
        · exact hB55 x1 x2 x3 x4 u42 ls (lv_sub hl [0, 1, 2, 3, 4] rfl) hF _ _ hP hS
        · refine sx_iinc (d := 1) (k := 4) (lv2 := [(0, .ref (a 0)), (1, .int x1), (2, .int x2), (3, .int x3)]) hx hb hF dX11_part_49 hl rfl (by decide) (by decide) rfl (fun v44 hF ls hl => ?_)
          refine lv_goto (tgt := 27) hx hb dX11_part_52 (by decide) ?_
          exact hi27 x1 x2 x3 v44 u42 ls (lv_sub hl [1, 2, 3, 4, 0] rfl) hF _ _ hP hS
  unfold fX11_part at hF
  refine lv_aload_n hx hb dX11_part_0 rfl (lv_at hl 0 rfl) ?_
  refine gm_m_waits hx hb hts hown hK hP fl_X11_143 dX11_part_1 ?_
  refine lv_aload_n hx hb dX11_part_4 rfl (lv_at hl 0 rfl) ?_
  refine gm_m_high hx hb hts hown hK hP fl_X11_380 dX11_part_5 ?_
  refine lv_iconst (v := 1) hx hb dX11_part_8 (by decide) ?_
  refine lv_isub hx hb dX11_part_9 ?_
  refine lm_m_waits hx hb hK hP hF dX11_part_10 (fun v1 hF => ?_)
  refine lv_istore_n (lv' := [(2, .int v1), (0, .ref (a 0)), (1, .int o1)]) hx hb dX11_part_11 rfl hl (by decide) rfl (fun ls hl => ?_)
  refine lv_aload_n hx hb dX11_part_12 rfl (lv_at hl 1 rfl) ?_
  refine gm_m_spot hx hb hts hown hK hP fl_X11_146 dX11_part_13 ?_
  refine lv_aload_n hx hb dX11_part_16 rfl (lv_at hl 1 rfl) ?_
  refine gm_m_high hx hb hts hown hK hP fl_X11_380 dX11_part_17 ?_
  refine lv_iconst (v := 1) hx hb dX11_part_20 (by decide) ?_
  refine lv_isub hx hb dX11_part_21 ?_
  refine lm_m_spot hx hb hK hP hF dX11_part_22 (fun v2 hF => ?_)
  refine lv_istore_n (lv' := [(3, .int v2), (2, .int v1), (0, .ref (a 0)), (1, .int o1)]) hx hb dX11_part_23 rfl hl (by decide) rfl (fun ls hl => ?_)
  refine lv_iload_n hx hb dX11_part_24 rfl (lv_at hl 0 rfl) ?_
  refine lv_istore (lv' := [(4, .int v2), (3, .int v2), (2, .int v1), (0, .ref (a 0)), (1, .int o1)]) hx hb dX11_part_25 hl (by decide) rfl (fun ls hl => ?_)
  exact hB27 N o1 v1 v2 v2 u ls (lv_sub hl [3, 4, 2, 1, 0] rfl) hF _ _ hP hS
set_option maxHeartbeats 4000000 in
set_option maxRecDepth 100000 in
theorem kt_X11_walk {N : Nat} {l : Launch} {D : va_G} {a : Nat → Nat} {cI : Nat → ClassId} (hD : ∀ σ, va_D (am_A a) (am_W a cI σ)) {o1 : Int32} {u σ0 : q_St} {r0 : Int32} (hF : fX11_walk N o1 u = some (r0, σ0)) : Met l yX11_walk (Cond.code yX11_walk cX11_walk 3 (some .int) :: q_T) ({ frames := 4, cells := 0, slots := 0, locals := 97 } : Room) (q_P D vwCl (am_T cI) (am_W a cI) [.ref (a 0), .int o1] u) (q_Qi D vwCl (am_W a cI) (am_A a) r0 σ0) 0 0 (am_A a) := by
  refine Met.ofW (cc := cX11_walk) (maxL := 3) (ret := (some .int)) (by decide) rfl ?_
  intro p e s m args below meth c s₁ B hml hv
  obtain ⟨rfl, hP, hK⟩ := hv
  have hx := B.exec
  have hb := B.bytes
  have hr := B.returns
  have hts := q_ts (atoms_spec (ws := Cond.code yX11_walk cX11_walk 3 (some .int) :: q_T) B.pre)
  have hown : s.vm.findClass RX11 = some m.cls := findClass_of_methodNamed B.named
  have hlocks := B.notSynchronized
  have hS : va_S (am_A a) s.heap s.heap [] := va_S.rf
  have hl := lv_entry ([.ref (a 0), .int o1]) (n := 3) (Nat.le_of_ble_eq_true rfl)
  rw [lg_entry_eq]
  generalize (lg_sl ([.ref (a 0), .int o1]) ++ List.replicate (3 - (lg_sl ([.ref (a 0), .int o1])).length) Slot.unset).toArray = ls at hl ⊢
  have hl : lv_has ls 3 [(0, .ref (a 0)), (1, .int o1)] := hl
  have hB51 : ∀ (n : Nat) (x2 : Int32) (u : q_St) (ls : Array Slot), lv_has ls 3 [(0, .ref (a 0)), (2, .int x2)] → q_lp (fX11_walk_b51 N) (fun _ _ => none) n x2 u = some (r0, σ0) → ∀ (H : Heap) (locs : List Loc), va_P D vwCl (am_W a cI u) H → va_S (am_A a) s.heap H locs → W p l e (headSpec (Cond.code yX11_walk cX11_walk 3 (some .int) :: q_T) ({ frames := 4, cells := 0, slots := 0, locals := 97 } : Room)).room s m ([.ref (a 0), .int o1] : List Value).toArray below meth c H locs 0 0 (MQ below (q_Qi D vwCl (am_W a cI) (am_A a) r0 σ0) ([.ref (a 0), .int o1] : List Value).toArray s 0 0 (am_A a)) (F0 m 51 ls []) := by
    intro n
    induction n with
    | zero => intro x2 u ls hl hF; exact absurd (show (none : Option (Int32 × q_St)) = some _ from hF) (fun h => nomatch h)
    | succ n hi51 =>
      intro x2 u ls hl hF _ _ hP hS
      obtain ⟨ih51, hih⟩ : ∃ q, q = q_lp (fX11_walk_b51 N) (fun _ _ => none) n := ⟨_, rfl⟩
      rw [← hih] at hi51
      have hF : fX11_walk_b51 N (q_lp (fX11_walk_b51 N) (fun _ _ => none) n) x2 u = some (r0, σ0) := hF
      rw [← hih] at hF
      clear hih
      unfold fX11_walk_b51 at hF
      refine lv_aload_n hx hb dX11_walk_51 rfl (lv_at hl 0 rfl) ?_
      refine gm_m_high hx hb hts hown hK hP fl_X11_380 dX11_walk_52 ?_
      refine sx_if_le (tgt := 71) hx hb hF dX11_walk_55 (by decide) (fun hF => ?_) (fun hF => ?_)
      · refine lv_iload_n hx hb dX11_walk_71 rfl (lv_at hl 1 rfl) ?_
        exact sx_reti (Wd := (am_W a cI)) (σ := u) hx hb hr hF hP hS hlocks dX11_walk_72
      · refine lv_iload_n hx hb dX11_walk_58 rfl (lv_at hl 1 rfl) ?_
        refine sx_if_lt (tgt := 71) hx hb hF dX11_walk_59 (by decide) (fun hF => ?_) (fun hF => ?_)
        · refine lv_iload_n hx hb dX11_walk_71 rfl (lv_at hl 1 rfl) ?_
          exact sx_reti (Wd := (am_W a cI)) (σ := u) hx hb hr hF hP hS hlocks dX11_walk_72
        · refine lv_aload_n hx hb dX11_walk_62 rfl (lv_at hl 0 rfl) ?_
          refine lv_iload_n hx hb dX11_walk_63 rfl (lv_at hl 1 rfl) ?_
          obtain ⟨r11, u12, hc13, hF⟩ := q_bnd_some hF
          refine sx_ci (Wd := (am_W a cI)) (σ1 := u12) (q_runV (Wd := (am_W a cI)) (σ := u) (q0 := 0) (ci := 11) (T := TX11) (N := 72) (As := [.int x2]) (rest := []) hx hb hml hown hts hK hP (kt_X11_part hD hc13) cw_X11_396 rfl rfl ⟨Nat.le_of_ble_eq_true rfl, Nat.le_of_ble_eq_true rfl⟩ rfl rfl rfl hl.1 rfl (Nat.le_of_ble_eq_true rfl) dX11_walk_64) hS (fun H locs hP hS => ?_)
          refine lv_istore_n (lv' := [(2, .int r11), (0, .ref (a 0))]) hx hb dX11_walk_67 rfl hl (by decide) rfl (fun ls hl => ?_)
          refine lv_goto (tgt := 51) hx hb dX11_walk_68 (by decide) ?_
          exact hi51 r11 u12 ls (lv_sub hl [1, 0] rfl) hF _ _ hP hS
  unfold fX11_walk at hF
  refine lv_aload_n hx hb dX11_walk_0 rfl (lv_at hl 0 rfl) ?_
  refine lv_aload_n hx hb dX11_walk_1 rfl (lv_at hl 0 rfl) ?_
  refine gm_m_length hx hb hts hown hK hP fl_X11_180 dX11_walk_2 ?_
  refine pm_m_taped hx hb hts hown hK hP fl_X11_377 hD hS hF dX11_walk_5 (fun u1 H locs hF hP hS => ?_)
  refine lv_aload_n hx hb dX11_walk_8 rfl (lv_at hl 0 rfl) ?_
  refine lv_iconst (v := 0) hx hb dX11_walk_9 (by decide) ?_
  refine pm_m_length hx hb hts hown hK hP fl_X11_180 hD hS hF dX11_walk_10 (fun u2 H locs hF hP hS => ?_)
  refine lv_aload_n hx hb dX11_walk_13 rfl (lv_at hl 0 rfl) ?_
  refine gm_m_isOn hx hb hts hown hK hP fl_X11_7 dX11_walk_14 ?_
  refine sx_if_ne (tgt := 23) hx hb hF dX11_walk_17 (by decide) (fun hF => ?_) (fun hF => ?_)
  · refine lv_aload_n hx hb dX11_walk_23 rfl (lv_at hl 0 rfl) ?_
    refine lv_iload_n hx hb dX11_walk_24 rfl (lv_at hl 1 rfl) ?_
    obtain ⟨r3, u4, hc5, hF⟩ := q_bnd_some hF
    refine sx_ci (Wd := (am_W a cI)) (σ1 := u4) (q_runV (Wd := (am_W a cI)) (σ := u2) (q0 := 0) (ci := 11) (T := TX11) (N := 72) (As := [.int o1]) (rest := []) hx hb hml hown hts hK hP (kt_X11_isDirectory hD hc5) cw_X11_339 rfl rfl ⟨Nat.le_of_ble_eq_true rfl, Nat.le_of_ble_eq_true rfl⟩ rfl rfl rfl hl.1 rfl (Nat.le_of_ble_eq_true rfl) dX11_walk_25) hS (fun H locs hP hS => ?_)
    refine sx_if_ne (tgt := 34) hx hb hF dX11_walk_28 (by decide) (fun hF => ?_) (fun hF => ?_)
    · refine lv_aload_n hx hb dX11_walk_34 rfl (lv_at hl 0 rfl) ?_
      refine lv_iconst (v := 0) hx hb dX11_walk_35 (by decide) ?_
      refine pm_m_high hx hb hts hown hK hP fl_X11_380 hD hS hF dX11_walk_36 (fun u6 H locs hF hP hS => ?_)
      refine lv_aload_n hx hb dX11_walk_39 rfl (lv_at hl 0 rfl) ?_
      refine lv_iconst (v := 0) hx hb dX11_walk_40 (by decide) ?_
      refine pm_m_seen hx hb hts hown hK hP fl_X11_390 hD hS hF dX11_walk_41 (fun u7 H locs hF hP hS => ?_)
      refine lv_aload_n hx hb dX11_walk_44 rfl (lv_at hl 0 rfl) ?_
      refine lv_iconst (v := (-1)) hx hb dX11_walk_45 (by decide) ?_
      refine lv_iload_n hx hb dX11_walk_46 rfl (lv_at hl 1 rfl) ?_
      obtain ⟨r8, u9, hc10, hF⟩ := q_bnd_some hF
      refine sx_ci (Wd := (am_W a cI)) (σ1 := u9) (q_runV (Wd := (am_W a cI)) (σ := u7) (q0 := 0) (ci := 11) (T := TX11) (N := 72) (As := [.int (-1), .int o1]) (rest := []) hx hb hml hown hts hK hP (kt_X11_begin hD hc10) cw_X11_393 rfl rfl ⟨Nat.le_of_ble_eq_true rfl, Nat.le_of_ble_eq_true rfl⟩ rfl rfl rfl hl.1 rfl (Nat.le_of_ble_eq_true rfl) dX11_walk_47) hS (fun H locs hP hS => ?_)
      refine lv_istore_n (lv' := [(2, .int r8), (0, .ref (a 0)), (1, .int o1)]) hx hb dX11_walk_50 rfl hl (by decide) rfl (fun ls hl => ?_)
      exact hB51 N r8 u9 ls (lv_sub hl [1, 0] rfl) hF _ _ hP hS
    · refine lv_bipush (v := (-10)) hx hb dX11_walk_31 (by decide) ?_
      exact sx_reti (Wd := (am_W a cI)) (σ := u4) hx hb hr hF hP hS hlocks dX11_walk_33
  · refine lv_bipush (v := (-99)) hx hb dX11_walk_20 (by decide) ?_
    exact sx_reti (Wd := (am_W a cI)) (σ := u2) hx hb hr hF hP hS hlocks dX11_walk_22
set_option maxHeartbeats 4000000 in
set_option maxRecDepth 100000 in
theorem kt_X11_isEmptyBand {N : Nat} {l : Launch} {D : va_G} {a : Nat → Nat} {cI : Nat → ClassId} (hD : ∀ σ, va_D (am_A a) (am_W a cI σ)) {o1 : Int32} {u σ0 : q_St} {r0 : Int32} (hF : fX11_isEmptyBand N o1 u = some (r0, σ0)) : Met l yX11_isEmptyBand (Cond.code yX11_isEmptyBand cX11_isEmptyBand 4 (some .boolean) :: q_T) ({ frames := 0, cells := 0, slots := 0, locals := 0 } : Room) (q_P D vwCl (am_T cI) (am_W a cI) [.ref (a 0), .int o1] u) (q_Qi D vwCl (am_W a cI) (am_A a) r0 σ0) 0 0 (am_A a) := by
  refine Met.ofW (cc := cX11_isEmptyBand) (maxL := 4) (ret := (some .boolean)) (by decide) rfl ?_
  intro p e s m args below meth c s₁ B hml hv
  obtain ⟨rfl, hP, hK⟩ := hv
  have hx := B.exec
  have hb := B.bytes
  have hr := B.returns
  have hts := q_ts (atoms_spec (ws := Cond.code yX11_isEmptyBand cX11_isEmptyBand 4 (some .boolean) :: q_T) B.pre)
  have hown : s.vm.findClass RX11 = some m.cls := findClass_of_methodNamed B.named
  have hlocks := B.notSynchronized
  have hS : va_S (am_A a) s.heap s.heap [] := va_S.rf
  have hl := lv_entry ([.ref (a 0), .int o1]) (n := 4) (Nat.le_of_ble_eq_true rfl)
  rw [lg_entry_eq]
  generalize (lg_sl ([.ref (a 0), .int o1]) ++ List.replicate (4 - (lg_sl ([.ref (a 0), .int o1])).length) Slot.unset).toArray = ls at hl ⊢
  have hl : lv_has ls 4 [(0, .ref (a 0)), (1, .int o1)] := hl
  have hB60 : ∀ (ih21 : Int32 → Int32 → Int32 → q_St → Option (Int32 × q_St)) (hi21 : ∀ (x1 : Int32) (x2 : Int32) (x3 : Int32) (u : q_St) (ls : Array Slot), lv_has ls 4 [(0, .ref (a 0)), (1, .int x1), (2, .int x2), (3, .int x3)] → ih21 x1 x2 x3 u = some (r0, σ0) → ∀ (H : Heap) (locs : List Loc), va_P D vwCl (am_W a cI u) H → va_S (am_A a) s.heap H locs → W p l e (headSpec (Cond.code yX11_isEmptyBand cX11_isEmptyBand 4 (some .boolean) :: q_T) ({ frames := 0, cells := 0, slots := 0, locals := 0 } : Room)).room s m ([.ref (a 0), .int o1] : List Value).toArray below meth c H locs 0 0 (MQ below (q_Qi D vwCl (am_W a cI) (am_A a) r0 σ0) ([.ref (a 0), .int o1] : List Value).toArray s 0 0 (am_A a)) (F0 m 21 ls [])), ∀ (x1 : Int32) (x3 : Int32) (y0 : Int32) (u : q_St) (ls : Array Slot), lv_has ls 4 [(0, .ref (a 0)), (1, .int x1), (3, .int x3)] → fX11_isEmptyBand_b60 N ih21 x1 x3 y0 u = some (r0, σ0) → ∀ (H : Heap) (locs : List Loc), va_P D vwCl (am_W a cI u) H → va_S (am_A a) s.heap H locs → W p l e (headSpec (Cond.code yX11_isEmptyBand cX11_isEmptyBand 4 (some .boolean) :: q_T) ({ frames := 0, cells := 0, slots := 0, locals := 0 } : Room)).room s m ([.ref (a 0), .int o1] : List Value).toArray below meth c H locs 0 0 (MQ below (q_Qi D vwCl (am_W a cI) (am_A a) r0 σ0) ([.ref (a 0), .int o1] : List Value).toArray s 0 0 (am_A a)) (F0 m 60 ls [.int y0]) := by
    intro ih21 hi21 x1 x3 y0 u ls hl hF _ _ hP hS
    unfold fX11_isEmptyBand_b60 at hF
    refine lv_istore_n (lv' := [(2, .int y0), (0, .ref (a 0)), (1, .int x1), (3, .int x3)]) hx hb dX11_isEmptyBand_60 rfl hl (by decide) rfl (fun ls hl => ?_)
    refine sx_iinc (d := 1) (k := 3) (lv2 := [(2, .int y0), (0, .ref (a 0)), (1, .int x1)]) hx hb hF dX11_isEmptyBand_61 hl rfl (by decide) (by decide) rfl (fun v3 hF ls hl => ?_)
    refine lv_goto (tgt := 21) hx hb dX11_isEmptyBand_64 (by decide) ?_
    exact hi21 x1 y0 v3 u ls (lv_sub hl [2, 3, 1, 0] rfl) hF _ _ hP hS
  have hB59 : ∀ (ih21 : Int32 → Int32 → Int32 → q_St → Option (Int32 × q_St)) (hi21 : ∀ (x1 : Int32) (x2 : Int32) (x3 : Int32) (u : q_St) (ls : Array Slot), lv_has ls 4 [(0, .ref (a 0)), (1, .int x1), (2, .int x2), (3, .int x3)] → ih21 x1 x2 x3 u = some (r0, σ0) → ∀ (H : Heap) (locs : List Loc), va_P D vwCl (am_W a cI u) H → va_S (am_A a) s.heap H locs → W p l e (headSpec (Cond.code yX11_isEmptyBand cX11_isEmptyBand 4 (some .boolean) :: q_T) ({ frames := 0, cells := 0, slots := 0, locals := 0 } : Room)).room s m ([.ref (a 0), .int o1] : List Value).toArray below meth c H locs 0 0 (MQ below (q_Qi D vwCl (am_W a cI) (am_A a) r0 σ0) ([.ref (a 0), .int o1] : List Value).toArray s 0 0 (am_A a)) (F0 m 21 ls [])), ∀ (x1 : Int32) (x3 : Int32) (u : q_St) (ls : Array Slot), lv_has ls 4 [(0, .ref (a 0)), (1, .int x1), (3, .int x3)] → fX11_isEmptyBand_b59 N ih21 x1 x3 u = some (r0, σ0) → ∀ (H : Heap) (locs : List Loc), va_P D vwCl (am_W a cI u) H → va_S (am_A a) s.heap H locs → W p l e (headSpec (Cond.code yX11_isEmptyBand cX11_isEmptyBand 4 (some .boolean) :: q_T) ({ frames := 0, cells := 0, slots := 0, locals := 0 } : Room)).room s m ([.ref (a 0), .int o1] : List Value).toArray below meth c H locs 0 0 (MQ below (q_Qi D vwCl (am_W a cI) (am_A a) r0 σ0) ([.ref (a 0), .int o1] : List Value).toArray s 0 0 (am_A a)) (F0 m 59 ls []) := by
    intro ih21 hi21 x1 x3 u ls hl hF _ _ hP hS
    unfold fX11_isEmptyBand_b59 at hF
    refine lv_iconst (v := 0) hx hb dX11_isEmptyBand_59 (by decide) ?_
    exact hB60 ih21 hi21 x1 x3 0 u ls (lv_sub hl [0, 1, 2] rfl) hF _ _ hP hS
  have hB21 : ∀ (n : Nat) (x1 : Int32) (x2 : Int32) (x3 : Int32) (u : q_St) (ls : Array Slot), lv_has ls 4 [(0, .ref (a 0)), (1, .int x1), (2, .int x2), (3, .int x3)] → q_lp (fX11_isEmptyBand_b21 N) (fun _ _ _ _ => none) n x1 x2 x3 u = some (r0, σ0) → ∀ (H : Heap) (locs : List Loc), va_P D vwCl (am_W a cI u) H → va_S (am_A a) s.heap H locs → W p l e (headSpec (Cond.code yX11_isEmptyBand cX11_isEmptyBand 4 (some .boolean) :: q_T) ({ frames := 0, cells := 0, slots := 0, locals := 0 } : Room)).room s m ([.ref (a 0), .int o1] : List Value).toArray below meth c H locs 0 0 (MQ below (q_Qi D vwCl (am_W a cI) (am_A a) r0 σ0) ([.ref (a 0), .int o1] : List Value).toArray s 0 0 (am_A a)) (F0 m 21 ls []) := by
    intro n
    induction n with
    | zero => intro x1 x2 x3 u ls hl hF; exact absurd (show (none : Option (Int32 × q_St)) = some _ from hF) (fun h => nomatch h)
    | succ n hi21 =>
      intro x1 x2 x3 u ls hl hF _ _ hP hS
      obtain ⟨ih21, hih⟩ : ∃ q, q = q_lp (fX11_isEmptyBand_b21 N) (fun _ _ _ _ => none) n := ⟨_, rfl⟩
      rw [← hih] at hi21
      have hF : fX11_isEmptyBand_b21 N (q_lp (fX11_isEmptyBand_b21 N) (fun _ _ _ _ => none) n) x1 x2 x3 u = some (r0, σ0) := hF
      rw [← hih] at hF
      clear hih
      unfold fX11_isEmptyBand_b21 at hF
      refine lv_iload_n hx hb dX11_isEmptyBand_21 rfl (lv_at hl 3 rfl) ?_
      refine lv_iload_n hx hb dX11_isEmptyBand_22 rfl (lv_at hl 1 rfl) ?_
      refine lv_iconst (v := 1) hx hb dX11_isEmptyBand_23 (by decide) ?_
      refine lv_iadd hx hb dX11_isEmptyBand_24 ?_
      refine lv_aload_n hx hb dX11_isEmptyBand_25 rfl (lv_at hl 0 rfl) ?_
      refine gm_m_wide hx hb hts hown hK hP fl_X11_165 dX11_isEmptyBand_26 ?_
      refine lv_imul hx hb dX11_isEmptyBand_29 ?_
      refine sx_icmp_ge (tgt := 67) hx hb hF dX11_isEmptyBand_30 (by decide) (fun hF => ?_) (fun hF => ?_)
      · refine lv_iload_n hx hb dX11_isEmptyBand_67 rfl (lv_at hl 2 rfl) ?_
        exact sx_retzv (Wd := (am_W a cI)) (σ := u) hx hb hr hF hP hS hlocks dX11_isEmptyBand_68
      · refine lv_iload_n hx hb dX11_isEmptyBand_33 rfl (lv_at hl 2 rfl) ?_
        refine sx_if_eq (tgt := 67) hx hb hF dX11_isEmptyBand_34 (by decide) (fun hF => ?_) (fun hF => ?_)
        · refine lv_iload_n hx hb dX11_isEmptyBand_67 rfl (lv_at hl 2 rfl) ?_
          exact sx_retzv (Wd := (am_W a cI)) (σ := u) hx hb hr hF hP hS hlocks dX11_isEmptyBand_68
        · refine lv_aload_n hx hb dX11_isEmptyBand_37 rfl (lv_at hl 0 rfl) ?_
          refine gm_m_isUsed hx hb hts hown hK hP fl_X11_82 dX11_isEmptyBand_38 ?_
          refine lv_iload_n hx hb dX11_isEmptyBand_41 rfl (lv_at hl 3 rfl) ?_
          refine lm_m_isUsed hx hb hK hP hF dX11_isEmptyBand_42 (fun v2 hF => ?_)
          refine sx_if_ne (tgt := 59) hx hb hF dX11_isEmptyBand_43 (by decide) (fun hF => ?_) (fun hF => ?_)
          · exact hB59 ih21 hi21 x1 x3 u ls (lv_sub hl [0, 1, 3] rfl) hF _ _ hP hS
          · refine lv_aload_n hx hb dX11_isEmptyBand_46 rfl (lv_at hl 0 rfl) ?_
            refine gm_m_isKeptUsed hx hb hts hown hK hP fl_X11_128 dX11_isEmptyBand_47 ?_
            refine lv_iload_n hx hb dX11_isEmptyBand_50 rfl (lv_at hl 3 rfl) ?_
            refine lm_m_isKeptUsed hx hb hK hP hF dX11_isEmptyBand_51 (fun v4 hF => ?_)
            refine sx_if_ne (tgt := 59) hx hb hF dX11_isEmptyBand_52 (by decide) (fun hF => ?_) (fun hF => ?_)
            · exact hB59 ih21 hi21 x1 x3 u ls (lv_sub hl [0, 1, 3] rfl) hF _ _ hP hS
            · refine lv_iconst (v := 1) hx hb dX11_isEmptyBand_55 (by decide) ?_
              refine lv_goto (tgt := 60) hx hb dX11_isEmptyBand_56 (by decide) ?_
              exact hB60 ih21 hi21 x1 x3 1 u ls (lv_sub hl [0, 1, 3] rfl) hF _ _ hP hS
  have hB13 : ∀ (x1 : Int32) (y0 : Int32) (u : q_St) (ls : Array Slot), lv_has ls 4 [(0, .ref (a 0)), (1, .int x1)] → fX11_isEmptyBand_b13 N x1 y0 u = some (r0, σ0) → ∀ (H : Heap) (locs : List Loc), va_P D vwCl (am_W a cI u) H → va_S (am_A a) s.heap H locs → W p l e (headSpec (Cond.code yX11_isEmptyBand cX11_isEmptyBand 4 (some .boolean) :: q_T) ({ frames := 0, cells := 0, slots := 0, locals := 0 } : Room)).room s m ([.ref (a 0), .int o1] : List Value).toArray below meth c H locs 0 0 (MQ below (q_Qi D vwCl (am_W a cI) (am_A a) r0 σ0) ([.ref (a 0), .int o1] : List Value).toArray s 0 0 (am_A a)) (F0 m 13 ls [.int y0]) := by
    intro x1 y0 u ls hl hF _ _ hP hS
    unfold fX11_isEmptyBand_b13 at hF
    refine lv_istore_n (lv' := [(2, .int y0), (0, .ref (a 0)), (1, .int x1)]) hx hb dX11_isEmptyBand_13 rfl hl (by decide) rfl (fun ls hl => ?_)
    refine lv_iload_n hx hb dX11_isEmptyBand_14 rfl (lv_at hl 2 rfl) ?_
    refine lv_aload_n hx hb dX11_isEmptyBand_15 rfl (lv_at hl 1 rfl) ?_
    refine gm_m_wide hx hb hts hown hK hP fl_X11_165 dX11_isEmptyBand_16 ?_
    refine lv_imul hx hb dX11_isEmptyBand_19 ?_
    refine sx_istore_n (lv2 := [(2, .int y0), (0, .ref (a 0)), (1, .int x1)]) hx hb hF dX11_isEmptyBand_20 rfl hl (by decide) rfl (fun v1 hF ls hl => ?_)
    exact hB21 N x1 y0 v1 u ls (lv_sub hl [2, 3, 1, 0] rfl) hF _ _ hP hS
  unfold fX11_isEmptyBand at hF
  refine lv_iload_n hx hb dX11_isEmptyBand_0 rfl (lv_at hl 1 rfl) ?_
  refine lv_aload_n hx hb dX11_isEmptyBand_1 rfl (lv_at hl 0 rfl) ?_
  refine gm_m_band hx hb hts hown hK hP fl_X11_34 dX11_isEmptyBand_2 ?_
  refine sx_icmp_eq (tgt := 12) hx hb hF dX11_isEmptyBand_5 (by decide) (fun hF => ?_) (fun hF => ?_)
  · refine lv_iconst (v := 0) hx hb dX11_isEmptyBand_12 (by decide) ?_
    exact hB13 o1 0 u ls (lv_sub hl [0, 1] rfl) hF _ _ hP hS
  · refine lv_iconst (v := 1) hx hb dX11_isEmptyBand_8 (by decide) ?_
    refine lv_goto (tgt := 13) hx hb dX11_isEmptyBand_9 (by decide) ?_
    exact hB13 o1 1 u ls (lv_sub hl [0, 1] rfl) hF _ _ hP hS
set_option maxHeartbeats 4000000 in
set_option maxRecDepth 100000 in
theorem kt_X11_emptyBand {N : Nat} {l : Launch} {D : va_G} {a : Nat → Nat} {cI : Nat → ClassId} (hD : ∀ σ, va_D (am_A a) (am_W a cI σ))  {u σ0 : q_St} {r0 : Int32} (hF : fX11_emptyBand N u = some (r0, σ0)) : Met l yX11_emptyBand (Cond.code yX11_emptyBand cX11_emptyBand 2 (some .int) :: q_T) ({ frames := 1, cells := 0, slots := 0, locals := 23 } : Room) (q_P D vwCl (am_T cI) (am_W a cI) [.ref (a 0)] u) (q_Qi D vwCl (am_W a cI) (am_A a) r0 σ0) 0 0 (am_A a) := by
  refine Met.ofW (cc := cX11_emptyBand) (maxL := 2) (ret := (some .int)) (by decide) rfl ?_
  intro p e s m args below meth c s₁ B hml hv
  obtain ⟨rfl, hP, hK⟩ := hv
  have hx := B.exec
  have hb := B.bytes
  have hr := B.returns
  have hts := q_ts (atoms_spec (ws := Cond.code yX11_emptyBand cX11_emptyBand 2 (some .int) :: q_T) B.pre)
  have hown : s.vm.findClass RX11 = some m.cls := findClass_of_methodNamed B.named
  have hlocks := B.notSynchronized
  have hS : va_S (am_A a) s.heap s.heap [] := va_S.rf
  have hl := lv_entry ([.ref (a 0)]) (n := 2) (Nat.le_of_ble_eq_true rfl)
  rw [lg_entry_eq]
  generalize (lg_sl ([.ref (a 0)]) ++ List.replicate (2 - (lg_sl ([.ref (a 0)])).length) Slot.unset).toArray = ls at hl ⊢
  have hl : lv_has ls 2 [(0, .ref (a 0))] := hl
  have hB7 : ∀ (n : Nat) (x1 : Int32) (u : q_St) (ls : Array Slot), lv_has ls 2 [(0, .ref (a 0)), (1, .int x1)] → q_lp (fX11_emptyBand_b7 N) (fun _ _ => none) n x1 u = some (r0, σ0) → ∀ (H : Heap) (locs : List Loc), va_P D vwCl (am_W a cI u) H → va_S (am_A a) s.heap H locs → W p l e (headSpec (Cond.code yX11_emptyBand cX11_emptyBand 2 (some .int) :: q_T) ({ frames := 1, cells := 0, slots := 0, locals := 23 } : Room)).room s m ([.ref (a 0)] : List Value).toArray below meth c H locs 0 0 (MQ below (q_Qi D vwCl (am_W a cI) (am_A a) r0 σ0) ([.ref (a 0)] : List Value).toArray s 0 0 (am_A a)) (F0 m 7 ls []) := by
    intro n
    induction n with
    | zero => intro x1 u ls hl hF; exact absurd (show (none : Option (Int32 × q_St)) = some _ from hF) (fun h => nomatch h)
    | succ n hi7 =>
      intro x1 u ls hl hF _ _ hP hS
      obtain ⟨ih7, hih⟩ : ∃ q, q = q_lp (fX11_emptyBand_b7 N) (fun _ _ => none) n := ⟨_, rfl⟩
      rw [← hih] at hi7
      have hF : fX11_emptyBand_b7 N (q_lp (fX11_emptyBand_b7 N) (fun _ _ => none) n) x1 u = some (r0, σ0) := hF
      rw [← hih] at hF
      clear hih
      unfold fX11_emptyBand_b7 at hF
      refine lv_iload_n hx hb dX11_emptyBand_7 rfl (lv_at hl 1 rfl) ?_
      refine sx_if_lt (tgt := 25) hx hb hF dX11_emptyBand_8 (by decide) (fun hF => ?_) (fun hF => ?_)
      · refine lv_iload_n hx hb dX11_emptyBand_25 rfl (lv_at hl 1 rfl) ?_
        exact sx_reti (Wd := (am_W a cI)) (σ := u) hx hb hr hF hP hS hlocks dX11_emptyBand_26
      · refine lv_aload_n hx hb dX11_emptyBand_11 rfl (lv_at hl 0 rfl) ?_
        refine lv_iload_n hx hb dX11_emptyBand_12 rfl (lv_at hl 1 rfl) ?_
        obtain ⟨r2, u3, hc4, hF⟩ := q_bnd_some hF
        refine sx_ci (Wd := (am_W a cI)) (σ1 := u3) (q_runV (Wd := (am_W a cI)) (σ := u) (q0 := 0) (ci := 11) (T := TX11) (N := 72) (As := [.int x1]) (rest := []) hx hb hml hown hts hK hP (kt_X11_isEmptyBand hD hc4) cw_X11_403 rfl rfl ⟨Nat.le_of_ble_eq_true rfl, Nat.le_of_ble_eq_true rfl⟩ rfl rfl rfl hl.1 rfl (Nat.le_of_ble_eq_true rfl) dX11_emptyBand_13) hS (fun H locs hP hS => ?_)
        refine sx_if_ne (tgt := 25) hx hb hF dX11_emptyBand_16 (by decide) (fun hF => ?_) (fun hF => ?_)
        · refine lv_iload_n hx hb dX11_emptyBand_25 rfl (lv_at hl 1 rfl) ?_
          exact sx_reti (Wd := (am_W a cI)) (σ := u3) hx hb hr hF hP hS hlocks dX11_emptyBand_26
        · refine sx_iinc (d := (-1)) (k := 1) (lv2 := [(0, .ref (a 0))]) hx hb hF dX11_emptyBand_19 hl rfl (by decide) (by decide) rfl (fun v5 hF ls hl => ?_)
          refine lv_goto (tgt := 7) hx hb dX11_emptyBand_22 (by decide) ?_
          exact hi7 v5 u3 ls (lv_sub hl [1, 0] rfl) hF _ _ hP hS
  unfold fX11_emptyBand at hF
  refine lv_aload_n hx hb dX11_emptyBand_0 rfl (lv_at hl 0 rfl) ?_
  refine gm_m_bands hx hb hts hown hK hP fl_X11_153 dX11_emptyBand_1 ?_
  refine lv_iconst (v := 1) hx hb dX11_emptyBand_4 (by decide) ?_
  refine lv_isub hx hb dX11_emptyBand_5 ?_
  refine sx_istore_n (lv2 := [(0, .ref (a 0))]) hx hb hF dX11_emptyBand_6 rfl hl (by decide) rfl (fun v1 hF ls hl => ?_)
  exact hB7 N v1 u ls (lv_sub hl [1, 0] rfl) hF _ _ hP hS
set_option maxHeartbeats 4000000 in
set_option maxRecDepth 100000 in
theorem kt_X11_stream {N : Nat} {l : Launch} {D : va_G} {a : Nat → Nat} {cI : Nat → ClassId} (hD : ∀ σ, va_D (am_A a) (am_W a cI σ)) {o1 : Int32} {u σ0 : q_St} {r0 : Int32} (hF : fX11_stream N o1 u = some (r0, σ0)) : Met l yX11_stream (Cond.code yX11_stream cX11_stream 2 (some .boolean) :: q_T) ({ frames := 3, cells := 0, slots := 0, locals := 68 } : Room) (q_P D vwCl (am_T cI) (am_W a cI) [.ref (a 0), .int o1] u) (q_Qi D vwCl (am_W a cI) (am_A a) r0 σ0) 0 0 (am_A a) := by
  refine Met.ofW (cc := cX11_stream) (maxL := 2) (ret := (some .boolean)) (by decide) rfl ?_
  intro p e s m args below meth c s₁ B hml hv
  obtain ⟨rfl, hP, hK⟩ := hv
  have hx := B.exec
  have hb := B.bytes
  have hr := B.returns
  have hts := q_ts (atoms_spec (ws := Cond.code yX11_stream cX11_stream 2 (some .boolean) :: q_T) B.pre)
  have hown : s.vm.findClass RX11 = some m.cls := findClass_of_methodNamed B.named
  have hlocks := B.notSynchronized
  have hS : va_S (am_A a) s.heap s.heap [] := va_S.rf
  have hl := lv_entry ([.ref (a 0), .int o1]) (n := 2) (Nat.le_of_ble_eq_true rfl)
  rw [lg_entry_eq]
  generalize (lg_sl ([.ref (a 0), .int o1]) ++ List.replicate (2 - (lg_sl ([.ref (a 0), .int o1])).length) Slot.unset).toArray = ls at hl ⊢
  have hl : lv_has ls 2 [(0, .ref (a 0)), (1, .int o1)] := hl
  unfold fX11_stream at hF
  refine lv_aload_n hx hb dX11_stream_0 rfl (lv_at hl 0 rfl) ?_
  obtain ⟨r1, u2, hc3, hF⟩ := q_bnd_some hF
  refine sx_ci (Wd := (am_W a cI)) (σ1 := u2) (q_runV (Wd := (am_W a cI)) (σ := u) (q0 := 0) (ci := 11) (T := TX11) (N := 72) (As := []) (rest := []) hx hb hml hown hts hK hP (kt_X11_record hD hc3) cw_X11_226 rfl rfl ⟨Nat.le_of_ble_eq_true rfl, Nat.le_of_ble_eq_true rfl⟩ rfl rfl rfl hl.1 rfl (Nat.le_of_ble_eq_true rfl) dX11_stream_1) hS (fun H locs hP hS => ?_)
  refine sx_if_ne (tgt := 9) hx hb hF dX11_stream_4 (by decide) (fun hF => ?_) (fun hF => ?_)
  · refine lv_aload_n hx hb dX11_stream_9 rfl (lv_at hl 0 rfl) ?_
    refine gm_m_marks hx hb hts hown hK hP fl_X11_31 dX11_stream_10 ?_
    refine lv_iload_n hx hb dX11_stream_13 rfl (lv_at hl 1 rfl) ?_
    refine lv_aload_n hx hb dX11_stream_14 rfl (lv_at hl 0 rfl) ?_
    refine gm_m_head hx hb hts hown hK hP fl_X11_199 dX11_stream_15 ?_
    refine um_m_marks hx hb hK hP hD hS hF dX11_stream_18 (fun u4 H locs hF hP hS => ?_)
    refine lv_aload_n hx hb dX11_stream_19 rfl (lv_at hl 0 rfl) ?_
    refine lv_iload_n hx hb dX11_stream_20 rfl (lv_at hl 1 rfl) ?_
    refine pm_m_streamed hx hb hts hown hK hP fl_X11_37 hD hS hF dX11_stream_21 (fun u5 H locs hF hP hS => ?_)
    refine lv_aload_n hx hb dX11_stream_24 rfl (lv_at hl 0 rfl) ?_
    obtain ⟨r6, u7, hc8, hF⟩ := q_bnd_some hF
    refine sx_ci (Wd := (am_W a cI)) (σ1 := u7) (q_runV (Wd := (am_W a cI)) (σ := u5) (q0 := 0) (ci := 11) (T := TX11) (N := 72) (As := []) (rest := []) hx hb hml hown hts hK hP (kt_X11_fill hD hc8) cw_X11_264 rfl rfl ⟨Nat.le_of_ble_eq_true rfl, Nat.le_of_ble_eq_true rfl⟩ rfl rfl rfl hl.1 rfl (Nat.le_of_ble_eq_true rfl) dX11_stream_25) hS (fun H locs hP hS => ?_)
    exact sx_retzv (Wd := (am_W a cI)) (σ := u7) hx hb hr hF hP hS hlocks dX11_stream_28
  · refine lv_iconst (v := 0) hx hb dX11_stream_7 (by decide) ?_
    exact sx_retz (Wd := (am_W a cI)) (σ := u2) hx hb hr (by decide) hF hP hS hlocks dX11_stream_8
set_option maxHeartbeats 4000000 in
set_option maxRecDepth 100000 in
theorem kt_X11_lay {N : Nat} {l : Launch} {D : va_G} {a : Nat → Nat} {cI : Nat → ClassId} (hD : ∀ σ, va_D (am_A a) (am_W a cI σ)) {o1 : Int32} {o2 : Int64} {u σ0 : q_St} {r0 : Int32} (hF : fX11_lay N o1 o2 u = some (r0, σ0)) : Met l yX11_lay (Cond.code yX11_lay cX11_lay 9 (some .int) :: q_T) ({ frames := 9, cells := 0, slots := 0, locals := 196 } : Room) (q_P D vwCl (am_T cI) (am_W a cI) [.ref (a 0), .int o1, .long o2] u) (q_Qi D vwCl (am_W a cI) (am_A a) r0 σ0) 0 0 (am_A a) := by
  refine Met.ofW (cc := cX11_lay) (maxL := 9) (ret := (some .int)) (by decide) rfl ?_
  intro p e s m args below meth c s₁ B hml hv
  obtain ⟨rfl, hP, hK⟩ := hv
  have hx := B.exec
  have hb := B.bytes
  have hr := B.returns
  have hts := q_ts (atoms_spec (ws := Cond.code yX11_lay cX11_lay 9 (some .int) :: q_T) B.pre)
  have hown : s.vm.findClass RX11 = some m.cls := findClass_of_methodNamed B.named
  have hlocks := B.notSynchronized
  have hS : va_S (am_A a) s.heap s.heap [] := va_S.rf
  have hl := lv_entry ([.ref (a 0), .int o1, .long o2]) (n := 9) (Nat.le_of_ble_eq_true rfl)
  rw [lg_entry_eq]
  generalize (lg_sl ([.ref (a 0), .int o1, .long o2]) ++ List.replicate (9 - (lg_sl ([.ref (a 0), .int o1, .long o2])).length) Slot.unset).toArray = ls at hl ⊢
  have hl : lv_has ls 9 [(0, .ref (a 0)), (1, .int o1), (2, .long o2)] := hl
  have hB179 : ∀ (n : Nat) (x1 : Int32) (x2 : Int64) (x6 : Int32) (x7 : Int32) (x8 : Int32) (u : q_St) (ls : Array Slot), lv_has ls 9 [(0, .ref (a 0)), (1, .int x1), (2, .long x2), (6, .int x6), (7, .int x7), (8, .int x8)] → q_lp (fX11_lay_b179 N) (fun _ _ _ _ _ _ => none) n x1 x2 x6 x7 x8 u = some (r0, σ0) → ∀ (H : Heap) (locs : List Loc), va_P D vwCl (am_W a cI u) H → va_S (am_A a) s.heap H locs → W p l e (headSpec (Cond.code yX11_lay cX11_lay 9 (some .int) :: q_T) ({ frames := 9, cells := 0, slots := 0, locals := 196 } : Room)).room s m ([.ref (a 0), .int o1, .long o2] : List Value).toArray below meth c H locs 0 0 (MQ below (q_Qi D vwCl (am_W a cI) (am_A a) r0 σ0) ([.ref (a 0), .int o1, .long o2] : List Value).toArray s 0 0 (am_A a)) (F0 m 179 ls []) := by
    intro n
    induction n with
    | zero => intro x1 x2 x6 x7 x8 u ls hl hF; exact absurd (show (none : Option (Int32 × q_St)) = some _ from hF) (fun h => nomatch h)
    | succ n hi179 =>
      intro x1 x2 x6 x7 x8 u ls hl hF _ _ hP hS
      obtain ⟨ih179, hih⟩ : ∃ q, q = q_lp (fX11_lay_b179 N) (fun _ _ _ _ _ _ => none) n := ⟨_, rfl⟩
      rw [← hih] at hi179
      have hF : fX11_lay_b179 N (q_lp (fX11_lay_b179 N) (fun _ _ _ _ _ _ => none) n) x1 x2 x6 x7 x8 u = some (r0, σ0) := hF
      rw [← hih] at hF
      clear hih
      unfold fX11_lay_b179 at hF
      refine lv_iload hx hb dX11_lay_179 (lv_at hl 5 rfl) ?_
      refine lv_iload hx hb dX11_lay_181 (lv_at hl 4 rfl) ?_
      refine lv_iconst (v := 1) hx hb dX11_lay_183 (by decide) ?_
      refine lv_iadd hx hb dX11_lay_184 ?_
      refine lv_aload_n hx hb dX11_lay_185 rfl (lv_at hl 0 rfl) ?_
      refine gm_m_wide hx hb hts hown hK hP fl_X11_165 dX11_lay_186 ?_
      refine lv_imul hx hb dX11_lay_189 ?_
      refine sx_icmp_ge (tgt := 213) hx hb hF dX11_lay_190 (by decide) (fun hF => ?_) (fun hF => ?_)
      · refine lv_aload_n hx hb dX11_lay_213 rfl (lv_at hl 0 rfl) ?_
        refine lv_iload_n hx hb dX11_lay_214 rfl (lv_at hl 1 rfl) ?_
        refine lv_lload_n hx hb dX11_lay_215 rfl (lv_at hl 2 rfl) ?_
        refine lv_iload hx hb dX11_lay_216 (lv_at hl 3 rfl) ?_
        refine lv_iload hx hb dX11_lay_218 (lv_at hl 4 rfl) ?_
        obtain ⟨r22, u23, hc24, hF⟩ := q_bnd_some hF
        refine sx_cv (Wd := (am_W a cI)) (σ1 := u23) (q_runV (Wd := (am_W a cI)) (σ := u) (q0 := 0) (ci := 11) (T := TX11) (N := 72) (As := [.int x1, .long x2, .int x6, .int x7]) (rest := []) hx hb hml hown hts hK hP (kt_X11_enter hD hc24) cw_X11_362 rfl rfl ⟨Nat.le_of_ble_eq_true rfl, Nat.le_of_ble_eq_true rfl⟩ rfl rfl rfl hl.1 rfl (Nat.le_of_ble_eq_true rfl) dX11_lay_220) hS (fun H locs hP hS => ?_)
        refine lv_aload_n hx hb dX11_lay_223 rfl (lv_at hl 0 rfl) ?_
        refine lv_iload hx hb dX11_lay_224 (lv_at hl 3 rfl) ?_
        refine lv_iconst (v := 3) hx hb dX11_lay_226 (by decide) ?_
        refine lv_iload_n hx hb dX11_lay_227 rfl (lv_at hl 1 rfl) ?_
        obtain ⟨r25, u26, hc27, hF⟩ := q_bnd_some hF
        refine sx_ci (Wd := (am_W a cI)) (σ1 := u26) (q_runV (Wd := (am_W a cI)) (σ := u23) (q0 := 0) (ci := 11) (T := TX11) (N := 72) (As := [.int x6, .int 3, .int x1]) (rest := []) hx hb hml hown hts hK hP (kt_X11_born hD hc27) cw_X11_366 rfl rfl ⟨Nat.le_of_ble_eq_true rfl, Nat.le_of_ble_eq_true rfl⟩ rfl rfl rfl hl.1 rfl (Nat.le_of_ble_eq_true rfl) dX11_lay_228) hS (fun H locs hP hS => ?_)
        refine lv_pop hx hb dX11_lay_231 rfl ?_
        refine lv_aload_n hx hb dX11_lay_232 rfl (lv_at hl 0 rfl) ?_
        refine gm_m_size hx hb hts hown hK hP fl_X11_43 dX11_lay_233 ?_
        refine lv_iload hx hb dX11_lay_236 (lv_at hl 3 rfl) ?_
        refine lv_bipush (v := 64) hx hb dX11_lay_238 (by decide) ?_
        refine lv_aload_n hx hb dX11_lay_240 rfl (lv_at hl 0 rfl) ?_
        refine gm_m_wide hx hb hts hown hK hP fl_X11_165 dX11_lay_241 ?_
        refine lv_imul hx hb dX11_lay_244 ?_
        refine um_m_size hx hb hK hP hD hS hF dX11_lay_245 (fun u28 H locs hF hP hS => ?_)
        refine lv_aload_n hx hb dX11_lay_246 rfl (lv_at hl 0 rfl) ?_
        refine gm_m_block hx hb hts hown hK hP fl_X11_65 dX11_lay_247 ?_
        refine lv_bipush (v := 12) hx hb dX11_lay_250 (by decide) ?_
        refine lv_iload hx hb dX11_lay_252 (lv_at hl 3 rfl) ?_
        refine lv_imul hx hb dX11_lay_254 ?_
        refine lv_iload hx hb dX11_lay_255 (lv_at hl 4 rfl) ?_
        refine lv_aload_n hx hb dX11_lay_257 rfl (lv_at hl 0 rfl) ?_
        refine gm_m_wide hx hb hts hown hK hP fl_X11_165 dX11_lay_258 ?_
        refine lv_imul hx hb dX11_lay_261 ?_
        refine um_m_block hx hb hK hP hD hS hF dX11_lay_262 (fun u29 H locs hF hP hS => ?_)
        refine lv_iload hx hb dX11_lay_263 (lv_at hl 3 rfl) ?_
        exact sx_reti (Wd := (am_W a cI)) (σ := u29) hx hb hr hF hP hS hlocks dX11_lay_265
      · refine lv_aload_n hx hb dX11_lay_193 rfl (lv_at hl 0 rfl) ?_
        refine gm_m_isUsed hx hb hts hown hK hP fl_X11_82 dX11_lay_194 ?_
        refine lv_iload hx hb dX11_lay_197 (lv_at hl 5 rfl) ?_
        refine lv_iconst (v := 1) hx hb dX11_lay_199 (by decide) ?_
        refine um_m_isUsed hx hb hK hP hD hS hF dX11_lay_200 (fun u30 H locs hF hP hS => ?_)
        refine lv_aload_n hx hb dX11_lay_201 rfl (lv_at hl 0 rfl) ?_
        refine lv_iload hx hb dX11_lay_202 (lv_at hl 5 rfl) ?_
        obtain ⟨r31, u32, hc33, hF⟩ := q_bnd_some hF
        refine sx_cv (Wd := (am_W a cI)) (σ1 := u32) (q_runV (Wd := (am_W a cI)) (σ := u30) (q0 := 0) (ci := 11) (T := TX11) (N := 72) (As := [.int x8]) (rest := []) hx hb hml hown hts hK hP (kt_X11_soilMap hD hc33) cw_X11_300 rfl rfl ⟨Nat.le_of_ble_eq_true rfl, Nat.le_of_ble_eq_true rfl⟩ rfl rfl rfl hl.1 rfl (Nat.le_of_ble_eq_true rfl) dX11_lay_204) hS (fun H locs hP hS => ?_)
        refine sx_iinc (d := 1) (k := 5) (lv2 := [(0, .ref (a 0)), (1, .int x1), (2, .long x2), (6, .int x6), (7, .int x7)]) hx hb hF dX11_lay_207 hl rfl (by decide) (by decide) rfl (fun v34 hF ls hl => ?_)
        refine lv_goto (tgt := 179) hx hb dX11_lay_210 (by decide) ?_
        exact hi179 x1 x2 x6 x7 v34 u32 ls (lv_sub hl [1, 2, 3, 4, 5, 0] rfl) hF _ _ hP hS
  have hB96 : ∀ (n : Nat) (x1 : Int32) (x2 : Int64) (x4 : Int32) (x6 : Int32) (x7 : Int32) (x8 : Int32) (u : q_St) (ls : Array Slot), lv_has ls 9 [(0, .ref (a 0)), (1, .int x1), (2, .long x2), (4, .int x4), (6, .int x6), (7, .int x7), (8, .int x8)] → q_lp (fX11_lay_b96 N) (fun _ _ _ _ _ _ _ => none) n x1 x2 x4 x6 x7 x8 u = some (r0, σ0) → ∀ (H : Heap) (locs : List Loc), va_P D vwCl (am_W a cI u) H → va_S (am_A a) s.heap H locs → W p l e (headSpec (Cond.code yX11_lay cX11_lay 9 (some .int) :: q_T) ({ frames := 9, cells := 0, slots := 0, locals := 196 } : Room)).room s m ([.ref (a 0), .int o1, .long o2] : List Value).toArray below meth c H locs 0 0 (MQ below (q_Qi D vwCl (am_W a cI) (am_A a) r0 σ0) ([.ref (a 0), .int o1, .long o2] : List Value).toArray s 0 0 (am_A a)) (F0 m 96 ls []) := by
    intro n
    induction n with
    | zero => intro x1 x2 x4 x6 x7 x8 u ls hl hF; exact absurd (show (none : Option (Int32 × q_St)) = some _ from hF) (fun h => nomatch h)
    | succ n hi96 =>
      intro x1 x2 x4 x6 x7 x8 u ls hl hF _ _ hP hS
      obtain ⟨ih96, hih⟩ : ∃ q, q = q_lp (fX11_lay_b96 N) (fun _ _ _ _ _ _ _ => none) n := ⟨_, rfl⟩
      rw [← hih] at hi96
      have hF : fX11_lay_b96 N (q_lp (fX11_lay_b96 N) (fun _ _ _ _ _ _ _ => none) n) x1 x2 x4 x6 x7 x8 u = some (r0, σ0) := hF
      rw [← hih] at hF
      clear hih
      unfold fX11_lay_b96 at hF
      refine lv_iload hx hb dX11_lay_96 (lv_at hl 6 rfl) ?_
      refine lv_bipush (v := 64) hx hb dX11_lay_98 (by decide) ?_
      refine lv_aload_n hx hb dX11_lay_100 rfl (lv_at hl 0 rfl) ?_
      refine gm_m_wide hx hb hts hown hK hP fl_X11_165 dX11_lay_101 ?_
      refine lv_imul hx hb dX11_lay_104 ?_
      refine sx_icmp_ge (tgt := 170) hx hb hF dX11_lay_105 (by decide) (fun hF => ?_) (fun hF => ?_)
      · refine lv_iload hx hb dX11_lay_170 (lv_at hl 5 rfl) ?_
        refine lv_aload_n hx hb dX11_lay_172 rfl (lv_at hl 0 rfl) ?_
        refine gm_m_wide hx hb hts hown hK hP fl_X11_165 dX11_lay_173 ?_
        refine lv_imul hx hb dX11_lay_176 ?_
        refine sx_istore (lv2 := [(0, .ref (a 0)), (1, .int x1), (2, .long x2), (4, .int x4), (6, .int x6), (7, .int x7)]) hx hb hF dX11_lay_177 hl (by decide) rfl (fun v21 hF ls hl => ?_)
        exact hB179 N x1 x2 x6 x7 v21 u ls (lv_sub hl [1, 2, 3, 5, 6, 0] rfl) hF _ _ hP hS
      · refine lv_aload_n hx hb dX11_lay_108 rfl (lv_at hl 0 rfl) ?_
        refine gm_m_bytes hx hb hts hown hK hP fl_X11_86 dX11_lay_109 ?_
        refine lv_bipush (v := 64) hx hb dX11_lay_112 (by decide) ?_
        refine lv_aload_n hx hb dX11_lay_114 rfl (lv_at hl 0 rfl) ?_
        refine gm_m_wide hx hb hts hown hK hP fl_X11_165 dX11_lay_115 ?_
        refine lv_imul hx hb dX11_lay_118 ?_
        refine lv_iload hx hb dX11_lay_119 (lv_at hl 5 rfl) ?_
        refine lv_imul hx hb dX11_lay_121 ?_
        refine lv_iload hx hb dX11_lay_122 (lv_at hl 6 rfl) ?_
        refine lv_iadd hx hb dX11_lay_124 ?_
        refine lv_aload_n hx hb dX11_lay_125 rfl (lv_at hl 0 rfl) ?_
        refine gm_m_tape hx hb hts hown hK hP fl_X11_140 dX11_lay_126 ?_
        refine lv_iload hx hb dX11_lay_129 (lv_at hl 6 rfl) ?_
        refine lv_iload hx hb dX11_lay_131 (lv_at hl 3 rfl) ?_
        refine sx_irem hx hb hF dX11_lay_133 (fun hF => ?_)
        refine lm_m_tape hx hb hK hP hF dX11_lay_134 (fun v35 hF => ?_)
        refine um_m_bytes hx hb hK hP hD hS hF dX11_lay_135 (fun u36 H locs hF hP hS => ?_)
        refine lv_aload_n hx hb dX11_lay_136 rfl (lv_at hl 0 rfl) ?_
        refine gm_m_keptBytes hx hb hts hown hK hP fl_X11_131 dX11_lay_137 ?_
        refine lv_bipush (v := 64) hx hb dX11_lay_140 (by decide) ?_
        refine lv_aload_n hx hb dX11_lay_142 rfl (lv_at hl 0 rfl) ?_
        refine gm_m_wide hx hb hts hown hK hP fl_X11_165 dX11_lay_143 ?_
        refine lv_imul hx hb dX11_lay_146 ?_
        refine lv_iload hx hb dX11_lay_147 (lv_at hl 5 rfl) ?_
        refine lv_imul hx hb dX11_lay_149 ?_
        refine lv_iload hx hb dX11_lay_150 (lv_at hl 6 rfl) ?_
        refine lv_iadd hx hb dX11_lay_152 ?_
        refine lv_aload_n hx hb dX11_lay_153 rfl (lv_at hl 0 rfl) ?_
        refine gm_m_tape hx hb hts hown hK hP fl_X11_140 dX11_lay_154 ?_
        refine lv_iload hx hb dX11_lay_157 (lv_at hl 6 rfl) ?_
        refine lv_iload hx hb dX11_lay_159 (lv_at hl 3 rfl) ?_
        refine sx_irem hx hb hF dX11_lay_161 (fun hF => ?_)
        refine lm_m_tape hx hb hK hP hF dX11_lay_162 (fun v37 hF => ?_)
        refine um_m_keptBytes hx hb hK hP hD hS hF dX11_lay_163 (fun u38 H locs hF hP hS => ?_)
        refine sx_iinc (d := 1) (k := 6) (lv2 := [(0, .ref (a 0)), (1, .int x1), (2, .long x2), (4, .int x4), (6, .int x6), (7, .int x7)]) hx hb hF dX11_lay_164 hl rfl (by decide) (by decide) rfl (fun v39 hF ls hl => ?_)
        refine lv_goto (tgt := 96) hx hb dX11_lay_167 (by decide) ?_
        exact hi96 x1 x2 x4 x6 x7 v39 u38 ls (lv_sub hl [1, 2, 3, 4, 5, 6, 0] rfl) hF _ _ hP hS
  unfold fX11_lay at hF
  refine lv_aload_n hx hb dX11_lay_0 rfl (lv_at hl 0 rfl) ?_
  refine gm_m_length hx hb hts hown hK hP fl_X11_180 dX11_lay_1 ?_
  refine sx_istore (lv2 := [(0, .ref (a 0)), (1, .int o1), (2, .long o2)]) hx hb hF dX11_lay_4 hl (by decide) rfl (fun v1 hF ls hl => ?_)
  refine lv_aload_n hx hb dX11_lay_6 rfl (lv_at hl 1 rfl) ?_
  refine lv_iconst (v := 0) hx hb dX11_lay_7 (by decide) ?_
  refine pm_m_length hx hb hts hown hK hP fl_X11_180 hD hS hF dX11_lay_8 (fun u2 H locs hF hP hS => ?_)
  refine lv_aload_n hx hb dX11_lay_11 rfl (lv_at hl 1 rfl) ?_
  obtain ⟨r3, u4, hc5, hF⟩ := q_bnd_some hF
  refine sx_ci (Wd := (am_W a cI)) (σ1 := u4) (q_runV (Wd := (am_W a cI)) (σ := u2) (q0 := 0) (ci := 11) (T := TX11) (N := 72) (As := []) (rest := []) hx hb hml hown hts hK hP (kt_X11_begins hD hc5) cw_X11_333 rfl rfl ⟨Nat.le_of_ble_eq_true rfl, Nat.le_of_ble_eq_true rfl⟩ rfl rfl rfl hl.1 rfl (Nat.le_of_ble_eq_true rfl) dX11_lay_12) hS (fun H locs hP hS => ?_)
  refine sx_if_ne (tgt := 21) hx hb hF dX11_lay_15 (by decide) (fun hF => ?_) (fun hF => ?_)
  · refine lv_aload_n hx hb dX11_lay_21 rfl (lv_at hl 1 rfl) ?_
    refine lv_iload_n hx hb dX11_lay_22 rfl (lv_at hl 2 rfl) ?_
    refine lv_lload_n hx hb dX11_lay_23 rfl (lv_at hl 3 rfl) ?_
    obtain ⟨r6, u7, hc8, hF⟩ := q_bnd_some hF
    refine sx_ci (Wd := (am_W a cI)) (σ1 := u7) (q_runV (Wd := (am_W a cI)) (σ := u4) (q0 := 0) (ci := 11) (T := TX11) (N := 72) (As := [.int o1, .long o2]) (rest := []) hx hb hml hown hts hK hP (kt_X11_refusal hD hc8) cw_X11_353 rfl rfl ⟨Nat.le_of_ble_eq_true rfl, Nat.le_of_ble_eq_true rfl⟩ rfl rfl rfl hl.1 rfl (Nat.le_of_ble_eq_true rfl) dX11_lay_24) hS (fun H locs hP hS => ?_)
    refine lv_istore (lv' := [(5, .int r6), (4, .int v1), (0, .ref (a 0)), (1, .int o1), (2, .long o2)]) hx hb dX11_lay_27 hl (by decide) rfl (fun ls hl => ?_)
    refine lv_iload hx hb dX11_lay_29 (lv_at hl 0 rfl) ?_
    refine sx_if_eq (tgt := 37) hx hb hF dX11_lay_31 (by decide) (fun hF => ?_) (fun hF => ?_)
    · refine lv_iload hx hb dX11_lay_37 (lv_at hl 1 rfl) ?_
      refine sx_if_ne (tgt := 45) hx hb hF dX11_lay_39 (by decide) (fun hF => ?_) (fun hF => ?_)
      · refine lv_aload_n hx hb dX11_lay_45 rfl (lv_at hl 2 rfl) ?_
        obtain ⟨r9, u10, hc11, hF⟩ := q_bnd_some hF
        refine sx_ci (Wd := (am_W a cI)) (σ1 := u10) (q_runV (Wd := (am_W a cI)) (σ := u7) (q0 := 0) (ci := 11) (T := TX11) (N := 72) (As := []) (rest := []) hx hb hml hown hts hK hP (kt_X11_freeNode hD hc11) cw_X11_356 rfl rfl ⟨Nat.le_of_ble_eq_true rfl, Nat.le_of_ble_eq_true rfl⟩ rfl rfl rfl hl.1 rfl (Nat.le_of_ble_eq_true rfl) dX11_lay_46) hS (fun H locs hP hS => ?_)
        refine lv_istore (lv' := [(6, .int r9), (5, .int r6), (4, .int v1), (0, .ref (a 0)), (1, .int o1), (2, .long o2)]) hx hb dX11_lay_49 hl (by decide) rfl (fun ls hl => ?_)
        refine lv_aload_n hx hb dX11_lay_51 rfl (lv_at hl 3 rfl) ?_
        obtain ⟨r12, u13, hc14, hF⟩ := q_bnd_some hF
        refine sx_ci (Wd := (am_W a cI)) (σ1 := u13) (q_runV (Wd := (am_W a cI)) (σ := u10) (q0 := 0) (ci := 11) (T := TX11) (N := 72) (As := []) (rest := []) hx hb hml hown hts hK hP (kt_X11_emptyBand hD hc14) cw_X11_406 rfl rfl ⟨Nat.le_of_ble_eq_true rfl, Nat.le_of_ble_eq_true rfl⟩ rfl rfl rfl hl.1 rfl (Nat.le_of_ble_eq_true rfl) dX11_lay_52) hS (fun H locs hP hS => ?_)
        refine lv_istore (lv' := [(7, .int r12), (6, .int r9), (5, .int r6), (4, .int v1), (0, .ref (a 0)), (1, .int o1), (2, .long o2)]) hx hb dX11_lay_55 hl (by decide) rfl (fun ls hl => ?_)
        refine lv_iload hx hb dX11_lay_57 (lv_at hl 1 rfl) ?_
        refine lv_iconst (v := (-1)) hx hb dX11_lay_59 (by decide) ?_
        refine sx_icmp_eq (tgt := 78) hx hb hF dX11_lay_60 (by decide) (fun hF => ?_) (fun hF => ?_)
        · refine lv_bipush (v := (-16)) hx hb dX11_lay_78 (by decide) ?_
          exact sx_reti (Wd := (am_W a cI)) (σ := u13) hx hb hr hF hP hS hlocks dX11_lay_80
        · refine lv_iload hx hb dX11_lay_63 (lv_at hl 0 rfl) ?_
          refine sx_if_lt (tgt := 78) hx hb hF dX11_lay_65 (by decide) (fun hF => ?_) (fun hF => ?_)
          · refine lv_bipush (v := (-16)) hx hb dX11_lay_78 (by decide) ?_
            exact sx_reti (Wd := (am_W a cI)) (σ := u13) hx hb hr hF hP hS hlocks dX11_lay_80
          · refine lv_aload_n hx hb dX11_lay_68 rfl (lv_at hl 4 rfl) ?_
            refine lv_iload_n hx hb dX11_lay_69 rfl (lv_at hl 5 rfl) ?_
            refine lv_iload hx hb dX11_lay_70 (lv_at hl 0 rfl) ?_
            obtain ⟨r15, u16, hc17, hF⟩ := q_bnd_some hF
            refine sx_ci (Wd := (am_W a cI)) (σ1 := u16) (q_runV (Wd := (am_W a cI)) (σ := u13) (q0 := 0) (ci := 11) (T := TX11) (N := 72) (As := [.int o1, .int r12]) (rest := []) hx hb hml hown hts hK hP (kt_X11_hasRoom hD hc17) cw_X11_359 rfl rfl ⟨Nat.le_of_ble_eq_true rfl, Nat.le_of_ble_eq_true rfl⟩ rfl rfl rfl hl.1 rfl (Nat.le_of_ble_eq_true rfl) dX11_lay_72) hS (fun H locs hP hS => ?_)
            refine sx_if_ne (tgt := 81) hx hb hF dX11_lay_75 (by decide) (fun hF => ?_) (fun hF => ?_)
            · refine lv_aload_n hx hb dX11_lay_81 rfl (lv_at hl 4 rfl) ?_
              refine lv_iload hx hb dX11_lay_82 (lv_at hl 0 rfl) ?_
              obtain ⟨r18, u19, hc20, hF⟩ := q_bnd_some hF
              refine sx_ci (Wd := (am_W a cI)) (σ1 := u19) (q_runV (Wd := (am_W a cI)) (σ := u16) (q0 := 0) (ci := 11) (T := TX11) (N := 72) (As := [.int r12]) (rest := []) hx hb hml hown hts hK hP (kt_X11_stream hD hc20) cw_X11_409 rfl rfl ⟨Nat.le_of_ble_eq_true rfl, Nat.le_of_ble_eq_true rfl⟩ rfl rfl rfl hl.1 rfl (Nat.le_of_ble_eq_true rfl) dX11_lay_84) hS (fun H locs hP hS => ?_)
              refine sx_if_ne (tgt := 93) hx hb hF dX11_lay_87 (by decide) (fun hF => ?_) (fun hF => ?_)
              · refine lv_iconst (v := 0) hx hb dX11_lay_93 (by decide) ?_
                refine lv_istore (lv' := [(8, .int 0), (7, .int r12), (6, .int r9), (5, .int r6), (4, .int v1), (0, .ref (a 0)), (1, .int o1), (2, .long o2)]) hx hb dX11_lay_94 hl (by decide) rfl (fun ls hl => ?_)
                exact hB96 N o1 o2 v1 r9 r12 0 u19 ls (lv_sub hl [5, 6, 7, 4, 2, 1, 0] rfl) hF _ _ hP hS
              · refine lv_bipush (v := (-99)) hx hb dX11_lay_90 (by decide) ?_
                exact sx_reti (Wd := (am_W a cI)) (σ := u19) hx hb hr hF hP hS hlocks dX11_lay_92
            · refine lv_bipush (v := (-16)) hx hb dX11_lay_78 (by decide) ?_
              exact sx_reti (Wd := (am_W a cI)) (σ := u16) hx hb hr hF hP hS hlocks dX11_lay_80
      · refine lv_bipush (v := (-15)) hx hb dX11_lay_42 (by decide) ?_
        exact sx_reti (Wd := (am_W a cI)) (σ := u7) hx hb hr hF hP hS hlocks dX11_lay_44
    · refine lv_iload hx hb dX11_lay_34 (lv_at hl 0 rfl) ?_
      exact sx_reti (Wd := (am_W a cI)) (σ := u7) hx hb hr hF hP hS hlocks dX11_lay_36
  · refine lv_bipush (v := (-99)) hx hb dX11_lay_18 (by decide) ?_
    exact sx_reti (Wd := (am_W a cI)) (σ := u4) hx hb hr hF hP hS hlocks dX11_lay_20
set_option maxHeartbeats 4000000 in
set_option maxRecDepth 100000 in
theorem kt_X11_sectorOf {N : Nat} {l : Launch} {D : va_G} {a : Nat → Nat} {cI : Nat → ClassId} (hD : ∀ σ, va_D (am_A a) (am_W a cI σ)) {o1 : Int32} {o2 : Int32} {u σ0 : q_St} {r0 : Int32} (hF : fX11_sectorOf N o1 o2 u = some (r0, σ0)) : Met l yX11_sectorOf (Cond.code yX11_sectorOf cX11_sectorOf 3 (some .int) :: q_T) ({ frames := 0, cells := 0, slots := 0, locals := 0 } : Room) (q_P D vwCl (am_T cI) (am_W a cI) [.ref (a 0), .int o1, .int o2] u) (q_Qi D vwCl (am_W a cI) (am_A a) r0 σ0) 0 0 (am_A a) := by
  refine Met.ofW (cc := cX11_sectorOf) (maxL := 3) (ret := (some .int)) (by decide) rfl ?_
  intro p e s m args below meth c s₁ B hml hv
  obtain ⟨rfl, hP, hK⟩ := hv
  have hx := B.exec
  have hb := B.bytes
  have hr := B.returns
  have hts := q_ts (atoms_spec (ws := Cond.code yX11_sectorOf cX11_sectorOf 3 (some .int) :: q_T) B.pre)
  have hown : s.vm.findClass RX11 = some m.cls := findClass_of_methodNamed B.named
  have hlocks := B.notSynchronized
  have hS : va_S (am_A a) s.heap s.heap [] := va_S.rf
  have hl := lv_entry ([.ref (a 0), .int o1, .int o2]) (n := 3) (Nat.le_of_ble_eq_true rfl)
  rw [lg_entry_eq]
  generalize (lg_sl ([.ref (a 0), .int o1, .int o2]) ++ List.replicate (3 - (lg_sl ([.ref (a 0), .int o1, .int o2])).length) Slot.unset).toArray = ls at hl ⊢
  have hl : lv_has ls 3 [(0, .ref (a 0)), (1, .int o1), (2, .int o2)] := hl
  unfold fX11_sectorOf at hF
  refine lv_aload_n hx hb dX11_sectorOf_0 rfl (lv_at hl 0 rfl) ?_
  refine gm_m_kind hx hb hts hown hK hP fl_X11_40 dX11_sectorOf_1 ?_
  refine lv_iload_n hx hb dX11_sectorOf_4 rfl (lv_at hl 1 rfl) ?_
  refine lm_m_kind hx hb hK hP hF dX11_sectorOf_5 (fun v1 hF => ?_)
  refine lv_iconst (v := 3) hx hb dX11_sectorOf_6 (by decide) ?_
  refine sx_icmp_ne (tgt := 24) hx hb hF dX11_sectorOf_7 (by decide) (fun hF => ?_) (fun hF => ?_)
  · refine lv_aload_n hx hb dX11_sectorOf_24 rfl (lv_at hl 0 rfl) ?_
    refine gm_m_piece hx hb hts hown hK hP fl_X11_53 dX11_sectorOf_25 ?_
    refine lv_sipush (v := 1068) hx hb dX11_sectorOf_28 (by decide) ?_
    refine lv_iload_n hx hb dX11_sectorOf_31 rfl (lv_at hl 1 rfl) ?_
    refine lv_imul hx hb dX11_sectorOf_32 ?_
    refine lv_iload_n hx hb dX11_sectorOf_33 rfl (lv_at hl 2 rfl) ?_
    refine lv_iadd hx hb dX11_sectorOf_34 ?_
    refine lm_m_piece hx hb hK hP hF dX11_sectorOf_35 (fun v2 hF => ?_)
    exact sx_reti (Wd := (am_W a cI)) (σ := u) hx hb hr hF hP hS hlocks dX11_sectorOf_36
  · refine lv_aload_n hx hb dX11_sectorOf_10 rfl (lv_at hl 0 rfl) ?_
    refine gm_m_block hx hb hts hown hK hP fl_X11_65 dX11_sectorOf_11 ?_
    refine lv_bipush (v := 12) hx hb dX11_sectorOf_14 (by decide) ?_
    refine lv_iload_n hx hb dX11_sectorOf_16 rfl (lv_at hl 1 rfl) ?_
    refine lv_imul hx hb dX11_sectorOf_17 ?_
    refine lm_m_block hx hb hK hP hF dX11_sectorOf_18 (fun v3 hF => ?_)
    refine lv_iload_n hx hb dX11_sectorOf_19 rfl (lv_at hl 2 rfl) ?_
    refine lv_iadd hx hb dX11_sectorOf_20 ?_
    refine lv_goto (tgt := 36) hx hb dX11_sectorOf_21 (by decide) ?_
    exact sx_reti (Wd := (am_W a cI)) (σ := u) hx hb hr hF hP hS hlocks dX11_sectorOf_36
set_option maxHeartbeats 4000000 in
set_option maxRecDepth 100000 in
theorem kt_X11_indexOf {N : Nat} {l : Launch} {D : va_G} {a : Nat → Nat} {cI : Nat → ClassId} (hD : ∀ σ, va_D (am_A a) (am_W a cI σ)) {o0 : Int32} {u σ0 : q_St} {r0 : Int32} (hF : fX11_indexOf N o0 u = some (r0, σ0)) : Met l yX11_indexOf (Cond.code yX11_indexOf cX11_indexOf 1 (some .int) :: q_T) ({ frames := 0, cells := 0, slots := 0, locals := 0 } : Room) (q_P D vwCl (am_T cI) (am_W a cI) [.int o0] u) (q_Qi D vwCl (am_W a cI) (am_A a) r0 σ0) 0 0 (am_A a) := by
  refine Met.ofW (cc := cX11_indexOf) (maxL := 1) (ret := (some .int)) (by decide) rfl ?_
  intro p e s m args below meth c s₁ B hml hv
  obtain ⟨rfl, hP, hK⟩ := hv
  have hx := B.exec
  have hb := B.bytes
  have hr := B.returns
  have hts := q_ts (atoms_spec (ws := Cond.code yX11_indexOf cX11_indexOf 1 (some .int) :: q_T) B.pre)
  have hown : s.vm.findClass RX11 = some m.cls := findClass_of_methodNamed B.named
  have hlocks := B.notSynchronized
  have hS : va_S (am_A a) s.heap s.heap [] := va_S.rf
  have hl := lv_entry ([.int o0]) (n := 1) (Nat.le_of_ble_eq_true rfl)
  rw [lg_entry_eq]
  generalize (lg_sl ([.int o0]) ++ List.replicate (1 - (lg_sl ([.int o0])).length) Slot.unset).toArray = ls at hl ⊢
  have hl : lv_has ls 1 [(0, .int o0)] := hl
  unfold fX11_indexOf at hF
  refine lv_iload_n hx hb dX11_indexOf_0 rfl (lv_at hl 0 rfl) ?_
  refine lv_bipush (v := 12) hx hb dX11_indexOf_1 (by decide) ?_
  refine sx_icmp_ge (tgt := 10) hx hb hF dX11_indexOf_3 (by decide) (fun hF => ?_) (fun hF => ?_)
  · refine lv_iload_n hx hb dX11_indexOf_10 rfl (lv_at hl 0 rfl) ?_
    refine lv_bipush (v := 44) hx hb dX11_indexOf_11 (by decide) ?_
    refine sx_icmp_ge (tgt := 20) hx hb hF dX11_indexOf_13 (by decide) (fun hF => ?_) (fun hF => ?_)
    · refine lv_iconst (v := 2) hx hb dX11_indexOf_20 (by decide) ?_
      refine lv_iload_n hx hb dX11_indexOf_21 rfl (lv_at hl 0 rfl) ?_
      refine lv_bipush (v := 44) hx hb dX11_indexOf_22 (by decide) ?_
      refine lv_isub hx hb dX11_indexOf_24 ?_
      refine lv_bipush (v := 32) hx hb dX11_indexOf_25 (by decide) ?_
      refine lv_idiv hx hb dX11_indexOf_27 (by decide) ?_
      refine lv_iadd hx hb dX11_indexOf_28 ?_
      exact sx_reti (Wd := (am_W a cI)) (σ := u) hx hb hr hF hP hS hlocks dX11_indexOf_29
    · refine lv_iconst (v := 0) hx hb dX11_indexOf_16 (by decide) ?_
      refine lv_goto (tgt := 29) hx hb dX11_indexOf_17 (by decide) ?_
      exact sx_reti (Wd := (am_W a cI)) (σ := u) hx hb hr hF hP hS hlocks dX11_indexOf_29
  · refine lv_iconst (v := (-1)) hx hb dX11_indexOf_6 (by decide) ?_
    refine lv_goto (tgt := 29) hx hb dX11_indexOf_7 (by decide) ?_
    exact sx_reti (Wd := (am_W a cI)) (σ := u) hx hb hr hF hP hS hlocks dX11_indexOf_29
set_option maxHeartbeats 4000000 in
set_option maxRecDepth 100000 in
theorem kt_X11_needs {N : Nat} {l : Launch} {D : va_G} {a : Nat → Nat} {cI : Nat → ClassId} (hD : ∀ σ, va_D (am_A a) (am_W a cI σ)) {o1 : Int32} {o2 : Int32} {o3 : Int32} {u σ0 : q_St} {r0 : Int32} (hF : fX11_needs N o1 o2 o3 u = some (r0, σ0)) : Met l yX11_needs (Cond.code yX11_needs cX11_needs 9 (some .int) :: q_T) ({ frames := 1, cells := 0, slots := 0, locals := 20 } : Room) (q_P D vwCl (am_T cI) (am_W a cI) [.ref (a 0), .int o1, .int o2, .int o3] u) (q_Qi D vwCl (am_W a cI) (am_A a) r0 σ0) 0 0 (am_A a) := by
  refine Met.ofW (cc := cX11_needs) (maxL := 9) (ret := (some .int)) (by decide) rfl ?_
  intro p e s m args below meth c s₁ B hml hv
  obtain ⟨rfl, hP, hK⟩ := hv
  have hx := B.exec
  have hb := B.bytes
  have hr := B.returns
  have hts := q_ts (atoms_spec (ws := Cond.code yX11_needs cX11_needs 9 (some .int) :: q_T) B.pre)
  have hown : s.vm.findClass RX11 = some m.cls := findClass_of_methodNamed B.named
  have hlocks := B.notSynchronized
  have hS : va_S (am_A a) s.heap s.heap [] := va_S.rf
  have hl := lv_entry ([.ref (a 0), .int o1, .int o2, .int o3]) (n := 9) (Nat.le_of_ble_eq_true rfl)
  rw [lg_entry_eq]
  generalize (lg_sl ([.ref (a 0), .int o1, .int o2, .int o3]) ++ List.replicate (9 - (lg_sl ([.ref (a 0), .int o1, .int o2, .int o3])).length) Slot.unset).toArray = ls at hl ⊢
  have hl : lv_has ls 9 [(0, .ref (a 0)), (1, .int o1), (2, .int o2), (3, .int o3)] := hl
  have hB138 : ∀ (y0 : Int32) (y1 : Int32) (u : q_St) (ls : Array Slot), lv_has ls 9 [] → fX11_needs_b138 N y0 y1 u = some (r0, σ0) → ∀ (H : Heap) (locs : List Loc), va_P D vwCl (am_W a cI u) H → va_S (am_A a) s.heap H locs → W p l e (headSpec (Cond.code yX11_needs cX11_needs 9 (some .int) :: q_T) ({ frames := 1, cells := 0, slots := 0, locals := 20 } : Room)).room s m ([.ref (a 0), .int o1, .int o2, .int o3] : List Value).toArray below meth c H locs 0 0 (MQ below (q_Qi D vwCl (am_W a cI) (am_A a) r0 σ0) ([.ref (a 0), .int o1, .int o2, .int o3] : List Value).toArray s 0 0 (am_A a)) (F0 m 138 ls [.int y0, .int y1]) := by
    intro y0 y1 u ls hl hF _ _ hP hS
    unfold fX11_needs_b138 at hF
    refine lv_iadd hx hb dX11_needs_138 ?_
    exact sx_reti (Wd := (am_W a cI)) (σ := u) hx hb hr hF hP hS hlocks dX11_needs_139
  have hB120 : ∀ (ih12 : Int32 → Int32 → Int32 → Int32 → Int32 → Int32 → q_St → Option (Int32 × q_St)) (hi12 : ∀ (x1 : Int32) (x3 : Int32) (x4 : Int32) (x5 : Int32) (x6 : Int32) (x7 : Int32) (u : q_St) (ls : Array Slot), lv_has ls 9 [(0, .ref (a 0)), (1, .int x1), (3, .int x3), (4, .int x4), (5, .int x5), (6, .int x6), (7, .int x7)] → ih12 x1 x3 x4 x5 x6 x7 u = some (r0, σ0) → ∀ (H : Heap) (locs : List Loc), va_P D vwCl (am_W a cI u) H → va_S (am_A a) s.heap H locs → W p l e (headSpec (Cond.code yX11_needs cX11_needs 9 (some .int) :: q_T) ({ frames := 1, cells := 0, slots := 0, locals := 20 } : Room)).room s m ([.ref (a 0), .int o1, .int o2, .int o3] : List Value).toArray below meth c H locs 0 0 (MQ below (q_Qi D vwCl (am_W a cI) (am_A a) r0 σ0) ([.ref (a 0), .int o1, .int o2, .int o3] : List Value).toArray s 0 0 (am_A a)) (F0 m 12 ls [])), ∀ (x1 : Int32) (x3 : Int32) (x4 : Int32) (x5 : Int32) (x6 : Int32) (x7 : Int32) (u : q_St) (ls : Array Slot), lv_has ls 9 [(0, .ref (a 0)), (1, .int x1), (3, .int x3), (4, .int x4), (5, .int x5), (6, .int x6), (7, .int x7)] → fX11_needs_b120 N ih12 x1 x3 x4 x5 x6 x7 u = some (r0, σ0) → ∀ (H : Heap) (locs : List Loc), va_P D vwCl (am_W a cI u) H → va_S (am_A a) s.heap H locs → W p l e (headSpec (Cond.code yX11_needs cX11_needs 9 (some .int) :: q_T) ({ frames := 1, cells := 0, slots := 0, locals := 20 } : Room)).room s m ([.ref (a 0), .int o1, .int o2, .int o3] : List Value).toArray below meth c H locs 0 0 (MQ below (q_Qi D vwCl (am_W a cI) (am_A a) r0 σ0) ([.ref (a 0), .int o1, .int o2, .int o3] : List Value).toArray s 0 0 (am_A a)) (F0 m 120 ls []) := by
    intro ih12 hi12 x1 x3 x4 x5 x6 x7 u ls hl hF _ _ hP hS
    unfold fX11_needs_b120 at hF
    refine sx_iinc (d := 1) (k := 6) (lv2 := [(0, .ref (a 0)), (1, .int x1), (3, .int x3), (4, .int x4), (5, .int x5), (6, .int x6)]) hx hb hF dX11_needs_120 hl rfl (by decide) (by decide) rfl (fun v6 hF ls hl => ?_)
    refine lv_goto (tgt := 12) hx hb dX11_needs_123 (by decide) ?_
    exact hi12 x1 x3 x4 x5 x6 v6 u ls (lv_sub hl [1, 2, 3, 4, 5, 6, 0] rfl) hF _ _ hP hS
  have hB118 : ∀ (ih12 : Int32 → Int32 → Int32 → Int32 → Int32 → Int32 → q_St → Option (Int32 × q_St)) (hi12 : ∀ (x1 : Int32) (x3 : Int32) (x4 : Int32) (x5 : Int32) (x6 : Int32) (x7 : Int32) (u : q_St) (ls : Array Slot), lv_has ls 9 [(0, .ref (a 0)), (1, .int x1), (3, .int x3), (4, .int x4), (5, .int x5), (6, .int x6), (7, .int x7)] → ih12 x1 x3 x4 x5 x6 x7 u = some (r0, σ0) → ∀ (H : Heap) (locs : List Loc), va_P D vwCl (am_W a cI u) H → va_S (am_A a) s.heap H locs → W p l e (headSpec (Cond.code yX11_needs cX11_needs 9 (some .int) :: q_T) ({ frames := 1, cells := 0, slots := 0, locals := 20 } : Room)).room s m ([.ref (a 0), .int o1, .int o2, .int o3] : List Value).toArray below meth c H locs 0 0 (MQ below (q_Qi D vwCl (am_W a cI) (am_A a) r0 σ0) ([.ref (a 0), .int o1, .int o2, .int o3] : List Value).toArray s 0 0 (am_A a)) (F0 m 12 ls [])), ∀ (x1 : Int32) (x3 : Int32) (x4 : Int32) (x5 : Int32) (x7 : Int32) (y0 : Int32) (u : q_St) (ls : Array Slot), lv_has ls 9 [(0, .ref (a 0)), (1, .int x1), (3, .int x3), (4, .int x4), (5, .int x5), (7, .int x7)] → fX11_needs_b118 N ih12 x1 x3 x4 x5 x7 y0 u = some (r0, σ0) → ∀ (H : Heap) (locs : List Loc), va_P D vwCl (am_W a cI u) H → va_S (am_A a) s.heap H locs → W p l e (headSpec (Cond.code yX11_needs cX11_needs 9 (some .int) :: q_T) ({ frames := 1, cells := 0, slots := 0, locals := 20 } : Room)).room s m ([.ref (a 0), .int o1, .int o2, .int o3] : List Value).toArray below meth c H locs 0 0 (MQ below (q_Qi D vwCl (am_W a cI) (am_A a) r0 σ0) ([.ref (a 0), .int o1, .int o2, .int o3] : List Value).toArray s 0 0 (am_A a)) (F0 m 118 ls [.int y0]) := by
    intro ih12 hi12 x1 x3 x4 x5 x7 y0 u ls hl hF _ _ hP hS
    unfold fX11_needs_b118 at hF
    refine lv_istore (lv' := [(6, .int y0), (0, .ref (a 0)), (1, .int x1), (3, .int x3), (4, .int x4), (5, .int x5), (7, .int x7)]) hx hb dX11_needs_118 hl (by decide) rfl (fun ls hl => ?_)
    exact hB120 ih12 hi12 x1 x3 x4 x5 y0 x7 u ls (lv_sub hl [1, 2, 3, 4, 5, 0, 6] rfl) hF _ _ hP hS
  have hB113 : ∀ (ih12 : Int32 → Int32 → Int32 → Int32 → Int32 → Int32 → q_St → Option (Int32 × q_St)) (hi12 : ∀ (x1 : Int32) (x3 : Int32) (x4 : Int32) (x5 : Int32) (x6 : Int32) (x7 : Int32) (u : q_St) (ls : Array Slot), lv_has ls 9 [(0, .ref (a 0)), (1, .int x1), (3, .int x3), (4, .int x4), (5, .int x5), (6, .int x6), (7, .int x7)] → ih12 x1 x3 x4 x5 x6 x7 u = some (r0, σ0) → ∀ (H : Heap) (locs : List Loc), va_P D vwCl (am_W a cI u) H → va_S (am_A a) s.heap H locs → W p l e (headSpec (Cond.code yX11_needs cX11_needs 9 (some .int) :: q_T) ({ frames := 1, cells := 0, slots := 0, locals := 20 } : Room)).room s m ([.ref (a 0), .int o1, .int o2, .int o3] : List Value).toArray below meth c H locs 0 0 (MQ below (q_Qi D vwCl (am_W a cI) (am_A a) r0 σ0) ([.ref (a 0), .int o1, .int o2, .int o3] : List Value).toArray s 0 0 (am_A a)) (F0 m 12 ls [])), ∀ (x1 : Int32) (x3 : Int32) (x4 : Int32) (x5 : Int32) (x7 : Int32) (u : q_St) (ls : Array Slot), lv_has ls 9 [(0, .ref (a 0)), (1, .int x1), (3, .int x3), (4, .int x4), (5, .int x5), (7, .int x7)] → fX11_needs_b113 N ih12 x1 x3 x4 x5 x7 u = some (r0, σ0) → ∀ (H : Heap) (locs : List Loc), va_P D vwCl (am_W a cI u) H → va_S (am_A a) s.heap H locs → W p l e (headSpec (Cond.code yX11_needs cX11_needs 9 (some .int) :: q_T) ({ frames := 1, cells := 0, slots := 0, locals := 20 } : Room)).room s m ([.ref (a 0), .int o1, .int o2, .int o3] : List Value).toArray below meth c H locs 0 0 (MQ below (q_Qi D vwCl (am_W a cI) (am_A a) r0 σ0) ([.ref (a 0), .int o1, .int o2, .int o3] : List Value).toArray s 0 0 (am_A a)) (F0 m 113 ls []) := by
    intro ih12 hi12 x1 x3 x4 x5 x7 u ls hl hF _ _ hP hS
    unfold fX11_needs_b113 at hF
    refine lv_iconst (v := 1) hx hb dX11_needs_113 (by decide) ?_
    refine lv_goto (tgt := 118) hx hb dX11_needs_114 (by decide) ?_
    exact hB118 ih12 hi12 x1 x3 x4 x5 x7 1 u ls (lv_sub hl [0, 1, 2, 3, 4, 5] rfl) hF _ _ hP hS
  have hB117 : ∀ (ih12 : Int32 → Int32 → Int32 → Int32 → Int32 → Int32 → q_St → Option (Int32 × q_St)) (hi12 : ∀ (x1 : Int32) (x3 : Int32) (x4 : Int32) (x5 : Int32) (x6 : Int32) (x7 : Int32) (u : q_St) (ls : Array Slot), lv_has ls 9 [(0, .ref (a 0)), (1, .int x1), (3, .int x3), (4, .int x4), (5, .int x5), (6, .int x6), (7, .int x7)] → ih12 x1 x3 x4 x5 x6 x7 u = some (r0, σ0) → ∀ (H : Heap) (locs : List Loc), va_P D vwCl (am_W a cI u) H → va_S (am_A a) s.heap H locs → W p l e (headSpec (Cond.code yX11_needs cX11_needs 9 (some .int) :: q_T) ({ frames := 1, cells := 0, slots := 0, locals := 20 } : Room)).room s m ([.ref (a 0), .int o1, .int o2, .int o3] : List Value).toArray below meth c H locs 0 0 (MQ below (q_Qi D vwCl (am_W a cI) (am_A a) r0 σ0) ([.ref (a 0), .int o1, .int o2, .int o3] : List Value).toArray s 0 0 (am_A a)) (F0 m 12 ls [])), ∀ (x1 : Int32) (x3 : Int32) (x4 : Int32) (x5 : Int32) (x7 : Int32) (u : q_St) (ls : Array Slot), lv_has ls 9 [(0, .ref (a 0)), (1, .int x1), (3, .int x3), (4, .int x4), (5, .int x5), (7, .int x7)] → fX11_needs_b117 N ih12 x1 x3 x4 x5 x7 u = some (r0, σ0) → ∀ (H : Heap) (locs : List Loc), va_P D vwCl (am_W a cI u) H → va_S (am_A a) s.heap H locs → W p l e (headSpec (Cond.code yX11_needs cX11_needs 9 (some .int) :: q_T) ({ frames := 1, cells := 0, slots := 0, locals := 20 } : Room)).room s m ([.ref (a 0), .int o1, .int o2, .int o3] : List Value).toArray below meth c H locs 0 0 (MQ below (q_Qi D vwCl (am_W a cI) (am_A a) r0 σ0) ([.ref (a 0), .int o1, .int o2, .int o3] : List Value).toArray s 0 0 (am_A a)) (F0 m 117 ls []) := by
    intro ih12 hi12 x1 x3 x4 x5 x7 u ls hl hF _ _ hP hS
    unfold fX11_needs_b117 at hF
    refine lv_iconst (v := 0) hx hb dX11_needs_117 (by decide) ?_
    exact hB118 ih12 hi12 x1 x3 x4 x5 x7 0 u ls (lv_sub hl [0, 1, 2, 3, 4, 5] rfl) hF _ _ hP hS
  have hB12 : ∀ (n : Nat) (x1 : Int32) (x3 : Int32) (x4 : Int32) (x5 : Int32) (x6 : Int32) (x7 : Int32) (u : q_St) (ls : Array Slot), lv_has ls 9 [(0, .ref (a 0)), (1, .int x1), (3, .int x3), (4, .int x4), (5, .int x5), (6, .int x6), (7, .int x7)] → q_lp (fX11_needs_b12 N) (fun _ _ _ _ _ _ _ => none) n x1 x3 x4 x5 x6 x7 u = some (r0, σ0) → ∀ (H : Heap) (locs : List Loc), va_P D vwCl (am_W a cI u) H → va_S (am_A a) s.heap H locs → W p l e (headSpec (Cond.code yX11_needs cX11_needs 9 (some .int) :: q_T) ({ frames := 1, cells := 0, slots := 0, locals := 20 } : Room)).room s m ([.ref (a 0), .int o1, .int o2, .int o3] : List Value).toArray below meth c H locs 0 0 (MQ below (q_Qi D vwCl (am_W a cI) (am_A a) r0 σ0) ([.ref (a 0), .int o1, .int o2, .int o3] : List Value).toArray s 0 0 (am_A a)) (F0 m 12 ls []) := by
    intro n
    induction n with
    | zero => intro x1 x3 x4 x5 x6 x7 u ls hl hF; exact absurd (show (none : Option (Int32 × q_St)) = some _ from hF) (fun h => nomatch h)
    | succ n hi12 =>
      intro x1 x3 x4 x5 x6 x7 u ls hl hF _ _ hP hS
      obtain ⟨ih12, hih⟩ : ∃ q, q = q_lp (fX11_needs_b12 N) (fun _ _ _ _ _ _ _ => none) n := ⟨_, rfl⟩
      rw [← hih] at hi12
      have hF : fX11_needs_b12 N (q_lp (fX11_needs_b12 N) (fun _ _ _ _ _ _ _ => none) n) x1 x3 x4 x5 x6 x7 u = some (r0, σ0) := hF
      rw [← hih] at hF
      clear hih
      unfold fX11_needs_b12 at hF
      refine lv_iload hx hb dX11_needs_12 (lv_at hl 6 rfl) ?_
      refine lv_iload_n hx hb dX11_needs_14 rfl (lv_at hl 2 rfl) ?_
      refine sx_icmp_gt (tgt := 126) hx hb hF dX11_needs_15 (by decide) (fun hF => ?_) (fun hF => ?_)
      · refine lv_iload hx hb dX11_needs_126 (lv_at hl 3 rfl) ?_
        refine lv_iload hx hb dX11_needs_128 (lv_at hl 5 rfl) ?_
        refine sx_if_eq (tgt := 137) hx hb hF dX11_needs_130 (by decide) (fun hF => ?_) (fun hF => ?_)
        · refine lv_iconst (v := 0) hx hb dX11_needs_137 (by decide) ?_
          exact hB138 0 x4 u ls (lv_sub hl [] rfl) hF _ _ hP hS
        · refine lv_iconst (v := 1) hx hb dX11_needs_133 (by decide) ?_
          refine lv_goto (tgt := 138) hx hb dX11_needs_134 (by decide) ?_
          exact hB138 1 x4 u ls (lv_sub hl [] rfl) hF _ _ hP hS
      · refine lv_aload_n hx hb dX11_needs_18 rfl (lv_at hl 0 rfl) ?_
        refine gm_m_piece hx hb hts hown hK hP fl_X11_53 dX11_needs_19 ?_
        refine lv_sipush (v := 1068) hx hb dX11_needs_22 (by decide) ?_
        refine lv_iload_n hx hb dX11_needs_25 rfl (lv_at hl 1 rfl) ?_
        refine lv_imul hx hb dX11_needs_26 ?_
        refine lv_iload hx hb dX11_needs_27 (lv_at hl 6 rfl) ?_
        refine lv_iadd hx hb dX11_needs_29 ?_
        refine lm_m_piece hx hb hK hP hF dX11_needs_30 (fun v1 hF => ?_)
        refine lv_iconst (v := (-1)) hx hb dX11_needs_31 (by decide) ?_
        refine sx_icmp_eq (tgt := 38) hx hb hF dX11_needs_32 (by decide) (fun hF => ?_) (fun hF => ?_)
        · refine sx_iinc (d := 1) (k := 3) (lv2 := [(0, .ref (a 0)), (1, .int x1), (3, .int x3), (5, .int x5), (6, .int x6), (7, .int x7)]) hx hb hF dX11_needs_38 hl rfl (by decide) (by decide) rfl (fun v2 hF ls hl => ?_)
          refine lv_iload hx hb dX11_needs_41 (lv_at hl 6 rfl) ?_
          obtain ⟨r3, u4, hc5, hF⟩ := q_bnd_some hF
          refine sx_ci (Wd := (am_W a cI)) (σ1 := u4) (q_runS (Wd := (am_W a cI)) (σ := u) (As := [.int x7]) (rest := []) hx hb hml hown hts hK hP (kt_X11_indexOf hD hc5) cw_X11_412 rfl rfl ⟨Nat.le_of_ble_eq_true rfl, Nat.le_of_ble_eq_true rfl⟩ rfl hl.1 rfl (Nat.le_of_ble_eq_true rfl) dX11_needs_43) hS (fun H locs hP hS => ?_)
          refine lv_istore (lv' := [(8, .int r3), (4, .int v2), (0, .ref (a 0)), (1, .int x1), (3, .int x3), (5, .int x5), (6, .int x6), (7, .int x7)]) hx hb dX11_needs_46 hl (by decide) rfl (fun ls hl => ?_)
          refine lv_iload hx hb dX11_needs_48 (lv_at hl 0 rfl) ?_
          refine lv_iconst (v := (-1)) hx hb dX11_needs_50 (by decide) ?_
          refine sx_icmp_eq (tgt := 120) hx hb hF dX11_needs_51 (by decide) (fun hF => ?_) (fun hF => ?_)
          · exact hB120 ih12 hi12 x1 x3 v2 x5 x6 x7 u4 ls (lv_sub hl [2, 3, 4, 1, 5, 6, 7] rfl) hF _ _ hP hS
          · refine lv_iload hx hb dX11_needs_54 (lv_at hl 0 rfl) ?_
            refine lv_iload hx hb dX11_needs_56 (lv_at hl 5 rfl) ?_
            refine sx_icmp_eq (tgt := 120) hx hb hF dX11_needs_58 (by decide) (fun hF => ?_) (fun hF => ?_)
            · exact hB120 ih12 hi12 x1 x3 v2 x5 x6 x7 u4 ls (lv_sub hl [2, 3, 4, 1, 5, 6, 7] rfl) hF _ _ hP hS
            · refine lv_aload_n hx hb dX11_needs_61 rfl (lv_at hl 2 rfl) ?_
              refine gm_m_index hx hb hts hown hK hP fl_X11_56 dX11_needs_62 ?_
              refine lv_bipush (v := 34) hx hb dX11_needs_65 (by decide) ?_
              refine lv_iload_n hx hb dX11_needs_67 rfl (lv_at hl 3 rfl) ?_
              refine lv_imul hx hb dX11_needs_68 ?_
              refine lv_iload hx hb dX11_needs_69 (lv_at hl 0 rfl) ?_
              refine lv_iadd hx hb dX11_needs_71 ?_
              refine lm_m_index hx hb hK hP hF dX11_needs_72 (fun v7 hF => ?_)
              refine lv_iconst (v := (-1)) hx hb dX11_needs_73 (by decide) ?_
              refine sx_icmp_eq (tgt := 80) hx hb hF dX11_needs_74 (by decide) (fun hF => ?_) (fun hF => ?_)
              · refine lv_iload hx hb dX11_needs_80 (lv_at hl 0 rfl) ?_
                refine lv_istore (lv' := [(5, .int r3), (8, .int r3), (4, .int v2), (0, .ref (a 0)), (1, .int x1), (3, .int x3), (6, .int x6), (7, .int x7)]) hx hb dX11_needs_82 hl (by decide) rfl (fun ls hl => ?_)
                refine sx_iinc (d := 1) (k := 2) (lv2 := [(5, .int r3), (8, .int r3), (0, .ref (a 0)), (1, .int x1), (3, .int x3), (6, .int x6), (7, .int x7)]) hx hb hF dX11_needs_84 hl rfl (by decide) (by decide) rfl (fun v8 hF ls hl => ?_)
                refine lv_iload hx hb dX11_needs_87 (lv_at hl 6 rfl) ?_
                refine sx_if_ne (tgt := 113) hx hb hF dX11_needs_89 (by decide) (fun hF => ?_) (fun hF => ?_)
                · exact hB113 ih12 hi12 x1 x3 v8 r3 x7 u4 ls (lv_sub hl [3, 4, 5, 0, 1, 7] rfl) hF _ _ hP hS
                · refine lv_iload hx hb dX11_needs_92 (lv_at hl 2 rfl) ?_
                  refine lv_iconst (v := 1) hx hb dX11_needs_94 (by decide) ?_
                  refine sx_icmp_le (tgt := 117) hx hb hF dX11_needs_95 (by decide) (fun hF => ?_) (fun hF => ?_)
                  · exact hB117 ih12 hi12 x1 x3 v8 r3 x7 u4 ls (lv_sub hl [3, 4, 5, 0, 1, 7] rfl) hF _ _ hP hS
                  · refine lv_aload_n hx hb dX11_needs_98 rfl (lv_at hl 3 rfl) ?_
                    refine gm_m_index hx hb hts hown hK hP fl_X11_56 dX11_needs_99 ?_
                    refine lv_bipush (v := 34) hx hb dX11_needs_102 (by decide) ?_
                    refine lv_iload_n hx hb dX11_needs_104 rfl (lv_at hl 4 rfl) ?_
                    refine lv_imul hx hb dX11_needs_105 ?_
                    refine lv_iconst (v := 1) hx hb dX11_needs_106 (by decide) ?_
                    refine lv_iadd hx hb dX11_needs_107 ?_
                    refine lm_m_index hx hb hK hP hF dX11_needs_108 (fun v9 hF => ?_)
                    refine lv_iconst (v := (-1)) hx hb dX11_needs_109 (by decide) ?_
                    refine sx_icmp_ne (tgt := 117) hx hb hF dX11_needs_110 (by decide) (fun hF => ?_) (fun hF => ?_)
                    · exact hB117 ih12 hi12 x1 x3 v8 r3 x7 u4 ls (lv_sub hl [3, 4, 5, 0, 1, 7] rfl) hF _ _ hP hS
                    · exact hB113 ih12 hi12 x1 x3 v8 r3 x7 u4 ls (lv_sub hl [3, 4, 5, 0, 1, 7] rfl) hF _ _ hP hS
              · refine lv_goto (tgt := 120) hx hb dX11_needs_77 (by decide) ?_
                exact hB120 ih12 hi12 x1 x3 v2 x5 x6 x7 u4 ls (lv_sub hl [2, 3, 4, 1, 5, 6, 7] rfl) hF _ _ hP hS
        · refine lv_goto (tgt := 120) hx hb dX11_needs_35 (by decide) ?_
          exact hB120 ih12 hi12 x1 x3 x4 x5 x6 x7 u ls (lv_sub hl [0, 1, 2, 3, 4, 5, 6] rfl) hF _ _ hP hS
  unfold fX11_needs at hF
  refine lv_iconst (v := 0) hx hb dX11_needs_0 (by decide) ?_
  refine lv_istore (lv' := [(4, .int 0), (0, .ref (a 0)), (1, .int o1), (2, .int o2), (3, .int o3)]) hx hb dX11_needs_1 hl (by decide) rfl (fun ls hl => ?_)
  refine lv_iconst (v := (-1)) hx hb dX11_needs_3 (by decide) ?_
  refine lv_istore (lv' := [(5, .int (-1)), (4, .int 0), (0, .ref (a 0)), (1, .int o1), (2, .int o2), (3, .int o3)]) hx hb dX11_needs_4 hl (by decide) rfl (fun ls hl => ?_)
  refine lv_iconst (v := 0) hx hb dX11_needs_6 (by decide) ?_
  refine lv_istore (lv' := [(6, .int 0), (5, .int (-1)), (4, .int 0), (0, .ref (a 0)), (1, .int o1), (2, .int o2), (3, .int o3)]) hx hb dX11_needs_7 hl (by decide) rfl (fun ls hl => ?_)
  refine lv_iload_n hx hb dX11_needs_9 rfl (lv_at hl 5 rfl) ?_
  refine lv_istore (lv' := [(7, .int o2), (6, .int 0), (5, .int (-1)), (4, .int 0), (0, .ref (a 0)), (1, .int o1), (2, .int o2), (3, .int o3)]) hx hb dX11_needs_10 hl (by decide) rfl (fun ls hl => ?_)
  exact hB12 N o1 o3 0 (-1) 0 o2 u ls (lv_sub hl [4, 5, 7, 3, 2, 1, 0] rfl) hF _ _ hP hS
set_option maxHeartbeats 4000000 in
set_option maxRecDepth 100000 in
theorem kt_X11_freeBlocks {N : Nat} {l : Launch} {D : va_G} {a : Nat → Nat} {cI : Nat → ClassId} (hD : ∀ σ, va_D (am_A a) (am_W a cI σ))  {u σ0 : q_St} {r0 : Int32} (hF : fX11_freeBlocks N u = some (r0, σ0)) : Met l yX11_freeBlocks (Cond.code yX11_freeBlocks cX11_freeBlocks 3 (some .int) :: q_T) ({ frames := 0, cells := 0, slots := 0, locals := 0 } : Room) (q_P D vwCl (am_T cI) (am_W a cI) [.ref (a 0)] u) (q_Qi D vwCl (am_W a cI) (am_A a) r0 σ0) 0 0 (am_A a) := by
  refine Met.ofW (cc := cX11_freeBlocks) (maxL := 3) (ret := (some .int)) (by decide) rfl ?_
  intro p e s m args below meth c s₁ B hml hv
  obtain ⟨rfl, hP, hK⟩ := hv
  have hx := B.exec
  have hb := B.bytes
  have hr := B.returns
  have hts := q_ts (atoms_spec (ws := Cond.code yX11_freeBlocks cX11_freeBlocks 3 (some .int) :: q_T) B.pre)
  have hown : s.vm.findClass RX11 = some m.cls := findClass_of_methodNamed B.named
  have hlocks := B.notSynchronized
  have hS : va_S (am_A a) s.heap s.heap [] := va_S.rf
  have hl := lv_entry ([.ref (a 0)]) (n := 3) (Nat.le_of_ble_eq_true rfl)
  rw [lg_entry_eq]
  generalize (lg_sl ([.ref (a 0)]) ++ List.replicate (3 - (lg_sl ([.ref (a 0)])).length) Slot.unset).toArray = ls at hl ⊢
  have hl : lv_has ls 3 [(0, .ref (a 0))] := hl
  have hB30 : ∀ (ih7 : Int32 → Int32 → q_St → Option (Int32 × q_St)) (hi7 : ∀ (x1 : Int32) (x2 : Int32) (u : q_St) (ls : Array Slot), lv_has ls 3 [(0, .ref (a 0)), (1, .int x1), (2, .int x2)] → ih7 x1 x2 u = some (r0, σ0) → ∀ (H : Heap) (locs : List Loc), va_P D vwCl (am_W a cI u) H → va_S (am_A a) s.heap H locs → W p l e (headSpec (Cond.code yX11_freeBlocks cX11_freeBlocks 3 (some .int) :: q_T) ({ frames := 0, cells := 0, slots := 0, locals := 0 } : Room)).room s m ([.ref (a 0)] : List Value).toArray below meth c H locs 0 0 (MQ below (q_Qi D vwCl (am_W a cI) (am_A a) r0 σ0) ([.ref (a 0)] : List Value).toArray s 0 0 (am_A a)) (F0 m 7 ls [])), ∀ (x2 : Int32) (y0 : Int32) (y1 : Int32) (u : q_St) (ls : Array Slot), lv_has ls 3 [(0, .ref (a 0)), (2, .int x2)] → fX11_freeBlocks_b30 N ih7 x2 y0 y1 u = some (r0, σ0) → ∀ (H : Heap) (locs : List Loc), va_P D vwCl (am_W a cI u) H → va_S (am_A a) s.heap H locs → W p l e (headSpec (Cond.code yX11_freeBlocks cX11_freeBlocks 3 (some .int) :: q_T) ({ frames := 0, cells := 0, slots := 0, locals := 0 } : Room)).room s m ([.ref (a 0)] : List Value).toArray below meth c H locs 0 0 (MQ below (q_Qi D vwCl (am_W a cI) (am_A a) r0 σ0) ([.ref (a 0)] : List Value).toArray s 0 0 (am_A a)) (F0 m 30 ls [.int y0, .int y1]) := by
    intro ih7 hi7 x2 y0 y1 u ls hl hF _ _ hP hS
    unfold fX11_freeBlocks_b30 at hF
    refine lv_iadd hx hb dX11_freeBlocks_30 ?_
    refine sx_istore_n (lv2 := [(0, .ref (a 0)), (2, .int x2)]) hx hb hF dX11_freeBlocks_31 rfl hl (by decide) rfl (fun v3 hF ls hl => ?_)
    refine sx_iinc (d := 1) (k := 2) (lv2 := [(1, .int v3), (0, .ref (a 0))]) hx hb hF dX11_freeBlocks_32 hl rfl (by decide) (by decide) rfl (fun v4 hF ls hl => ?_)
    refine lv_goto (tgt := 7) hx hb dX11_freeBlocks_35 (by decide) ?_
    exact hi7 v3 v4 u ls (lv_sub hl [2, 1, 0] rfl) hF _ _ hP hS
  have hB7 : ∀ (n : Nat) (x1 : Int32) (x2 : Int32) (u : q_St) (ls : Array Slot), lv_has ls 3 [(0, .ref (a 0)), (1, .int x1), (2, .int x2)] → q_lp (fX11_freeBlocks_b7 N) (fun _ _ _ => none) n x1 x2 u = some (r0, σ0) → ∀ (H : Heap) (locs : List Loc), va_P D vwCl (am_W a cI u) H → va_S (am_A a) s.heap H locs → W p l e (headSpec (Cond.code yX11_freeBlocks cX11_freeBlocks 3 (some .int) :: q_T) ({ frames := 0, cells := 0, slots := 0, locals := 0 } : Room)).room s m ([.ref (a 0)] : List Value).toArray below meth c H locs 0 0 (MQ below (q_Qi D vwCl (am_W a cI) (am_A a) r0 σ0) ([.ref (a 0)] : List Value).toArray s 0 0 (am_A a)) (F0 m 7 ls []) := by
    intro n
    induction n with
    | zero => intro x1 x2 u ls hl hF; exact absurd (show (none : Option (Int32 × q_St)) = some _ from hF) (fun h => nomatch h)
    | succ n hi7 =>
      intro x1 x2 u ls hl hF _ _ hP hS
      obtain ⟨ih7, hih⟩ : ∃ q, q = q_lp (fX11_freeBlocks_b7 N) (fun _ _ _ => none) n := ⟨_, rfl⟩
      rw [← hih] at hi7
      have hF : fX11_freeBlocks_b7 N (q_lp (fX11_freeBlocks_b7 N) (fun _ _ _ => none) n) x1 x2 u = some (r0, σ0) := hF
      rw [← hih] at hF
      clear hih
      unfold fX11_freeBlocks_b7 at hF
      refine lv_iload_n hx hb dX11_freeBlocks_7 rfl (lv_at hl 2 rfl) ?_
      refine lv_aload_n hx hb dX11_freeBlocks_8 rfl (lv_at hl 0 rfl) ?_
      refine gm_m_all hx hb hts hown hK hP fl_X11_168 dX11_freeBlocks_9 ?_
      refine sx_icmp_ge (tgt := 38) hx hb hF dX11_freeBlocks_12 (by decide) (fun hF => ?_) (fun hF => ?_)
      · refine lv_iload_n hx hb dX11_freeBlocks_38 rfl (lv_at hl 1 rfl) ?_
        exact sx_reti (Wd := (am_W a cI)) (σ := u) hx hb hr hF hP hS hlocks dX11_freeBlocks_39
      · refine lv_iload_n hx hb dX11_freeBlocks_15 rfl (lv_at hl 1 rfl) ?_
        refine lv_aload_n hx hb dX11_freeBlocks_16 rfl (lv_at hl 0 rfl) ?_
        refine gm_m_isUsed hx hb hts hown hK hP fl_X11_82 dX11_freeBlocks_17 ?_
        refine lv_iload_n hx hb dX11_freeBlocks_20 rfl (lv_at hl 2 rfl) ?_
        refine lm_m_isUsed hx hb hK hP hF dX11_freeBlocks_21 (fun v2 hF => ?_)
        refine sx_if_eq (tgt := 29) hx hb hF dX11_freeBlocks_22 (by decide) (fun hF => ?_) (fun hF => ?_)
        · refine lv_iconst (v := 1) hx hb dX11_freeBlocks_29 (by decide) ?_
          exact hB30 ih7 hi7 x2 1 x1 u ls (lv_sub hl [0, 2] rfl) hF _ _ hP hS
        · refine lv_iconst (v := 0) hx hb dX11_freeBlocks_25 (by decide) ?_
          refine lv_goto (tgt := 30) hx hb dX11_freeBlocks_26 (by decide) ?_
          exact hB30 ih7 hi7 x2 0 x1 u ls (lv_sub hl [0, 2] rfl) hF _ _ hP hS
  unfold fX11_freeBlocks at hF
  refine lv_iconst (v := 0) hx hb dX11_freeBlocks_0 (by decide) ?_
  refine lv_istore_n (lv' := [(1, .int 0), (0, .ref (a 0))]) hx hb dX11_freeBlocks_1 rfl hl (by decide) rfl (fun ls hl => ?_)
  refine lv_aload_n hx hb dX11_freeBlocks_2 rfl (lv_at hl 1 rfl) ?_
  refine gm_m_firstBlock hx hb hts hown hK hP fl_X11_177 dX11_freeBlocks_3 ?_
  refine sx_istore_n (lv2 := [(1, .int 0), (0, .ref (a 0))]) hx hb hF dX11_freeBlocks_6 rfl hl (by decide) rfl (fun v1 hF ls hl => ?_)
  exact hB7 N 0 v1 u ls (lv_sub hl [2, 1, 0] rfl) hF _ _ hP hS
set_option maxHeartbeats 4000000 in
set_option maxRecDepth 100000 in
theorem kt_X11_soilTeller {N : Nat} {l : Launch} {D : va_G} {a : Nat → Nat} {cI : Nat → ClassId} (hD : ∀ σ, va_D (am_A a) (am_W a cI σ)) {o1 : Int32} {o2 : Int32} {u σ0 : q_St} {r0 : Unit} (hF : fX11_soilTeller N o1 o2 u = some (r0, σ0)) : Met l yX11_soilTeller (Cond.code yX11_soilTeller cX11_soilTeller 3 none :: q_T) ({ frames := 2, cells := 0, slots := 0, locals := 42 } : Room) (q_P D vwCl (am_T cI) (am_W a cI) [.ref (a 0), .int o1, .int o2] u) (q_Qv D vwCl (am_W a cI) (am_A a) σ0) 0 0 (am_A a) := by
  refine Met.ofW (cc := cX11_soilTeller) (maxL := 3) (ret := none) (by decide) rfl ?_
  intro p e s m args below meth c s₁ B hml hv
  obtain ⟨rfl, hP, hK⟩ := hv
  have hx := B.exec
  have hb := B.bytes
  have hr := B.returns
  have hts := q_ts (atoms_spec (ws := Cond.code yX11_soilTeller cX11_soilTeller 3 none :: q_T) B.pre)
  have hown : s.vm.findClass RX11 = some m.cls := findClass_of_methodNamed B.named
  have hlocks := B.notSynchronized
  have hS : va_S (am_A a) s.heap s.heap [] := va_S.rf
  have hl := lv_entry ([.ref (a 0), .int o1, .int o2]) (n := 3) (Nat.le_of_ble_eq_true rfl)
  rw [lg_entry_eq]
  generalize (lg_sl ([.ref (a 0), .int o1, .int o2]) ++ List.replicate (3 - (lg_sl ([.ref (a 0), .int o1, .int o2])).length) Slot.unset).toArray = ls at hl ⊢
  have hl : lv_has ls 3 [(0, .ref (a 0)), (1, .int o1), (2, .int o2)] := hl
  unfold fX11_soilTeller at hF
  refine lv_iload_n hx hb dX11_soilTeller_0 rfl (lv_at hl 2 rfl) ?_
  refine lv_iconst (v := 1) hx hb dX11_soilTeller_1 (by decide) ?_
  refine sx_icmp_le (tgt := 23) hx hb hF dX11_soilTeller_2 (by decide) (fun hF => ?_) (fun hF => ?_)
  · refine lv_aload_n hx hb dX11_soilTeller_23 rfl (lv_at hl 0 rfl) ?_
    refine lv_iload_n hx hb dX11_soilTeller_24 rfl (lv_at hl 1 rfl) ?_
    obtain ⟨r1, u2, hc3, hF⟩ := q_bnd_some hF
    refine sx_cv (Wd := (am_W a cI)) (σ1 := u2) (q_runV (Wd := (am_W a cI)) (σ := u) (q0 := 0) (ci := 11) (T := TX11) (N := 72) (As := [.int o1]) (rest := []) hx hb hml hown hts hK hP (kt_X11_soilNode hD hc3) cw_X11_324 rfl rfl ⟨Nat.le_of_ble_eq_true rfl, Nat.le_of_ble_eq_true rfl⟩ rfl rfl rfl hl.1 rfl (Nat.le_of_ble_eq_true rfl) dX11_soilTeller_25) hS (fun H locs hP hS => ?_)
    exact sx_retv (Wd := (am_W a cI)) (σ := u2) hx hb hr hF hP hS hlocks dX11_soilTeller_28
  · refine lv_aload_n hx hb dX11_soilTeller_5 rfl (lv_at hl 0 rfl) ?_
    refine lv_aload_n hx hb dX11_soilTeller_6 rfl (lv_at hl 0 rfl) ?_
    refine gm_m_index hx hb hts hown hK hP fl_X11_56 dX11_soilTeller_7 ?_
    refine lv_bipush (v := 34) hx hb dX11_soilTeller_10 (by decide) ?_
    refine lv_iload_n hx hb dX11_soilTeller_12 rfl (lv_at hl 1 rfl) ?_
    refine lv_imul hx hb dX11_soilTeller_13 ?_
    refine lv_iconst (v := 1) hx hb dX11_soilTeller_14 (by decide) ?_
    refine lv_iadd hx hb dX11_soilTeller_15 ?_
    refine lm_m_index hx hb hK hP hF dX11_soilTeller_16 (fun v4 hF => ?_)
    obtain ⟨r5, u6, hc7, hF⟩ := q_bnd_some hF
    refine sx_cv (Wd := (am_W a cI)) (σ1 := u6) (q_runV (Wd := (am_W a cI)) (σ := u) (q0 := 0) (ci := 11) (T := TX11) (N := 72) (As := [.int v4]) (rest := []) hx hb hml hown hts hK hP (kt_X11_soil hD hc7) cw_X11_294 rfl rfl ⟨Nat.le_of_ble_eq_true rfl, Nat.le_of_ble_eq_true rfl⟩ rfl rfl rfl hl.1 rfl (Nat.le_of_ble_eq_true rfl) dX11_soilTeller_17) hS (fun H locs hP hS => ?_)
    refine lv_goto (tgt := 28) hx hb dX11_soilTeller_20 (by decide) ?_
    exact sx_retv (Wd := (am_W a cI)) (σ := u6) hx hb hr hF hP hS hlocks dX11_soilTeller_28
set_option maxHeartbeats 4000000 in
set_option maxRecDepth 100000 in
theorem kt_X11_fillPiece {N : Nat} {l : Launch} {D : va_G} {a : Nat → Nat} {cI : Nat → ClassId} (hD : ∀ σ, va_D (am_A a) (am_W a cI σ)) {o1 : Int32} {o2 : Int32} {u σ0 : q_St} {r0 : Unit} (hF : fX11_fillPiece N o1 o2 u = some (r0, σ0)) : Met l yX11_fillPiece (Cond.code yX11_fillPiece cX11_fillPiece 4 none :: q_T) ({ frames := 3, cells := 0, slots := 0, locals := 65 } : Room) (q_P D vwCl (am_T cI) (am_W a cI) [.ref (a 0), .int o1, .int o2] u) (q_Qv D vwCl (am_W a cI) (am_A a) σ0) 0 0 (am_A a) := by
  refine Met.ofW (cc := cX11_fillPiece) (maxL := 4) (ret := none) (by decide) rfl ?_
  intro p e s m args below meth c s₁ B hml hv
  obtain ⟨rfl, hP, hK⟩ := hv
  have hx := B.exec
  have hb := B.bytes
  have hr := B.returns
  have hts := q_ts (atoms_spec (ws := Cond.code yX11_fillPiece cX11_fillPiece 4 none :: q_T) B.pre)
  have hown : s.vm.findClass RX11 = some m.cls := findClass_of_methodNamed B.named
  have hlocks := B.notSynchronized
  have hS : va_S (am_A a) s.heap s.heap [] := va_S.rf
  have hl := lv_entry ([.ref (a 0), .int o1, .int o2]) (n := 4) (Nat.le_of_ble_eq_true rfl)
  rw [lg_entry_eq]
  generalize (lg_sl ([.ref (a 0), .int o1, .int o2]) ++ List.replicate (4 - (lg_sl ([.ref (a 0), .int o1, .int o2])).length) Slot.unset).toArray = ls at hl ⊢
  have hl : lv_has ls 4 [(0, .ref (a 0)), (1, .int o1), (2, .int o2)] := hl
  have hB88 : ∀ (x1 : Int32) (x2 : Int32) (x3 : Int32) (u : q_St) (ls : Array Slot), lv_has ls 4 [(0, .ref (a 0)), (1, .int x1), (2, .int x2), (3, .int x3)] → fX11_fillPiece_b88 N x1 x2 x3 u = some (r0, σ0) → ∀ (H : Heap) (locs : List Loc), va_P D vwCl (am_W a cI u) H → va_S (am_A a) s.heap H locs → W p l e (headSpec (Cond.code yX11_fillPiece cX11_fillPiece 4 none :: q_T) ({ frames := 3, cells := 0, slots := 0, locals := 65 } : Room)).room s m ([.ref (a 0), .int o1, .int o2] : List Value).toArray below meth c H locs 0 0 (MQ below (q_Qv D vwCl (am_W a cI) (am_A a) σ0) ([.ref (a 0), .int o1, .int o2] : List Value).toArray s 0 0 (am_A a)) (F0 m 88 ls []) := by
    intro x1 x2 x3 u ls hl hF _ _ hP hS
    unfold fX11_fillPiece_b88 at hF
    refine lv_aload_n hx hb dX11_fillPiece_88 rfl (lv_at hl 0 rfl) ?_
    refine gm_m_piece hx hb hts hown hK hP fl_X11_53 dX11_fillPiece_89 ?_
    refine lv_sipush (v := 1068) hx hb dX11_fillPiece_92 (by decide) ?_
    refine lv_iload_n hx hb dX11_fillPiece_95 rfl (lv_at hl 1 rfl) ?_
    refine lv_imul hx hb dX11_fillPiece_96 ?_
    refine lv_iload_n hx hb dX11_fillPiece_97 rfl (lv_at hl 2 rfl) ?_
    refine lv_iadd hx hb dX11_fillPiece_98 ?_
    refine lv_aload_n hx hb dX11_fillPiece_99 rfl (lv_at hl 0 rfl) ?_
    refine lv_iconst (v := (-1)) hx hb dX11_fillPiece_100 (by decide) ?_
    obtain ⟨r4, u5, hc6, hF⟩ := q_bnd_some hF
    refine sx_ci (Wd := (am_W a cI)) (σ1 := u5) (q_runV (Wd := (am_W a cI)) (σ := u) (q0 := 0) (ci := 11) (T := TX11) (N := 72) (As := [.int (-1)]) (rest := [.int ((1068 * x1) + x2), .ref (a 10)]) hx hb hml hown hts hK hP (kt_X11_takeBlock hD hc6) cw_X11_321 rfl rfl ⟨Nat.le_of_ble_eq_true rfl, Nat.le_of_ble_eq_true rfl⟩ rfl rfl rfl hl.1 rfl (Nat.le_of_ble_eq_true rfl) dX11_fillPiece_101) hS (fun H locs hP hS => ?_)
    refine um_m_piece hx hb hK hP hD hS hF dX11_fillPiece_104 (fun u7 H locs hF hP hS => ?_)
    refine lv_iload_n hx hb dX11_fillPiece_105 rfl (lv_at hl 3 rfl) ?_
    refine lv_iconst (v := (-1)) hx hb dX11_fillPiece_106 (by decide) ?_
    refine sx_icmp_ne (tgt := 118) hx hb hF dX11_fillPiece_107 (by decide) (fun hF => ?_) (fun hF => ?_)
    · refine lv_aload_n hx hb dX11_fillPiece_118 rfl (lv_at hl 0 rfl) ?_
      refine lv_aload_n hx hb dX11_fillPiece_119 rfl (lv_at hl 0 rfl) ?_
      refine gm_m_index hx hb hts hown hK hP fl_X11_56 dX11_fillPiece_120 ?_
      refine lv_bipush (v := 34) hx hb dX11_fillPiece_123 (by decide) ?_
      refine lv_iload_n hx hb dX11_fillPiece_125 rfl (lv_at hl 1 rfl) ?_
      refine lv_imul hx hb dX11_fillPiece_126 ?_
      refine lv_iload_n hx hb dX11_fillPiece_127 rfl (lv_at hl 3 rfl) ?_
      refine lv_iadd hx hb dX11_fillPiece_128 ?_
      refine lm_m_index hx hb hK hP hF dX11_fillPiece_129 (fun v8 hF => ?_)
      obtain ⟨r9, u10, hc11, hF⟩ := q_bnd_some hF
      refine sx_cv (Wd := (am_W a cI)) (σ1 := u10) (q_runV (Wd := (am_W a cI)) (σ := u7) (q0 := 0) (ci := 11) (T := TX11) (N := 72) (As := [.int v8]) (rest := []) hx hb hml hown hts hK hP (kt_X11_soil hD hc11) cw_X11_294 rfl rfl ⟨Nat.le_of_ble_eq_true rfl, Nat.le_of_ble_eq_true rfl⟩ rfl rfl rfl hl.1 rfl (Nat.le_of_ble_eq_true rfl) dX11_fillPiece_130) hS (fun H locs hP hS => ?_)
      exact sx_retv (Wd := (am_W a cI)) (σ := u10) hx hb hr hF hP hS hlocks dX11_fillPiece_133
    · refine lv_aload_n hx hb dX11_fillPiece_110 rfl (lv_at hl 0 rfl) ?_
      refine lv_iload_n hx hb dX11_fillPiece_111 rfl (lv_at hl 1 rfl) ?_
      obtain ⟨r12, u13, hc14, hF⟩ := q_bnd_some hF
      refine sx_cv (Wd := (am_W a cI)) (σ1 := u13) (q_runV (Wd := (am_W a cI)) (σ := u7) (q0 := 0) (ci := 11) (T := TX11) (N := 72) (As := [.int x1]) (rest := []) hx hb hml hown hts hK hP (kt_X11_soilNode hD hc14) cw_X11_324 rfl rfl ⟨Nat.le_of_ble_eq_true rfl, Nat.le_of_ble_eq_true rfl⟩ rfl rfl rfl hl.1 rfl (Nat.le_of_ble_eq_true rfl) dX11_fillPiece_112) hS (fun H locs hP hS => ?_)
      refine lv_goto (tgt := 133) hx hb dX11_fillPiece_115 (by decide) ?_
      exact sx_retv (Wd := (am_W a cI)) (σ := u13) hx hb hr hF hP hS hlocks dX11_fillPiece_133
  have hB66 : ∀ (x1 : Int32) (x2 : Int32) (x3 : Int32) (u : q_St) (ls : Array Slot), lv_has ls 4 [(0, .ref (a 0)), (1, .int x1), (2, .int x2), (3, .int x3)] → fX11_fillPiece_b66 N x1 x2 x3 u = some (r0, σ0) → ∀ (H : Heap) (locs : List Loc), va_P D vwCl (am_W a cI u) H → va_S (am_A a) s.heap H locs → W p l e (headSpec (Cond.code yX11_fillPiece cX11_fillPiece 4 none :: q_T) ({ frames := 3, cells := 0, slots := 0, locals := 65 } : Room)).room s m ([.ref (a 0), .int o1, .int o2] : List Value).toArray below meth c H locs 0 0 (MQ below (q_Qv D vwCl (am_W a cI) (am_A a) σ0) ([.ref (a 0), .int o1, .int o2] : List Value).toArray s 0 0 (am_A a)) (F0 m 66 ls []) := by
    intro x1 x2 x3 u ls hl hF _ _ hP hS
    unfold fX11_fillPiece_b66 at hF
    refine lv_aload_n hx hb dX11_fillPiece_66 rfl (lv_at hl 0 rfl) ?_
    refine gm_m_index hx hb hts hown hK hP fl_X11_56 dX11_fillPiece_67 ?_
    refine lv_bipush (v := 34) hx hb dX11_fillPiece_70 (by decide) ?_
    refine lv_iload_n hx hb dX11_fillPiece_72 rfl (lv_at hl 1 rfl) ?_
    refine lv_imul hx hb dX11_fillPiece_73 ?_
    refine lv_iload_n hx hb dX11_fillPiece_74 rfl (lv_at hl 3 rfl) ?_
    refine lv_iadd hx hb dX11_fillPiece_75 ?_
    refine lv_aload_n hx hb dX11_fillPiece_76 rfl (lv_at hl 0 rfl) ?_
    refine lv_iconst (v := (-1)) hx hb dX11_fillPiece_77 (by decide) ?_
    obtain ⟨r16, u17, hc18, hF⟩ := q_bnd_some hF
    refine sx_ci (Wd := (am_W a cI)) (σ1 := u17) (q_runV (Wd := (am_W a cI)) (σ := u) (q0 := 0) (ci := 11) (T := TX11) (N := 72) (As := [.int (-1)]) (rest := [.int ((34 * x1) + x3), .ref (a 11)]) hx hb hml hown hts hK hP (kt_X11_takeBlock hD hc18) cw_X11_321 rfl rfl ⟨Nat.le_of_ble_eq_true rfl, Nat.le_of_ble_eq_true rfl⟩ rfl rfl rfl hl.1 rfl (Nat.le_of_ble_eq_true rfl) dX11_fillPiece_78) hS (fun H locs hP hS => ?_)
    refine um_m_index hx hb hK hP hD hS hF dX11_fillPiece_81 (fun u19 H locs hF hP hS => ?_)
    refine lv_aload_n hx hb dX11_fillPiece_82 rfl (lv_at hl 0 rfl) ?_
    refine lv_iload_n hx hb dX11_fillPiece_83 rfl (lv_at hl 1 rfl) ?_
    refine lv_iload_n hx hb dX11_fillPiece_84 rfl (lv_at hl 3 rfl) ?_
    obtain ⟨r20, u21, hc22, hF⟩ := q_bnd_some hF
    refine sx_cv (Wd := (am_W a cI)) (σ1 := u21) (q_runV (Wd := (am_W a cI)) (σ := u19) (q0 := 0) (ci := 11) (T := TX11) (N := 72) (As := [.int x1, .int x3]) (rest := []) hx hb hml hown hts hK hP (kt_X11_soilTeller hD hc22) cw_X11_415 rfl rfl ⟨Nat.le_of_ble_eq_true rfl, Nat.le_of_ble_eq_true rfl⟩ rfl rfl rfl hl.1 rfl (Nat.le_of_ble_eq_true rfl) dX11_fillPiece_85) hS (fun H locs hP hS => ?_)
    exact hB88 x1 x2 x3 u21 ls (lv_sub hl [0, 1, 2, 3] rfl) hF _ _ hP hS
  unfold fX11_fillPiece at hF
  refine lv_iload_n hx hb dX11_fillPiece_0 rfl (lv_at hl 2 rfl) ?_
  obtain ⟨r1, u2, hc3, hF⟩ := q_bnd_some hF
  refine sx_ci (Wd := (am_W a cI)) (σ1 := u2) (q_runS (Wd := (am_W a cI)) (σ := u) (As := [.int o2]) (rest := []) hx hb hml hown hts hK hP (kt_X11_indexOf hD hc3) cw_X11_412 rfl rfl ⟨Nat.le_of_ble_eq_true rfl, Nat.le_of_ble_eq_true rfl⟩ rfl hl.1 rfl (Nat.le_of_ble_eq_true rfl) dX11_fillPiece_1) hS (fun H locs hP hS => ?_)
  refine lv_istore_n (lv' := [(3, .int r1), (0, .ref (a 0)), (1, .int o1), (2, .int o2)]) hx hb dX11_fillPiece_4 rfl hl (by decide) rfl (fun ls hl => ?_)
  refine lv_iload_n hx hb dX11_fillPiece_5 rfl (lv_at hl 0 rfl) ?_
  refine lv_iconst (v := (-1)) hx hb dX11_fillPiece_6 (by decide) ?_
  refine sx_icmp_eq (tgt := 88) hx hb hF dX11_fillPiece_7 (by decide) (fun hF => ?_) (fun hF => ?_)
  · exact hB88 o1 o2 r1 u2 ls (lv_sub hl [1, 2, 3, 0] rfl) hF _ _ hP hS
  · refine lv_aload_n hx hb dX11_fillPiece_10 rfl (lv_at hl 1 rfl) ?_
    refine gm_m_index hx hb hts hown hK hP fl_X11_56 dX11_fillPiece_11 ?_
    refine lv_bipush (v := 34) hx hb dX11_fillPiece_14 (by decide) ?_
    refine lv_iload_n hx hb dX11_fillPiece_16 rfl (lv_at hl 2 rfl) ?_
    refine lv_imul hx hb dX11_fillPiece_17 ?_
    refine lv_iload_n hx hb dX11_fillPiece_18 rfl (lv_at hl 0 rfl) ?_
    refine lv_iadd hx hb dX11_fillPiece_19 ?_
    refine lm_m_index hx hb hK hP hF dX11_fillPiece_20 (fun v15 hF => ?_)
    refine lv_iconst (v := (-1)) hx hb dX11_fillPiece_21 (by decide) ?_
    refine sx_icmp_ne (tgt := 88) hx hb hF dX11_fillPiece_22 (by decide) (fun hF => ?_) (fun hF => ?_)
    · exact hB88 o1 o2 r1 u2 ls (lv_sub hl [1, 2, 3, 0] rfl) hF _ _ hP hS
    · refine lv_iload_n hx hb dX11_fillPiece_25 rfl (lv_at hl 0 rfl) ?_
      refine lv_iconst (v := 1) hx hb dX11_fillPiece_26 (by decide) ?_
      refine sx_icmp_le (tgt := 66) hx hb hF dX11_fillPiece_27 (by decide) (fun hF => ?_) (fun hF => ?_)
      · exact hB66 o1 o2 r1 u2 ls (lv_sub hl [1, 2, 3, 0] rfl) hF _ _ hP hS
      · refine lv_aload_n hx hb dX11_fillPiece_30 rfl (lv_at hl 1 rfl) ?_
        refine gm_m_index hx hb hts hown hK hP fl_X11_56 dX11_fillPiece_31 ?_
        refine lv_bipush (v := 34) hx hb dX11_fillPiece_34 (by decide) ?_
        refine lv_iload_n hx hb dX11_fillPiece_36 rfl (lv_at hl 2 rfl) ?_
        refine lv_imul hx hb dX11_fillPiece_37 ?_
        refine lv_iconst (v := 1) hx hb dX11_fillPiece_38 (by decide) ?_
        refine lv_iadd hx hb dX11_fillPiece_39 ?_
        refine lm_m_index hx hb hK hP hF dX11_fillPiece_40 (fun v23 hF => ?_)
        refine lv_iconst (v := (-1)) hx hb dX11_fillPiece_41 (by decide) ?_
        refine sx_icmp_ne (tgt := 66) hx hb hF dX11_fillPiece_42 (by decide) (fun hF => ?_) (fun hF => ?_)
        · exact hB66 o1 o2 r1 u2 ls (lv_sub hl [1, 2, 3, 0] rfl) hF _ _ hP hS
        · refine lv_aload_n hx hb dX11_fillPiece_45 rfl (lv_at hl 1 rfl) ?_
          refine gm_m_index hx hb hts hown hK hP fl_X11_56 dX11_fillPiece_46 ?_
          refine lv_bipush (v := 34) hx hb dX11_fillPiece_49 (by decide) ?_
          refine lv_iload_n hx hb dX11_fillPiece_51 rfl (lv_at hl 2 rfl) ?_
          refine lv_imul hx hb dX11_fillPiece_52 ?_
          refine lv_iconst (v := 1) hx hb dX11_fillPiece_53 (by decide) ?_
          refine lv_iadd hx hb dX11_fillPiece_54 ?_
          refine lv_aload_n hx hb dX11_fillPiece_55 rfl (lv_at hl 1 rfl) ?_
          refine lv_iconst (v := (-1)) hx hb dX11_fillPiece_56 (by decide) ?_
          obtain ⟨r24, u25, hc26, hF⟩ := q_bnd_some hF
          refine sx_ci (Wd := (am_W a cI)) (σ1 := u25) (q_runV (Wd := (am_W a cI)) (σ := u2) (q0 := 0) (ci := 11) (T := TX11) (N := 72) (As := [.int (-1)]) (rest := [.int ((34 * o1) + 1), .ref (a 11)]) hx hb hml hown hts hK hP (kt_X11_takeBlock hD hc26) cw_X11_321 rfl rfl ⟨Nat.le_of_ble_eq_true rfl, Nat.le_of_ble_eq_true rfl⟩ rfl rfl rfl hl.1 rfl (Nat.le_of_ble_eq_true rfl) dX11_fillPiece_57) hS (fun H locs hP hS => ?_)
          refine um_m_index hx hb hK hP hD hS hF dX11_fillPiece_60 (fun u27 H locs hF hP hS => ?_)
          refine lv_aload_n hx hb dX11_fillPiece_61 rfl (lv_at hl 1 rfl) ?_
          refine lv_iload_n hx hb dX11_fillPiece_62 rfl (lv_at hl 2 rfl) ?_
          obtain ⟨r28, u29, hc30, hF⟩ := q_bnd_some hF
          refine sx_cv (Wd := (am_W a cI)) (σ1 := u29) (q_runV (Wd := (am_W a cI)) (σ := u27) (q0 := 0) (ci := 11) (T := TX11) (N := 72) (As := [.int o1]) (rest := []) hx hb hml hown hts hK hP (kt_X11_soilNode hD hc30) cw_X11_324 rfl rfl ⟨Nat.le_of_ble_eq_true rfl, Nat.le_of_ble_eq_true rfl⟩ rfl rfl rfl hl.1 rfl (Nat.le_of_ble_eq_true rfl) dX11_fillPiece_63) hS (fun H locs hP hS => ?_)
          exact hB66 o1 o2 r1 u29 ls (lv_sub hl [1, 2, 3, 0] rfl) hF _ _ hP hS
