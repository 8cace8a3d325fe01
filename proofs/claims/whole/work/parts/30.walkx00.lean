set_option maxHeartbeats 4000000 in
set_option maxRecDepth 100000 in
theorem kt_X7_append_8 {N : Nat} {l : Launch} {D : va_G} {a : Nat → Nat} {cI : Nat → ClassId} {L : Nat → Nat} (hD : ∀ σ, va_D (ax_A a) (ax_W a cI L σ)) {o1 : Int32} {u σ0 : q_St} {r0 : Unit} (hF : fX7_append_8 L N o1 u = some (r0, σ0)) : Met l yX7_append (Cond.code yX7_append cX7_append 3 none :: q_T) ({ frames := 0, cells := 0, slots := 0, locals := 0 } : Room) (q_P D vwCl (ax_T cI) (ax_W a cI L) [.ref (a 8), .int o1] u) (q_Qv D vwCl (ax_W a cI L) (ax_A a) σ0) 0 0 (ax_A a) := by
  refine Met.ofW (cc := cX7_append) (maxL := 3) (ret := none) (by decide) rfl ?_
  intro p e s m args below meth c s₁ B hml hv
  obtain ⟨rfl, hP, hK⟩ := hv
  have hx := B.exec
  have hb := B.bytes
  have hr := B.returns
  have hts := q_ts (atoms_spec (ws := Cond.code yX7_append cX7_append 3 none :: q_T) B.pre)
  have hown : s.vm.findClass RX7 = some m.cls := findClass_of_methodNamed B.named
  have hlocks := B.notSynchronized
  have hS : va_S (ax_A a) s.heap s.heap [] := va_S.rf
  have hl := lv_entry ([.ref (a 8), .int o1]) (n := 3) (Nat.le_of_ble_eq_true rfl)
  rw [lg_entry_eq]
  generalize (lg_sl ([.ref (a 8), .int o1]) ++ List.replicate (3 - (lg_sl ([.ref (a 8), .int o1])).length) Slot.unset).toArray = ls at hl ⊢
  have hl : lv_has ls 3 [(0, .ref (a 8)), (1, .int o1)] := hl
  have hB45 : ∀ (ih3 : Int32 → Int32 → q_St → Option (Unit × q_St)) (hi3 : ∀ (x1 : Int32) (x2 : Int32) (u : q_St) (ls : Array Slot), lv_has ls 3 [(0, .ref (a 8)), (1, .int x1), (2, .int x2)] → ih3 x1 x2 u = some (r0, σ0) → ∀ (H : Heap) (locs : List Loc), va_P D vwCl (ax_W a cI L u) H → va_S (ax_A a) s.heap H locs → W p l e (headSpec (Cond.code yX7_append cX7_append 3 none :: q_T) ({ frames := 0, cells := 0, slots := 0, locals := 0 } : Room)).room s m ([.ref (a 8), .int o1] : List Value).toArray below meth c H locs 0 0 (MQ below (q_Qv D vwCl (ax_W a cI L) (ax_A a) σ0) ([.ref (a 8), .int o1] : List Value).toArray s 0 0 (ax_A a)) (F0 m 3 ls [])), ∀ (x1 : Int32) (x2 : Int32) (u : q_St) (ls : Array Slot), lv_has ls 3 [(0, .ref (a 8)), (1, .int x1), (2, .int x2)] → fX7_append_8_b45 L N ih3 x1 x2 u = some (r0, σ0) → ∀ (H : Heap) (locs : List Loc), va_P D vwCl (ax_W a cI L u) H → va_S (ax_A a) s.heap H locs → W p l e (headSpec (Cond.code yX7_append cX7_append 3 none :: q_T) ({ frames := 0, cells := 0, slots := 0, locals := 0 } : Room)).room s m ([.ref (a 8), .int o1] : List Value).toArray below meth c H locs 0 0 (MQ below (q_Qv D vwCl (ax_W a cI L) (ax_A a) σ0) ([.ref (a 8), .int o1] : List Value).toArray s 0 0 (ax_A a)) (F0 m 45 ls []) := by
    intro ih3 hi3 x1 x2 u ls hl hF _ _ hP hS
    unfold fX7_append_8_b45 at hF
    refine sx_iinc (d := (-8)) (k := 2) (lv2 := [(0, .ref (a 8)), (1, .int x1)]) hx hb hF dX7_append_45 hl rfl (by decide) (by decide) rfl (fun v1 hF ls hl => ?_)
    refine lv_goto (tgt := 3) hx hb dX7_append_48 (by decide) ?_
    exact hi3 x1 v1 u ls (lv_sub hl [1, 2, 0] rfl) hF _ _ hP hS
  have hB3 : ∀ (n : Nat) (x1 : Int32) (x2 : Int32) (u : q_St) (ls : Array Slot), lv_has ls 3 [(0, .ref (a 8)), (1, .int x1), (2, .int x2)] → q_lp (fX7_append_8_b3 L N) (fun _ _ _ => none) n x1 x2 u = some (r0, σ0) → ∀ (H : Heap) (locs : List Loc), va_P D vwCl (ax_W a cI L u) H → va_S (ax_A a) s.heap H locs → W p l e (headSpec (Cond.code yX7_append cX7_append 3 none :: q_T) ({ frames := 0, cells := 0, slots := 0, locals := 0 } : Room)).room s m ([.ref (a 8), .int o1] : List Value).toArray below meth c H locs 0 0 (MQ below (q_Qv D vwCl (ax_W a cI L) (ax_A a) σ0) ([.ref (a 8), .int o1] : List Value).toArray s 0 0 (ax_A a)) (F0 m 3 ls []) := by
    intro n
    induction n with
    | zero => intro x1 x2 u ls hl hF; exact absurd (show (none : Option (Unit × q_St)) = some _ from hF) (fun h => nomatch h)
    | succ n hi3 =>
      intro x1 x2 u ls hl hF _ _ hP hS
      obtain ⟨ih3, hih⟩ : ∃ q, q = q_lp (fX7_append_8_b3 L N) (fun _ _ _ => none) n := ⟨_, rfl⟩
      rw [← hih] at hi3
      have hF : fX7_append_8_b3 L N (q_lp (fX7_append_8_b3 L N) (fun _ _ _ => none) n) x1 x2 u = some (r0, σ0) := hF
      rw [← hih] at hF
      clear hih
      unfold fX7_append_8_b3 at hF
      refine lv_iload_n hx hb dX7_append_3 rfl (lv_at hl 2 rfl) ?_
      refine sx_if_lt (tgt := 51) hx hb hF dX7_append_4 (by decide) (fun hF => ?_) (fun hF => ?_)
      · exact sx_retv (Wd := (ax_W a cI L)) (σ := u) hx hb hr hF hP hS hlocks dX7_append_51
      · refine lv_aload_n hx hb dX7_append_7 rfl (lv_at hl 0 rfl) ?_
        refine gx_tape_length hx hb hts hown hK hP fl_X7_13 dX7_append_8 ?_
        refine lv_aload_n hx hb dX7_append_11 rfl (lv_at hl 0 rfl) ?_
        refine gx_tape_bytes hx hb hts hown hK hP fl_X7_7 dX7_append_12 ?_
        refine nx_tape_bytes hx hb hK hP dX7_append_15 ?_
        refine sx_icmp_ge (tgt := 45) hx hb hF dX7_append_16 (by decide) (fun hF => ?_) (fun hF => ?_)
        · exact hB45 ih3 hi3 x1 x2 u ls (lv_sub hl [0, 1, 2] rfl) hF _ _ hP hS
        · refine lv_aload_n hx hb dX7_append_19 rfl (lv_at hl 0 rfl) ?_
          refine gx_tape_bytes hx hb hts hown hK hP fl_X7_7 dX7_append_20 ?_
          refine lv_aload_n hx hb dX7_append_23 rfl (lv_at hl 0 rfl) ?_
          refine gx_tape_length hx hb hts hown hK hP fl_X7_13 dX7_append_24 ?_
          refine lv_iload_n hx hb dX7_append_27 rfl (lv_at hl 1 rfl) ?_
          refine lv_iload_n hx hb dX7_append_28 rfl (lv_at hl 2 rfl) ?_
          refine lv_iushr (v := q_iush x1 x2) hx hb dX7_append_29 rfl ?_
          refine lv_sipush (v := 255) hx hb dX7_append_30 (by decide) ?_
          refine lv_iand hx hb dX7_append_33 ?_
          refine ux_tape_bytes hx hb hK hP hD hS hF dX7_append_34 (fun u2 H locs hF hP hS => ?_)
          refine lv_aload_n hx hb dX7_append_35 rfl (lv_at hl 0 rfl) ?_
          refine lv_dup hx hb dX7_append_36 rfl ?_
          refine gx_tape_length hx hb hts hown hK hP fl_X7_13 dX7_append_37 ?_
          refine lv_iconst (v := 1) hx hb dX7_append_40 (by decide) ?_
          refine lv_iadd hx hb dX7_append_41 ?_
          refine px_tape_length hx hb hts hown hK hP fl_X7_13 hD hS hF dX7_append_42 (fun u3 H locs hF hP hS => ?_)
          exact hB45 ih3 hi3 x1 x2 u3 ls (lv_sub hl [0, 1, 2] rfl) hF _ _ hP hS
  unfold fX7_append_8 at hF
  refine lv_bipush (v := 24) hx hb dX7_append_0 (by decide) ?_
  refine lv_istore_n (lv' := [(2, .int 24), (0, .ref (a 8)), (1, .int o1)]) hx hb dX7_append_2 rfl hl (by decide) rfl (fun ls hl => ?_)
  exact hB3 N o1 24 u ls (lv_sub hl [1, 2, 0] rfl) hF _ _ hP hS
set_option maxHeartbeats 4000000 in
set_option maxRecDepth 100000 in
theorem kt_X10_feed {N : Nat} {l : Launch} {D : va_G} {a : Nat → Nat} {cI : Nat → ClassId} {L : Nat → Nat} (hD : ∀ σ, va_D (ax_A a) (ax_W a cI L σ)) {o1 : Int32} {o2 : Int32} {o3 : Int32} {o4 : Int32} {o5 : Int32} {u σ0 : q_St} {r0 : Int32} (hF : fX10_feed L N o1 o2 o3 o4 o5 u = some (r0, σ0)) : Met l yX10_feed (Cond.code yX10_feed cX10_feed 6 (some .boolean) :: q_T) ({ frames := 1, cells := 0, slots := 0, locals := 22 } : Room) (q_P D vwCl (ax_T cI) (ax_W a cI L) [.ref (a 0), .int o1, .int o2, .int o3, .int o4, .int o5] u) (q_Qi D vwCl (ax_W a cI L) (ax_A a) r0 σ0) 0 0 (ax_A a) := by
  refine Met.ofW (cc := cX10_feed) (maxL := 6) (ret := (some .boolean)) (by decide) rfl ?_
  intro p e s m args below meth c s₁ B hml hv
  obtain ⟨rfl, hP, hK⟩ := hv
  have hx := B.exec
  have hb := B.bytes
  have hr := B.returns
  have hts := q_ts (atoms_spec (ws := Cond.code yX10_feed cX10_feed 6 (some .boolean) :: q_T) B.pre)
  have hown : s.vm.findClass RX10 = some m.cls := findClass_of_methodNamed B.named
  have hlocks := B.notSynchronized
  have hS : va_S (ax_A a) s.heap s.heap [] := va_S.rf
  have hl := lv_entry ([.ref (a 0), .int o1, .int o2, .int o3, .int o4, .int o5]) (n := 6) (Nat.le_of_ble_eq_true rfl)
  rw [lg_entry_eq]
  generalize (lg_sl ([.ref (a 0), .int o1, .int o2, .int o3, .int o4, .int o5]) ++ List.replicate (6 - (lg_sl ([.ref (a 0), .int o1, .int o2, .int o3, .int o4, .int o5])).length) Slot.unset).toArray = ls at hl ⊢
  have hl : lv_has ls 6 [(0, .ref (a 0)), (1, .int o1), (2, .int o2), (3, .int o3), (4, .int o4), (5, .int o5)] := hl
  unfold fX10_feed at hF
  refine lv_aload_n hx hb dX10_feed_0 rfl (lv_at hl 0 rfl) ?_
  refine gx_h_tape hx hb hts hown hK hP fl_X10_79 dX10_feed_1 ?_
  refine gx_tape_length hx hb hts hown hK hP fl_X10_116 dX10_feed_4 ?_
  refine lv_bipush (v := 20) hx hb dX10_feed_7 (by decide) ?_
  refine lv_iadd hx hb dX10_feed_9 ?_
  refine lv_sipush (v := 1280) hx hb dX10_feed_10 (by decide) ?_
  refine sx_icmp_le (tgt := 18) hx hb hF dX10_feed_13 (by decide) (fun hF => ?_) (fun hF => ?_)
  · refine lv_aload_n hx hb dX10_feed_18 rfl (lv_at hl 0 rfl) ?_
    refine gx_h_tape hx hb hts hown hK hP fl_X10_79 dX10_feed_19 ?_
    refine lv_iload_n hx hb dX10_feed_22 rfl (lv_at hl 1 rfl) ?_
    obtain ⟨r1, u2, hc3, hF⟩ := q_bnd_some hF
    refine sx_cv (Wd := (ax_W a cI L)) (σ1 := u2) (q_runV (Wd := (ax_W a cI L)) (σ := u) (q0 := 8) (ci := 7) (T := TX7) (N := 2) (As := [.int o1]) (rest := []) hx hb hml hown hts hK hP (kt_X7_append_8 hD hc3) cw_X10_119 rfl rfl ⟨Nat.le_of_ble_eq_true rfl, Nat.le_of_ble_eq_true rfl⟩ rfl rfl rfl hl.1 rfl (Nat.le_of_ble_eq_true rfl) dX10_feed_23) hS (fun H locs hP hS => ?_)
    refine lv_aload_n hx hb dX10_feed_26 rfl (lv_at hl 0 rfl) ?_
    refine gx_h_tape hx hb hts hown hK hP fl_X10_79 dX10_feed_27 ?_
    refine lv_iload_n hx hb dX10_feed_30 rfl (lv_at hl 2 rfl) ?_
    obtain ⟨r4, u5, hc6, hF⟩ := q_bnd_some hF
    refine sx_cv (Wd := (ax_W a cI L)) (σ1 := u5) (q_runV (Wd := (ax_W a cI L)) (σ := u2) (q0 := 8) (ci := 7) (T := TX7) (N := 2) (As := [.int o2]) (rest := []) hx hb hml hown hts hK hP (kt_X7_append_8 hD hc6) cw_X10_119 rfl rfl ⟨Nat.le_of_ble_eq_true rfl, Nat.le_of_ble_eq_true rfl⟩ rfl rfl rfl hl.1 rfl (Nat.le_of_ble_eq_true rfl) dX10_feed_31) hS (fun H locs hP hS => ?_)
    refine lv_aload_n hx hb dX10_feed_34 rfl (lv_at hl 0 rfl) ?_
    refine gx_h_tape hx hb hts hown hK hP fl_X10_79 dX10_feed_35 ?_
    refine lv_iload_n hx hb dX10_feed_38 rfl (lv_at hl 3 rfl) ?_
    obtain ⟨r7, u8, hc9, hF⟩ := q_bnd_some hF
    refine sx_cv (Wd := (ax_W a cI L)) (σ1 := u8) (q_runV (Wd := (ax_W a cI L)) (σ := u5) (q0 := 8) (ci := 7) (T := TX7) (N := 2) (As := [.int o3]) (rest := []) hx hb hml hown hts hK hP (kt_X7_append_8 hD hc9) cw_X10_119 rfl rfl ⟨Nat.le_of_ble_eq_true rfl, Nat.le_of_ble_eq_true rfl⟩ rfl rfl rfl hl.1 rfl (Nat.le_of_ble_eq_true rfl) dX10_feed_39) hS (fun H locs hP hS => ?_)
    refine lv_aload_n hx hb dX10_feed_42 rfl (lv_at hl 0 rfl) ?_
    refine gx_h_tape hx hb hts hown hK hP fl_X10_79 dX10_feed_43 ?_
    refine lv_iload hx hb dX10_feed_46 (lv_at hl 4 rfl) ?_
    obtain ⟨r10, u11, hc12, hF⟩ := q_bnd_some hF
    refine sx_cv (Wd := (ax_W a cI L)) (σ1 := u11) (q_runV (Wd := (ax_W a cI L)) (σ := u8) (q0 := 8) (ci := 7) (T := TX7) (N := 2) (As := [.int o4]) (rest := []) hx hb hml hown hts hK hP (kt_X7_append_8 hD hc12) cw_X10_119 rfl rfl ⟨Nat.le_of_ble_eq_true rfl, Nat.le_of_ble_eq_true rfl⟩ rfl rfl rfl hl.1 rfl (Nat.le_of_ble_eq_true rfl) dX10_feed_48) hS (fun H locs hP hS => ?_)
    refine lv_aload_n hx hb dX10_feed_51 rfl (lv_at hl 0 rfl) ?_
    refine gx_h_tape hx hb hts hown hK hP fl_X10_79 dX10_feed_52 ?_
    refine lv_iload hx hb dX10_feed_55 (lv_at hl 5 rfl) ?_
    obtain ⟨r13, u14, hc15, hF⟩ := q_bnd_some hF
    refine sx_cv (Wd := (ax_W a cI L)) (σ1 := u14) (q_runV (Wd := (ax_W a cI L)) (σ := u11) (q0 := 8) (ci := 7) (T := TX7) (N := 2) (As := [.int o5]) (rest := []) hx hb hml hown hts hK hP (kt_X7_append_8 hD hc15) cw_X10_119 rfl rfl ⟨Nat.le_of_ble_eq_true rfl, Nat.le_of_ble_eq_true rfl⟩ rfl rfl rfl hl.1 rfl (Nat.le_of_ble_eq_true rfl) dX10_feed_57) hS (fun H locs hP hS => ?_)
    refine lv_iconst (v := 1) hx hb dX10_feed_60 (by decide) ?_
    exact sx_retz (Wd := (ax_W a cI L)) (σ := u14) hx hb hr (by decide) hF hP hS hlocks dX10_feed_61
  · refine lv_iconst (v := 0) hx hb dX10_feed_16 (by decide) ?_
    exact sx_retz (Wd := (ax_W a cI L)) (σ := u) hx hb hr (by decide) hF hP hS hlocks dX10_feed_17
set_option maxHeartbeats 4000000 in
set_option maxRecDepth 100000 in
theorem kt_X10_end {N : Nat} {l : Launch} {D : va_G} {a : Nat → Nat} {cI : Nat → ClassId} {L : Nat → Nat} (hD : ∀ σ, va_D (ax_A a) (ax_W a cI L σ)) {o1 : Int32} {u σ0 : q_St} {r0 : Int32} (hF : fX10_end L N o1 u = some (r0, σ0)) : Met l yX10_end (Cond.code yX10_end cX10_end 2 (some .boolean) :: q_T) ({ frames := 0, cells := 0, slots := 0, locals := 0 } : Room) (q_P D vwCl (ax_T cI) (ax_W a cI L) [.ref (a 0), .int o1] u) (q_Qi D vwCl (ax_W a cI L) (ax_A a) r0 σ0) 0 0 (ax_A a) := by
  refine Met.ofW (cc := cX10_end) (maxL := 2) (ret := (some .boolean)) (by decide) rfl ?_
  intro p e s m args below meth c s₁ B hml hv
  obtain ⟨rfl, hP, hK⟩ := hv
  have hx := B.exec
  have hb := B.bytes
  have hr := B.returns
  have hts := q_ts (atoms_spec (ws := Cond.code yX10_end cX10_end 2 (some .boolean) :: q_T) B.pre)
  have hown : s.vm.findClass RX10 = some m.cls := findClass_of_methodNamed B.named
  have hlocks := B.notSynchronized
  have hS : va_S (ax_A a) s.heap s.heap [] := va_S.rf
  have hl := lv_entry ([.ref (a 0), .int o1]) (n := 2) (Nat.le_of_ble_eq_true rfl)
  rw [lg_entry_eq]
  generalize (lg_sl ([.ref (a 0), .int o1]) ++ List.replicate (2 - (lg_sl ([.ref (a 0), .int o1])).length) Slot.unset).toArray = ls at hl ⊢
  have hl : lv_has ls 2 [(0, .ref (a 0)), (1, .int o1)] := hl
  unfold fX10_end at hF
  refine lv_iload_n hx hb dX10_end_0 rfl (lv_at hl 1 rfl) ?_
  refine sx_if_lt (tgt := 15) hx hb hF dX10_end_1 (by decide) (fun hF => ?_) (fun hF => ?_)
  · refine lv_iconst (v := 0) hx hb dX10_end_15 (by decide) ?_
    exact sx_retz (Wd := (ax_W a cI L)) (σ := u) hx hb hr (by decide) hF hP hS hlocks dX10_end_16
  · refine lv_iload_n hx hb dX10_end_4 rfl (lv_at hl 1 rfl) ?_
    refine lv_aload_n hx hb dX10_end_5 rfl (lv_at hl 0 rfl) ?_
    refine gx_h_tape hx hb hts hown hK hP fl_X10_79 dX10_end_6 ?_
    refine gx_tape_length hx hb hts hown hK hP fl_X10_116 dX10_end_9 ?_
    refine sx_icmp_le (tgt := 17) hx hb hF dX10_end_12 (by decide) (fun hF => ?_) (fun hF => ?_)
    · refine lv_aload_n hx hb dX10_end_17 rfl (lv_at hl 0 rfl) ?_
      refine gx_h_tape hx hb hts hown hK hP fl_X10_79 dX10_end_18 ?_
      refine lv_iload_n hx hb dX10_end_21 rfl (lv_at hl 1 rfl) ?_
      refine px_tape_length hx hb hts hown hK hP fl_X10_116 hD hS hF dX10_end_22 (fun u1 H locs hF hP hS => ?_)
      refine lv_iconst (v := 1) hx hb dX10_end_25 (by decide) ?_
      exact sx_retz (Wd := (ax_W a cI L)) (σ := u1) hx hb hr (by decide) hF hP hS hlocks dX10_end_26
    · refine lv_iconst (v := 0) hx hb dX10_end_15 (by decide) ?_
      exact sx_retz (Wd := (ax_W a cI L)) (σ := u) hx hb hr (by decide) hF hP hS hlocks dX10_end_16
set_option maxHeartbeats 4000000 in
set_option maxRecDepth 100000 in
theorem kt_X10_as {N : Nat} {l : Launch} {D : va_G} {a : Nat → Nat} {cI : Nat → ClassId} {L : Nat → Nat} (hD : ∀ σ, va_D (ax_A a) (ax_W a cI L σ)) {o1 : Int32} {u σ0 : q_St} {r0 : Int32} (hF : fX10_as L N o1 u = some (r0, σ0)) : Met l yX10_as (Cond.code yX10_as cX10_as 3 (some .int) :: q_T) ({ frames := 0, cells := 0, slots := 0, locals := 0 } : Room) (q_P D vwCl (ax_T cI) (ax_W a cI L) [.ref (a 0), .int o1] u) (q_Qi D vwCl (ax_W a cI L) (ax_A a) r0 σ0) 0 0 (ax_A a) := by
  refine Met.ofW (cc := cX10_as) (maxL := 3) (ret := (some .int)) (by decide) rfl ?_
  intro p e s m args below meth c s₁ B hml hv
  obtain ⟨rfl, hP, hK⟩ := hv
  have hx := B.exec
  have hb := B.bytes
  have hr := B.returns
  have hts := q_ts (atoms_spec (ws := Cond.code yX10_as cX10_as 3 (some .int) :: q_T) B.pre)
  have hown : s.vm.findClass RX10 = some m.cls := findClass_of_methodNamed B.named
  have hlocks := B.notSynchronized
  have hS : va_S (ax_A a) s.heap s.heap [] := va_S.rf
  have hl := lv_entry ([.ref (a 0), .int o1]) (n := 3) (Nat.le_of_ble_eq_true rfl)
  rw [lg_entry_eq]
  generalize (lg_sl ([.ref (a 0), .int o1]) ++ List.replicate (3 - (lg_sl ([.ref (a 0), .int o1])).length) Slot.unset).toArray = ls at hl ⊢
  have hl : lv_has ls 3 [(0, .ref (a 0)), (1, .int o1)] := hl
  unfold fX10_as at hF
  refine lv_aload_n hx hb dX10_as_0 rfl (lv_at hl 0 rfl) ?_
  refine gx_h_disk hx hb hts hown hK hP fl_X10_53 dX10_as_1 ?_
  refine gx_disk_on hx hb hts hown hK hP fl_X10_122 dX10_as_4 ?_
  refine sx_if_ne (tgt := 13) hx hb hF dX10_as_7 (by decide) (fun hF => ?_) (fun hF => ?_)
  · refine lv_iload_n hx hb dX10_as_13 rfl (lv_at hl 1 rfl) ?_
    refine sx_if_lt (tgt := 23) hx hb hF dX10_as_14 (by decide) (fun hF => ?_) (fun hF => ?_)
    · refine lv_bipush (v := (-15)) hx hb dX10_as_23 (by decide) ?_
      exact sx_reti (Wd := (ax_W a cI L)) (σ := u) hx hb hr hF hP hS hlocks dX10_as_25
    · refine lv_iload_n hx hb dX10_as_17 rfl (lv_at hl 1 rfl) ?_
      refine lv_bipush (v := 16) hx hb dX10_as_18 (by decide) ?_
      refine sx_icmp_lt (tgt := 26) hx hb hF dX10_as_20 (by decide) (fun hF => ?_) (fun hF => ?_)
      · refine lv_aload_n hx hb dX10_as_26 rfl (lv_at hl 0 rfl) ?_
        refine gx_h_who hx hb hts hown hK hP fl_X10_113 dX10_as_27 ?_
        refine sx_istore_n (lv2 := [(0, .ref (a 0)), (1, .int o1)]) hx hb hF dX10_as_30 rfl hl (by decide) rfl (fun v1 hF ls hl => ?_)
        refine lv_aload_n hx hb dX10_as_31 rfl (lv_at hl 1 rfl) ?_
        refine lv_iload_n hx hb dX10_as_32 rfl (lv_at hl 2 rfl) ?_
        refine px_h_who hx hb hts hown hK hP fl_X10_113 hD hS hF dX10_as_33 (fun u2 H locs hF hP hS => ?_)
        refine lv_iload_n hx hb dX10_as_36 rfl (lv_at hl 0 rfl) ?_
        exact sx_reti (Wd := (ax_W a cI L)) (σ := u2) hx hb hr hF hP hS hlocks dX10_as_37
      · refine lv_bipush (v := (-15)) hx hb dX10_as_23 (by decide) ?_
        exact sx_reti (Wd := (ax_W a cI L)) (σ := u) hx hb hr hF hP hS hlocks dX10_as_25
  · refine lv_bipush (v := (-99)) hx hb dX10_as_10 (by decide) ?_
    exact sx_reti (Wd := (ax_W a cI L)) (σ := u) hx hb hr hF hP hS hlocks dX10_as_12
set_option maxHeartbeats 4000000 in
set_option maxRecDepth 100000 in
theorem kt_J7_fillJ_22 {N : Nat} {l : Launch} {D : va_G} {a : Nat → Nat} {cI : Nat → ClassId} {L : Nat → Nat} (hD : ∀ σ, va_D (ax_A a) (ax_W a cI L σ)) {o1 : Int64} {u σ0 : q_St} {r0 : Unit} (hF : fJ7_fillJ_22 L N o1 u = some (r0, σ0)) : Met l yJ7_fill_d0a16 (Cond.code yJ7_fill_d0a16 cJ7_fill_d0a16 5 none :: q_T) ({ frames := 0, cells := 0, slots := 0, locals := 0 } : Room) (q_P D vwCl (ax_T cI) (ax_W a cI L) [.ref (a 22), .long o1] u) (q_Qv D vwCl (ax_W a cI L) (ax_A a) σ0) 0 0 (ax_A a) := by
  refine Met.ofW (cc := cJ7_fill_d0a16) (maxL := 5) (ret := none) (by decide) rfl ?_
  intro p e s m args below meth c s₁ B hml hv
  obtain ⟨rfl, hP, hK⟩ := hv
  have hx := B.exec
  have hb := B.bytes
  have hr := B.returns
  have hts := q_ts (atoms_spec (ws := Cond.code yJ7_fill_d0a16 cJ7_fill_d0a16 5 none :: q_T) B.pre)
  have hown : s.vm.findClass RJ7 = some m.cls := findClass_of_methodNamed B.named
  have hlocks := B.notSynchronized
  have hS : va_S (ax_A a) s.heap s.heap [] := va_S.rf
  have hl := lv_entry ([.ref (a 22), .long o1]) (n := 5) (Nat.le_of_ble_eq_true rfl)
  rw [lg_entry_eq]
  generalize (lg_sl ([.ref (a 22), .long o1]) ++ List.replicate (5 - (lg_sl ([.ref (a 22), .long o1])).length) Slot.unset).toArray = ls at hl ⊢
  have hl : lv_has ls 5 [(0, .ref (a 22)), (1, .long o1)] := hl
  have hB6 : ∀ (n : Nat) (x1 : Int64) (x3 : Int32) (x4 : Int32) (u : q_St) (ls : Array Slot), lv_has ls 5 [(0, .ref (a 22)), (1, .long x1), (3, .int x3), (4, .int x4)] → q_lp (fJ7_fillJ_22_b6 L N) (fun _ _ _ _ => none) n x1 x3 x4 u = some (r0, σ0) → ∀ (H : Heap) (locs : List Loc), va_P D vwCl (ax_W a cI L u) H → va_S (ax_A a) s.heap H locs → W p l e (headSpec (Cond.code yJ7_fill_d0a16 cJ7_fill_d0a16 5 none :: q_T) ({ frames := 0, cells := 0, slots := 0, locals := 0 } : Room)).room s m ([.ref (a 22), .long o1] : List Value).toArray below meth c H locs 0 0 (MQ below (q_Qv D vwCl (ax_W a cI L) (ax_A a) σ0) ([.ref (a 22), .long o1] : List Value).toArray s 0 0 (ax_A a)) (F0 m 6 ls []) := by
    intro n
    induction n with
    | zero => intro x1 x3 x4 u ls hl hF; exact absurd (show (none : Option (Unit × q_St)) = some _ from hF) (fun h => nomatch h)
    | succ n hi6 =>
      intro x1 x3 x4 u ls hl hF _ _ hP hS
      obtain ⟨ih6, hih⟩ : ∃ q, q = q_lp (fJ7_fillJ_22_b6 L N) (fun _ _ _ _ => none) n := ⟨_, rfl⟩
      rw [← hih] at hi6
      have hF : fJ7_fillJ_22_b6 L N (q_lp (fJ7_fillJ_22_b6 L N) (fun _ _ _ _ => none) n) x1 x3 x4 u = some (r0, σ0) := hF
      rw [← hih] at hF
      clear hih
      unfold fJ7_fillJ_22_b6 at hF
      refine lv_iload_n hx hb dJ7_fill_d0a16_6 rfl (lv_at hl 2 rfl) ?_
      refine lv_iload hx hb dJ7_fill_d0a16_7 (lv_at hl 3 rfl) ?_
      refine sx_icmp_ge (tgt := 22) hx hb hF dJ7_fill_d0a16_9 (by decide) (fun hF => ?_) (fun hF => ?_)
      · exact sx_retv (Wd := (ax_W a cI L)) (σ := u) hx hb hr hF hP hS hlocks dJ7_fill_d0a16_22
      · refine lv_aload_n hx hb dJ7_fill_d0a16_12 rfl (lv_at hl 0 rfl) ?_
        refine lv_iload_n hx hb dJ7_fill_d0a16_13 rfl (lv_at hl 2 rfl) ?_
        refine lv_lload_n hx hb dJ7_fill_d0a16_14 rfl (lv_at hl 1 rfl) ?_
        refine ux_store_page hx hb hK hP hD hS hF dJ7_fill_d0a16_15 (fun u2 H locs hF hP hS => ?_)
        refine sx_iinc (d := 1) (k := 2) (lv2 := [(0, .ref (a 22)), (1, .long x1), (4, .int x4)]) hx hb hF dJ7_fill_d0a16_16 hl rfl (by decide) (by decide) rfl (fun v3 hF ls hl => ?_)
        refine lv_goto (tgt := 6) hx hb dJ7_fill_d0a16_19 (by decide) ?_
        exact hi6 x1 v3 x4 u2 ls (lv_sub hl [1, 2, 0, 3] rfl) hF _ _ hP hS
  unfold fJ7_fillJ_22 at hF
  refine lv_iconst (v := 0) hx hb dJ7_fill_d0a16_0 (by decide) ?_
  refine lv_istore_n (lv' := [(3, .int 0), (0, .ref (a 22)), (1, .long o1)]) hx hb dJ7_fill_d0a16_1 rfl hl (by decide) rfl (fun ls hl => ?_)
  refine lv_aload_n hx hb dJ7_fill_d0a16_2 rfl (lv_at hl 1 rfl) ?_
  refine nx_store_page hx hb hK hP dJ7_fill_d0a16_3 ?_
  refine sx_istore (lv2 := [(3, .int 0), (0, .ref (a 22)), (1, .long o1)]) hx hb hF dJ7_fill_d0a16_4 hl (by decide) rfl (fun v1 hF ls hl => ?_)
  exact hB6 N o1 0 v1 u ls (lv_sub hl [2, 3, 1, 0] rfl) hF _ _ hP hS
set_option maxHeartbeats 4000000 in
set_option maxRecDepth 100000 in
theorem kt_X8_freePlaces {N : Nat} {l : Launch} {D : va_G} {a : Nat → Nat} {cI : Nat → ClassId} {L : Nat → Nat} (hD : ∀ σ, va_D (ax_A a) (ax_W a cI L σ))  {u σ0 : q_St} {r0 : Int32} (hF : fX8_freePlaces L N u = some (r0, σ0)) : Met l yX8_freePlaces (Cond.code yX8_freePlaces cX8_freePlaces 1 (some .int) :: q_T) ({ frames := 0, cells := 0, slots := 0, locals := 0 } : Room) (q_P D vwCl (ax_T cI) (ax_W a cI L) [.ref (a 2)] u) (q_Qi D vwCl (ax_W a cI L) (ax_A a) r0 σ0) 0 0 (ax_A a) := by
  refine Met.ofW (cc := cX8_freePlaces) (maxL := 1) (ret := (some .int)) (by decide) rfl ?_
  intro p e s m args below meth c s₁ B hml hv
  obtain ⟨rfl, hP, hK⟩ := hv
  have hx := B.exec
  have hb := B.bytes
  have hr := B.returns
  have hts := q_ts (atoms_spec (ws := Cond.code yX8_freePlaces cX8_freePlaces 1 (some .int) :: q_T) B.pre)
  have hown : s.vm.findClass RX8 = some m.cls := findClass_of_methodNamed B.named
  have hlocks := B.notSynchronized
  have hS : va_S (ax_A a) s.heap s.heap [] := va_S.rf
  have hl := lv_entry ([.ref (a 2)]) (n := 1) (Nat.le_of_ble_eq_true rfl)
  rw [lg_entry_eq]
  generalize (lg_sl ([.ref (a 2)]) ++ List.replicate (1 - (lg_sl ([.ref (a 2)])).length) Slot.unset).toArray = ls at hl ⊢
  have hl : lv_has ls 1 [(0, .ref (a 2))] := hl
  unfold fX8_freePlaces at hF
  refine lv_aload_n hx hb dX8_freePlaces_0 rfl (lv_at hl 0 rfl) ?_
  refine gx_vol_disk hx hb hts hown hK hP fl_X8_9 dX8_freePlaces_1 ?_
  refine gx_disk_places hx hb hts hown hK hP fl_X8_28 dX8_freePlaces_4 ?_
  refine lv_aload_n hx hb dX8_freePlaces_7 rfl (lv_at hl 0 rfl) ?_
  refine gx_vol_head hx hb hts hown hK hP fl_X8_65 dX8_freePlaces_8 ?_
  refine lv_aload_n hx hb dX8_freePlaces_11 rfl (lv_at hl 0 rfl) ?_
  refine gx_vol_tail hx hb hts hown hK hP fl_X8_68 dX8_freePlaces_12 ?_
  refine lv_isub hx hb dX8_freePlaces_15 ?_
  refine lv_isub hx hb dX8_freePlaces_16 ?_
  exact sx_reti (Wd := (ax_W a cI L)) (σ := u) hx hb hr hF hP hS hlocks dX8_freePlaces_17
set_option maxHeartbeats 4000000 in
set_option maxRecDepth 100000 in
theorem kt_X2_spend {N : Nat} {l : Launch} {D : va_G} {a : Nat → Nat} {cI : Nat → ClassId} {L : Nat → Nat} (hD : ∀ σ, va_D (ax_A a) (ax_W a cI L σ))  {u σ0 : q_St} {r0 : Int32} (hF : fX2_spend L N u = some (r0, σ0)) : Met l yX2_spend (Cond.code yX2_spend cX2_spend 1 (some .boolean) :: q_T) ({ frames := 0, cells := 0, slots := 0, locals := 0 } : Room) (q_P D vwCl (ax_T cI) (ax_W a cI L) [.ref (a 1)] u) (q_Qi D vwCl (ax_W a cI L) (ax_A a) r0 σ0) 0 0 (ax_A a) := by
  refine Met.ofW (cc := cX2_spend) (maxL := 1) (ret := (some .boolean)) (by decide) rfl ?_
  intro p e s m args below meth c s₁ B hml hv
  obtain ⟨rfl, hP, hK⟩ := hv
  have hx := B.exec
  have hb := B.bytes
  have hr := B.returns
  have hts := q_ts (atoms_spec (ws := Cond.code yX2_spend cX2_spend 1 (some .boolean) :: q_T) B.pre)
  have hown : s.vm.findClass RX2 = some m.cls := findClass_of_methodNamed B.named
  have hlocks := B.notSynchronized
  have hS : va_S (ax_A a) s.heap s.heap [] := va_S.rf
  have hl := lv_entry ([.ref (a 1)]) (n := 1) (Nat.le_of_ble_eq_true rfl)
  rw [lg_entry_eq]
  generalize (lg_sl ([.ref (a 1)]) ++ List.replicate (1 - (lg_sl ([.ref (a 1)])).length) Slot.unset).toArray = ls at hl ⊢
  have hl : lv_has ls 1 [(0, .ref (a 1))] := hl
  unfold fX2_spend at hF
  refine lv_aload_n hx hb dX2_spend_0 rfl (lv_at hl 0 rfl) ?_
  refine gx_disk_cut hx hb hts hown hK hP fl_X2_51 dX2_spend_1 ?_
  refine sx_if_ne (tgt := 19) hx hb hF dX2_spend_4 (by decide) (fun hF => ?_) (fun hF => ?_)
  · refine lv_aload_n hx hb dX2_spend_19 rfl (lv_at hl 0 rfl) ?_
    refine gx_disk_cut hx hb hts hown hK hP fl_X2_51 dX2_spend_20 ?_
    refine sx_if_le (tgt := 36) hx hb hF dX2_spend_23 (by decide) (fun hF => ?_) (fun hF => ?_)
    · refine lv_iconst (v := 1) hx hb dX2_spend_36 (by decide) ?_
      exact sx_retz (Wd := (ax_W a cI L)) (σ := u) hx hb hr (by decide) hF hP hS hlocks dX2_spend_37
    · refine lv_aload_n hx hb dX2_spend_26 rfl (lv_at hl 0 rfl) ?_
      refine lv_dup hx hb dX2_spend_27 rfl ?_
      refine gx_disk_cut hx hb hts hown hK hP fl_X2_51 dX2_spend_28 ?_
      refine lv_iconst (v := 1) hx hb dX2_spend_31 (by decide) ?_
      refine lv_isub hx hb dX2_spend_32 ?_
      refine px_disk_cut hx hb hts hown hK hP fl_X2_51 hD hS hF dX2_spend_33 (fun u1 H locs hF hP hS => ?_)
      refine lv_iconst (v := 1) hx hb dX2_spend_36 (by decide) ?_
      exact sx_retz (Wd := (ax_W a cI L)) (σ := u1) hx hb hr (by decide) hF hP hS hlocks dX2_spend_37
  · refine lv_aload_n hx hb dX2_spend_7 rfl (lv_at hl 0 rfl) ?_
    refine lv_iconst (v := (-1)) hx hb dX2_spend_8 (by decide) ?_
    refine px_disk_cut hx hb hts hown hK hP fl_X2_51 hD hS hF dX2_spend_9 (fun u2 H locs hF hP hS => ?_)
    refine lv_aload_n hx hb dX2_spend_12 rfl (lv_at hl 0 rfl) ?_
    refine lv_iconst (v := 0) hx hb dX2_spend_13 (by decide) ?_
    refine px_disk_on_0 hx hb hts hown hK hP fl_X2_47 hD hS hF dX2_spend_14 (fun u3 H locs hF hP hS => ?_)
    refine lv_iconst (v := 0) hx hb dX2_spend_17 (by decide) ?_
    exact sx_retz (Wd := (ax_W a cI L)) (σ := u3) hx hb hr (by decide) hF hP hS hlocks dX2_spend_18
set_option maxHeartbeats 4000000 in
set_option maxRecDepth 100000 in
theorem kt_X2_writeEntry_22 {N : Nat} {l : Launch} {D : va_G} {a : Nat → Nat} {cI : Nat → ClassId} {L : Nat → Nat} (hD : ∀ σ, va_D (ax_A a) (ax_W a cI L σ)) {o1 : Int32} {o3 : Int32} {u σ0 : q_St} {r0 : Int32} (hF : fX2_writeEntry_22 L N o1 o3 u = some (r0, σ0)) : Met l yX2_writeEntry (Cond.code yX2_writeEntry cX2_writeEntry 4 (some .boolean) :: q_T) ({ frames := 1, cells := 0, slots := 0, locals := 30 } : Room) (q_P D vwCl (ax_T cI) (ax_W a cI L) [.ref (a 1), .int o1, .ref (a 22), .int o3] u) (q_Qi D vwCl (ax_W a cI L) (ax_A a) r0 σ0) 0 0 (ax_A a) := by
  refine Met.ofW (cc := cX2_writeEntry) (maxL := 4) (ret := (some .boolean)) (by decide) rfl ?_
  intro p e s m args below meth c s₁ B hml hv
  obtain ⟨rfl, hP, hK⟩ := hv
  have hx := B.exec
  have hb := B.bytes
  have hr := B.returns
  have hts := q_ts (atoms_spec (ws := Cond.code yX2_writeEntry cX2_writeEntry 4 (some .boolean) :: q_T) B.pre)
  have hown : s.vm.findClass RX2 = some m.cls := findClass_of_methodNamed B.named
  have hlocks := B.notSynchronized
  have hS : va_S (ax_A a) s.heap s.heap [] := va_S.rf
  have hl := lv_entry ([.ref (a 1), .int o1, .ref (a 22), .int o3]) (n := 4) (Nat.le_of_ble_eq_true rfl)
  rw [lg_entry_eq]
  generalize (lg_sl ([.ref (a 1), .int o1, .ref (a 22), .int o3]) ++ List.replicate (4 - (lg_sl ([.ref (a 1), .int o1, .ref (a 22), .int o3])).length) Slot.unset).toArray = ls at hl ⊢
  have hl : lv_has ls 4 [(0, .ref (a 1)), (1, .int o1), (2, .ref (a 22)), (3, .int o3)] := hl
  unfold fX2_writeEntry_22 at hF
  refine lv_iload_n hx hb dX2_writeEntry_0 rfl (lv_at hl 1 rfl) ?_
  refine sx_if_lt (tgt := 32) hx hb hF dX2_writeEntry_1 (by decide) (fun hF => ?_) (fun hF => ?_)
  · refine lv_iconst (v := 0) hx hb dX2_writeEntry_32 (by decide) ?_
    exact sx_retz (Wd := (ax_W a cI L)) (σ := u) hx hb hr (by decide) hF hP hS hlocks dX2_writeEntry_33
  · refine lv_iload_n hx hb dX2_writeEntry_4 rfl (lv_at hl 1 rfl) ?_
    refine lv_aload_n hx hb dX2_writeEntry_5 rfl (lv_at hl 0 rfl) ?_
    refine gx_disk_places hx hb hts hown hK hP fl_X2_36 dX2_writeEntry_6 ?_
    refine sx_icmp_ge (tgt := 32) hx hb hF dX2_writeEntry_9 (by decide) (fun hF => ?_) (fun hF => ?_)
    · refine lv_iconst (v := 0) hx hb dX2_writeEntry_32 (by decide) ?_
      exact sx_retz (Wd := (ax_W a cI L)) (σ := u) hx hb hr (by decide) hF hP hS hlocks dX2_writeEntry_33
    · refine lv_iload_n hx hb dX2_writeEntry_12 rfl (lv_at hl 3 rfl) ?_
      refine sx_if_lt (tgt := 32) hx hb hF dX2_writeEntry_13 (by decide) (fun hF => ?_) (fun hF => ?_)
      · refine lv_iconst (v := 0) hx hb dX2_writeEntry_32 (by decide) ?_
        exact sx_retz (Wd := (ax_W a cI L)) (σ := u) hx hb hr (by decide) hF hP hS hlocks dX2_writeEntry_33
      · refine lv_iload_n hx hb dX2_writeEntry_16 rfl (lv_at hl 3 rfl) ?_
        refine lv_aload_n hx hb dX2_writeEntry_17 rfl (lv_at hl 2 rfl) ?_
        refine nx_store_page hx hb hK hP dX2_writeEntry_18 ?_
        refine lv_bipush (v := 8) hx hb dX2_writeEntry_19 (by decide) ?_
        refine lv_isub hx hb dX2_writeEntry_21 ?_
        refine sx_icmp_gt (tgt := 32) hx hb hF dX2_writeEntry_22 (by decide) (fun hF => ?_) (fun hF => ?_)
        · refine lv_iconst (v := 0) hx hb dX2_writeEntry_32 (by decide) ?_
          exact sx_retz (Wd := (ax_W a cI L)) (σ := u) hx hb hr (by decide) hF hP hS hlocks dX2_writeEntry_33
        · refine lv_aload_n hx hb dX2_writeEntry_25 rfl (lv_at hl 0 rfl) ?_
          obtain ⟨r1, u2, hc3, hF⟩ := q_bnd_some hF
          refine sx_ci (Wd := (ax_W a cI L)) (σ1 := u2) (q_runV (Wd := (ax_W a cI L)) (σ := u) (q0 := 1) (ci := 2) (T := TX2) (N := 15) (As := []) (rest := []) hx hb hml hown hts hK hP (kt_X2_spend hD hc3) cw_X2_68 rfl rfl ⟨Nat.le_of_ble_eq_true rfl, Nat.le_of_ble_eq_true rfl⟩ rfl rfl rfl hl.1 rfl (Nat.le_of_ble_eq_true rfl) dX2_writeEntry_26) hS (fun H locs hP hS => ?_)
          refine sx_if_ne (tgt := 34) hx hb hF dX2_writeEntry_29 (by decide) (fun hF => ?_) (fun hF => ?_)
          · refine lv_aload_n hx hb dX2_writeEntry_34 rfl (lv_at hl 2 rfl) ?_
            refine lv_iload_n hx hb dX2_writeEntry_35 rfl (lv_at hl 3 rfl) ?_
            refine lv_aload_n hx hb dX2_writeEntry_36 rfl (lv_at hl 0 rfl) ?_
            refine gx_disk_cells hx hb hts hown hK hP fl_X2_39 dX2_writeEntry_37 ?_
            refine lv_aload_n hx hb dX2_writeEntry_40 rfl (lv_at hl 0 rfl) ?_
            refine gx_disk_sectors hx hb hts hown hK hP fl_X2_33 dX2_writeEntry_41 ?_
            refine lv_aload_n hx hb dX2_writeEntry_44 rfl (lv_at hl 0 rfl) ?_
            refine gx_disk_bandSize hx hb hts hown hK hP fl_X2_30 dX2_writeEntry_45 ?_
            refine lv_iadd hx hb dX2_writeEntry_48 ?_
            refine lv_iload_n hx hb dX2_writeEntry_49 rfl (lv_at hl 1 rfl) ?_
            refine lv_iadd hx hb dX2_writeEntry_50 ?_
            refine lv_bipush (v := 8) hx hb dX2_writeEntry_51 (by decide) ?_
            refine lv_imul hx hb dX2_writeEntry_53 ?_
            refine lv_bipush (v := 8) hx hb dX2_writeEntry_54 (by decide) ?_
            obtain ⟨⟨hs1, hs2, hs3, hs4, hs5⟩, hF⟩ := q_cp_some hF
            refine va_copyl hx hb (hml.trans hl.1.symm) hown (hts _ lw_X2_72) (hts _ lb_cp_n) (hts _ lb_cp_s) (hts _ lb_sys) hK hP (hD u2) hS 22 12 10 0 (ty := .long) rfl rfl rfl rfl rfl hs1 hs2 hs3 hs4 hs5 (fun _ _ => rfl) (Nat.le_of_ble_eq_true rfl) (Nat.le_of_ble_eq_true rfl) dX2_writeEntry_56 (fun H locs hP _ hS => ?_)
            have hP : va_P D vwCl (ax_W a cI L (q_sj u2 0 (va_cpy (q_j u2 3) (q_j u2 0) (Int32.toNatClampNeg o3) (Int32.toNatClampNeg ((((q_i u2 5) + (q_i u2 4)) + o1) * 8)) (Int32.toNatClampNeg 8)))) H := hP
            obtain ⟨u4, hu1⟩ : ∃ q, q = (q_sj u2 0 (va_cpy (q_j u2 3) (q_j u2 0) (Int32.toNatClampNeg o3) (Int32.toNatClampNeg ((((q_i u2 5) + (q_i u2 4)) + o1) * 8)) (Int32.toNatClampNeg 8))) := ⟨_, rfl⟩
            rw [← hu1] at hP hF
            refine lv_aload_n hx hb dX2_writeEntry_59 rfl (lv_at hl 0 rfl) ?_
            refine lv_dup hx hb dX2_writeEntry_60 rfl ?_
            refine gx_disk_entryWrites hx hb hts hown hK hP fl_X2_56 dX2_writeEntry_61 ?_
            refine lv_iconst (v := 1) hx hb dX2_writeEntry_64 (by decide) ?_
            refine lv_iadd hx hb dX2_writeEntry_65 ?_
            refine px_disk_entryWrites hx hb hts hown hK hP fl_X2_56 hD hS hF dX2_writeEntry_66 (fun u5 H locs hF hP hS => ?_)
            refine lv_iconst (v := 1) hx hb dX2_writeEntry_69 (by decide) ?_
            exact sx_retz (Wd := (ax_W a cI L)) (σ := u5) hx hb hr (by decide) hF hP hS hlocks dX2_writeEntry_70
          · refine lv_iconst (v := 0) hx hb dX2_writeEntry_32 (by decide) ?_
            exact sx_retz (Wd := (ax_W a cI L)) (σ := u2) hx hb hr (by decide) hF hP hS hlocks dX2_writeEntry_33
set_option maxHeartbeats 4000000 in
set_option maxRecDepth 100000 in
theorem kt_X8_isLive {N : Nat} {l : Launch} {D : va_G} {a : Nat → Nat} {cI : Nat → ClassId} {L : Nat → Nat} (hD : ∀ σ, va_D (ax_A a) (ax_W a cI L σ)) {o1 : Int32} {u σ0 : q_St} {r0 : Int32} (hF : fX8_isLive L N o1 u = some (r0, σ0)) : Met l yX8_isLive (Cond.code yX8_isLive cX8_isLive 5 (some .boolean) :: q_T) ({ frames := 0, cells := 0, slots := 0, locals := 0 } : Room) (q_P D vwCl (ax_T cI) (ax_W a cI L) [.ref (a 2), .int o1] u) (q_Qi D vwCl (ax_W a cI L) (ax_A a) r0 σ0) 0 0 (ax_A a) := by
  refine Met.ofW (cc := cX8_isLive) (maxL := 5) (ret := (some .boolean)) (by decide) rfl ?_
  intro p e s m args below meth c s₁ B hml hv
  obtain ⟨rfl, hP, hK⟩ := hv
  have hx := B.exec
  have hb := B.bytes
  have hr := B.returns
  have hts := q_ts (atoms_spec (ws := Cond.code yX8_isLive cX8_isLive 5 (some .boolean) :: q_T) B.pre)
  have hown : s.vm.findClass RX8 = some m.cls := findClass_of_methodNamed B.named
  have hlocks := B.notSynchronized
  have hS : va_S (ax_A a) s.heap s.heap [] := va_S.rf
  have hl := lv_entry ([.ref (a 2), .int o1]) (n := 5) (Nat.le_of_ble_eq_true rfl)
  rw [lg_entry_eq]
  generalize (lg_sl ([.ref (a 2), .int o1]) ++ List.replicate (5 - (lg_sl ([.ref (a 2), .int o1])).length) Slot.unset).toArray = ls at hl ⊢
  have hl : lv_has ls 5 [(0, .ref (a 2)), (1, .int o1)] := hl
  have hB33 : ∀ (x1 : Int32) (y0 : Int32) (u : q_St) (ls : Array Slot), lv_has ls 5 [(0, .ref (a 2)), (1, .int x1)] → fX8_isLive_b33 L N x1 y0 u = some (r0, σ0) → ∀ (H : Heap) (locs : List Loc), va_P D vwCl (ax_W a cI L u) H → va_S (ax_A a) s.heap H locs → W p l e (headSpec (Cond.code yX8_isLive cX8_isLive 5 (some .boolean) :: q_T) ({ frames := 0, cells := 0, slots := 0, locals := 0 } : Room)).room s m ([.ref (a 2), .int o1] : List Value).toArray below meth c H locs 0 0 (MQ below (q_Qi D vwCl (ax_W a cI L) (ax_A a) r0 σ0) ([.ref (a 2), .int o1] : List Value).toArray s 0 0 (ax_A a)) (F0 m 33 ls [.int y0]) := by
    intro x1 y0 u ls hl hF _ _ hP hS
    unfold fX8_isLive_b33 at hF
    refine lv_istore_n (lv' := [(3, .int y0), (0, .ref (a 2)), (1, .int x1)]) hx hb dX8_isLive_33 rfl hl (by decide) rfl (fun ls hl => ?_)
    refine lv_iload_n hx hb dX8_isLive_34 rfl (lv_at hl 0 rfl) ?_
    refine lv_aload_n hx hb dX8_isLive_35 rfl (lv_at hl 1 rfl) ?_
    refine gx_vol_disk hx hb hts hown hK hP fl_X8_9 dX8_isLive_36 ?_
    refine gx_disk_bandSize hx hb hts hown hK hP fl_X8_71 dX8_isLive_39 ?_
    refine sx_idiv hx hb hF dX8_isLive_42 (fun hF => ?_)
    refine sx_istore (lv2 := [(3, .int y0), (0, .ref (a 2)), (1, .int x1)]) hx hb hF dX8_isLive_43 hl (by decide) rfl (fun v2 hF ls hl => ?_)
    refine lv_iload_n hx hb dX8_isLive_45 rfl (lv_at hl 1 rfl) ?_
    refine sx_if_lt (tgt := 93) hx hb hF dX8_isLive_46 (by decide) (fun hF => ?_) (fun hF => ?_)
    · refine lv_iconst (v := 0) hx hb dX8_isLive_93 (by decide) ?_
      exact sx_retz (Wd := (ax_W a cI L)) (σ := u) hx hb hr (by decide) hF hP hS hlocks dX8_isLive_94
    · refine lv_iload_n hx hb dX8_isLive_49 rfl (lv_at hl 1 rfl) ?_
      refine lv_aload_n hx hb dX8_isLive_50 rfl (lv_at hl 2 rfl) ?_
      refine gx_vol_latest hx hb hts hown hK hP fl_X8_37 dX8_isLive_51 ?_
      refine nx_vol_latest hx hb hK hP dX8_isLive_54 ?_
      refine sx_icmp_ge (tgt := 93) hx hb hF dX8_isLive_55 (by decide) (fun hF => ?_) (fun hF => ?_)
      · refine lv_iconst (v := 0) hx hb dX8_isLive_93 (by decide) ?_
        exact sx_retz (Wd := (ax_W a cI L)) (σ := u) hx hb hr (by decide) hF hP hS hlocks dX8_isLive_94
      · refine lv_iload hx hb dX8_isLive_58 (lv_at hl 0 rfl) ?_
        refine lv_aload_n hx hb dX8_isLive_60 rfl (lv_at hl 2 rfl) ?_
        refine gx_vol_marks hx hb hts hown hK hP fl_X8_21 dX8_isLive_61 ?_
        refine nx_vol_marks hx hb hK hP dX8_isLive_64 ?_
        refine sx_icmp_ge (tgt := 93) hx hb hF dX8_isLive_65 (by decide) (fun hF => ?_) (fun hF => ?_)
        · refine lv_iconst (v := 0) hx hb dX8_isLive_93 (by decide) ?_
          exact sx_retz (Wd := (ax_W a cI L)) (σ := u) hx hb hr (by decide) hF hP hS hlocks dX8_isLive_94
        · refine lv_aload_n hx hb dX8_isLive_68 rfl (lv_at hl 2 rfl) ?_
          refine gx_vol_latest hx hb hts hown hK hP fl_X8_37 dX8_isLive_69 ?_
          refine lv_iload_n hx hb dX8_isLive_72 rfl (lv_at hl 1 rfl) ?_
          refine lx_vol_latest hx hb hK hP hF dX8_isLive_73 (fun v3 hF => ?_)
          refine lv_iload_n hx hb dX8_isLive_74 rfl (lv_at hl 3 rfl) ?_
          refine sx_icmp_ne (tgt := 93) hx hb hF dX8_isLive_75 (by decide) (fun hF => ?_) (fun hF => ?_)
          · refine lv_iconst (v := 0) hx hb dX8_isLive_93 (by decide) ?_
            exact sx_retz (Wd := (ax_W a cI L)) (σ := u) hx hb hr (by decide) hF hP hS hlocks dX8_isLive_94
          · refine lv_iload_n hx hb dX8_isLive_78 rfl (lv_at hl 3 rfl) ?_
            refine lv_aload_n hx hb dX8_isLive_79 rfl (lv_at hl 2 rfl) ?_
            refine gx_vol_marks hx hb hts hown hK hP fl_X8_21 dX8_isLive_80 ?_
            refine lv_iload hx hb dX8_isLive_83 (lv_at hl 0 rfl) ?_
            refine lx_vol_marks hx hb hK hP hF dX8_isLive_85 (fun v4 hF => ?_)
            refine sx_icmp_lt (tgt := 93) hx hb hF dX8_isLive_86 (by decide) (fun hF => ?_) (fun hF => ?_)
            · refine lv_iconst (v := 0) hx hb dX8_isLive_93 (by decide) ?_
              exact sx_retz (Wd := (ax_W a cI L)) (σ := u) hx hb hr (by decide) hF hP hS hlocks dX8_isLive_94
            · refine lv_iconst (v := 1) hx hb dX8_isLive_89 (by decide) ?_
              refine lv_goto (tgt := 94) hx hb dX8_isLive_90 (by decide) ?_
              exact sx_retz (Wd := (ax_W a cI L)) (σ := u) hx hb hr (by decide) hF hP hS hlocks dX8_isLive_94
  have hB32 : ∀ (x1 : Int32) (u : q_St) (ls : Array Slot), lv_has ls 5 [(0, .ref (a 2)), (1, .int x1)] → fX8_isLive_b32 L N x1 u = some (r0, σ0) → ∀ (H : Heap) (locs : List Loc), va_P D vwCl (ax_W a cI L u) H → va_S (ax_A a) s.heap H locs → W p l e (headSpec (Cond.code yX8_isLive cX8_isLive 5 (some .boolean) :: q_T) ({ frames := 0, cells := 0, slots := 0, locals := 0 } : Room)).room s m ([.ref (a 2), .int o1] : List Value).toArray below meth c H locs 0 0 (MQ below (q_Qi D vwCl (ax_W a cI L) (ax_A a) r0 σ0) ([.ref (a 2), .int o1] : List Value).toArray s 0 0 (ax_A a)) (F0 m 32 ls []) := by
    intro x1 u ls hl hF _ _ hP hS
    unfold fX8_isLive_b32 at hF
    refine lv_iconst (v := (-1)) hx hb dX8_isLive_32 (by decide) ?_
    exact hB33 x1 (-1) u ls (lv_sub hl [0, 1] rfl) hF _ _ hP hS
  unfold fX8_isLive at hF
  refine lv_iload_n hx hb dX8_isLive_0 rfl (lv_at hl 1 rfl) ?_
  refine lv_aload_n hx hb dX8_isLive_1 rfl (lv_at hl 0 rfl) ?_
  refine gx_vol_disk hx hb hts hown hK hP fl_X8_9 dX8_isLive_2 ?_
  refine gx_disk_places hx hb hts hown hK hP fl_X8_28 dX8_isLive_5 ?_
  refine sx_irem hx hb hF dX8_isLive_8 (fun hF => ?_)
  refine sx_istore_n (lv2 := [(0, .ref (a 2)), (1, .int o1)]) hx hb hF dX8_isLive_9 rfl hl (by decide) rfl (fun v1 hF ls hl => ?_)
  refine lv_iload_n hx hb dX8_isLive_10 rfl (lv_at hl 0 rfl) ?_
  refine sx_if_lt (tgt := 32) hx hb hF dX8_isLive_11 (by decide) (fun hF => ?_) (fun hF => ?_)
  · exact hB32 o1 u ls (lv_sub hl [1, 2] rfl) hF _ _ hP hS
  · refine lv_iload_n hx hb dX8_isLive_14 rfl (lv_at hl 0 rfl) ?_
    refine lv_aload_n hx hb dX8_isLive_15 rfl (lv_at hl 1 rfl) ?_
    refine gx_vol_holds hx hb hts hown hK hP fl_X8_31 dX8_isLive_16 ?_
    refine nx_vol_holds hx hb hK hP dX8_isLive_19 ?_
    refine sx_icmp_ge (tgt := 32) hx hb hF dX8_isLive_20 (by decide) (fun hF => ?_) (fun hF => ?_)
    · exact hB32 o1 u ls (lv_sub hl [1, 2] rfl) hF _ _ hP hS
    · refine lv_aload_n hx hb dX8_isLive_23 rfl (lv_at hl 1 rfl) ?_
      refine gx_vol_holds hx hb hts hown hK hP fl_X8_31 dX8_isLive_24 ?_
      refine lv_iload_n hx hb dX8_isLive_27 rfl (lv_at hl 0 rfl) ?_
      refine lx_vol_holds hx hb hK hP hF dX8_isLive_28 (fun v5 hF => ?_)
      refine lv_goto (tgt := 33) hx hb dX8_isLive_29 (by decide) ?_
      exact hB33 o1 v5 u ls (lv_sub hl [1, 2] rfl) hF _ _ hP hS
set_option maxHeartbeats 4000000 in
set_option maxRecDepth 100000 in
theorem kt_X8_oldest {N : Nat} {l : Launch} {D : va_G} {a : Nat → Nat} {cI : Nat → ClassId} {L : Nat → Nat} (hD : ∀ σ, va_D (ax_A a) (ax_W a cI L σ))  {u σ0 : q_St} {r0 : Int32} (hF : fX8_oldest L N u = some (r0, σ0)) : Met l yX8_oldest (Cond.code yX8_oldest cX8_oldest 2 (some .int) :: q_T) ({ frames := 1, cells := 0, slots := 0, locals := 24 } : Room) (q_P D vwCl (ax_T cI) (ax_W a cI L) [.ref (a 2)] u) (q_Qi D vwCl (ax_W a cI L) (ax_A a) r0 σ0) 0 0 (ax_A a) := by
  refine Met.ofW (cc := cX8_oldest) (maxL := 2) (ret := (some .int)) (by decide) rfl ?_
  intro p e s m args below meth c s₁ B hml hv
  obtain ⟨rfl, hP, hK⟩ := hv
  have hx := B.exec
  have hb := B.bytes
  have hr := B.returns
  have hts := q_ts (atoms_spec (ws := Cond.code yX8_oldest cX8_oldest 2 (some .int) :: q_T) B.pre)
  have hown : s.vm.findClass RX8 = some m.cls := findClass_of_methodNamed B.named
  have hlocks := B.notSynchronized
  have hS : va_S (ax_A a) s.heap s.heap [] := va_S.rf
  have hl := lv_entry ([.ref (a 2)]) (n := 2) (Nat.le_of_ble_eq_true rfl)
  rw [lg_entry_eq]
  generalize (lg_sl ([.ref (a 2)]) ++ List.replicate (2 - (lg_sl ([.ref (a 2)])).length) Slot.unset).toArray = ls at hl ⊢
  have hl : lv_has ls 2 [(0, .ref (a 2))] := hl
  have hB5 : ∀ (n : Nat) (x1 : Int32) (u : q_St) (ls : Array Slot), lv_has ls 2 [(0, .ref (a 2)), (1, .int x1)] → q_lp (fX8_oldest_b5 L N) (fun _ _ => none) n x1 u = some (r0, σ0) → ∀ (H : Heap) (locs : List Loc), va_P D vwCl (ax_W a cI L u) H → va_S (ax_A a) s.heap H locs → W p l e (headSpec (Cond.code yX8_oldest cX8_oldest 2 (some .int) :: q_T) ({ frames := 1, cells := 0, slots := 0, locals := 24 } : Room)).room s m ([.ref (a 2)] : List Value).toArray below meth c H locs 0 0 (MQ below (q_Qi D vwCl (ax_W a cI L) (ax_A a) r0 σ0) ([.ref (a 2)] : List Value).toArray s 0 0 (ax_A a)) (F0 m 5 ls []) := by
    intro n
    induction n with
    | zero => intro x1 u ls hl hF; exact absurd (show (none : Option (Int32 × q_St)) = some _ from hF) (fun h => nomatch h)
    | succ n hi5 =>
      intro x1 u ls hl hF _ _ hP hS
      obtain ⟨ih5, hih⟩ : ∃ q, q = q_lp (fX8_oldest_b5 L N) (fun _ _ => none) n := ⟨_, rfl⟩
      rw [← hih] at hi5
      have hF : fX8_oldest_b5 L N (q_lp (fX8_oldest_b5 L N) (fun _ _ => none) n) x1 u = some (r0, σ0) := hF
      rw [← hih] at hF
      clear hih
      unfold fX8_oldest_b5 at hF
      refine lv_iload_n hx hb dX8_oldest_5 rfl (lv_at hl 1 rfl) ?_
      refine lv_aload_n hx hb dX8_oldest_6 rfl (lv_at hl 0 rfl) ?_
      refine gx_vol_head hx hb hts hown hK hP fl_X8_65 dX8_oldest_7 ?_
      refine sx_icmp_ge (tgt := 29) hx hb hF dX8_oldest_10 (by decide) (fun hF => ?_) (fun hF => ?_)
      · refine lv_aload_n hx hb dX8_oldest_29 rfl (lv_at hl 0 rfl) ?_
        refine gx_vol_head hx hb hts hown hK hP fl_X8_65 dX8_oldest_30 ?_
        exact sx_reti (Wd := (ax_W a cI L)) (σ := u) hx hb hr hF hP hS hlocks dX8_oldest_33
      · refine lv_aload_n hx hb dX8_oldest_13 rfl (lv_at hl 0 rfl) ?_
        refine lv_iload_n hx hb dX8_oldest_14 rfl (lv_at hl 1 rfl) ?_
        obtain ⟨r2, u3, hc4, hF⟩ := q_bnd_some hF
        refine sx_ci (Wd := (ax_W a cI L)) (σ1 := u3) (q_runV (Wd := (ax_W a cI L)) (σ := u) (q0 := 2) (ci := 8) (T := TX8) (N := 15) (As := [.int x1]) (rest := []) hx hb hml hown hts hK hP (kt_X8_isLive hD hc4) cw_X8_74 rfl rfl ⟨Nat.le_of_ble_eq_true rfl, Nat.le_of_ble_eq_true rfl⟩ rfl rfl rfl hl.1 rfl (Nat.le_of_ble_eq_true rfl) dX8_oldest_15) hS (fun H locs hP hS => ?_)
        refine sx_if_eq (tgt := 23) hx hb hF dX8_oldest_18 (by decide) (fun hF => ?_) (fun hF => ?_)
        · refine sx_iinc (d := 1) (k := 1) (lv2 := [(0, .ref (a 2))]) hx hb hF dX8_oldest_23 hl rfl (by decide) (by decide) rfl (fun v5 hF ls hl => ?_)
          refine lv_goto (tgt := 5) hx hb dX8_oldest_26 (by decide) ?_
          exact hi5 v5 u3 ls (lv_sub hl [1, 0] rfl) hF _ _ hP hS
        · refine lv_iload_n hx hb dX8_oldest_21 rfl (lv_at hl 1 rfl) ?_
          exact sx_reti (Wd := (ax_W a cI L)) (σ := u3) hx hb hr hF hP hS hlocks dX8_oldest_22
  unfold fX8_oldest at hF
  refine lv_aload_n hx hb dX8_oldest_0 rfl (lv_at hl 0 rfl) ?_
  refine gx_vol_tail hx hb hts hown hK hP fl_X8_68 dX8_oldest_1 ?_
  refine sx_istore_n (lv2 := [(0, .ref (a 2))]) hx hb hF dX8_oldest_4 rfl hl (by decide) rfl (fun v1 hF ls hl => ?_)
  exact hB5 N v1 u ls (lv_sub hl [1, 0] rfl) hF _ _ hP hS
set_option maxHeartbeats 4000000 in
set_option maxRecDepth 100000 in
theorem kt_X8_nextKind {N : Nat} {l : Launch} {D : va_G} {a : Nat → Nat} {cI : Nat → ClassId} {L : Nat → Nat} (hD : ∀ σ, va_D (ax_A a) (ax_W a cI L σ))  {u σ0 : q_St} {r0 : Int32} (hF : fX8_nextKind L N u = some (r0, σ0)) : Met l yX8_nextKind (Cond.code yX8_nextKind cX8_nextKind 2 (some .int) :: q_T) ({ frames := 2, cells := 0, slots := 0, locals := 45 } : Room) (q_P D vwCl (ax_T cI) (ax_W a cI L) [.ref (a 2)] u) (q_Qi D vwCl (ax_W a cI L) (ax_A a) r0 σ0) 0 0 (ax_A a) := by
  refine Met.ofW (cc := cX8_nextKind) (maxL := 2) (ret := (some .int)) (by decide) rfl ?_
  intro p e s m args below meth c s₁ B hml hv
  obtain ⟨rfl, hP, hK⟩ := hv
  have hx := B.exec
  have hb := B.bytes
  have hr := B.returns
  have hts := q_ts (atoms_spec (ws := Cond.code yX8_nextKind cX8_nextKind 2 (some .int) :: q_T) B.pre)
  have hown : s.vm.findClass RX8 = some m.cls := findClass_of_methodNamed B.named
  have hlocks := B.notSynchronized
  have hS : va_S (ax_A a) s.heap s.heap [] := va_S.rf
  have hl := lv_entry ([.ref (a 2)]) (n := 2) (Nat.le_of_ble_eq_true rfl)
  rw [lg_entry_eq]
  generalize (lg_sl ([.ref (a 2)]) ++ List.replicate (2 - (lg_sl ([.ref (a 2)])).length) Slot.unset).toArray = ls at hl ⊢
  have hl : lv_has ls 2 [(0, .ref (a 2))] := hl
  unfold fX8_nextKind at hF
  refine lv_aload_n hx hb dX8_nextKind_0 rfl (lv_at hl 0 rfl) ?_
  refine gx_vol_cleanBand hx hb hts hown hK hP fl_X8_59 dX8_nextKind_1 ?_
  refine lv_iconst (v := (-1)) hx hb dX8_nextKind_4 (by decide) ?_
  refine sx_icmp_ne (tgt := 47) hx hb hF dX8_nextKind_5 (by decide) (fun hF => ?_) (fun hF => ?_)
  · refine lv_aload_n hx hb dX8_nextKind_47 rfl (lv_at hl 0 rfl) ?_
    refine gx_vol_track hx hb hts hown hK hP fl_X8_103 dX8_nextKind_48 ?_
    refine lv_aload_n hx hb dX8_nextKind_51 rfl (lv_at hl 0 rfl) ?_
    refine gx_vol_disk hx hb hts hown hK hP fl_X8_9 dX8_nextKind_52 ?_
    refine gx_disk_tracks hx hb hts hown hK hP fl_X8_106 dX8_nextKind_55 ?_
    refine sx_icmp_ge (tgt := 74) hx hb hF dX8_nextKind_58 (by decide) (fun hF => ?_) (fun hF => ?_)
    · refine lv_aload_n hx hb dX8_nextKind_74 rfl (lv_at hl 0 rfl) ?_
      refine gx_vol_safe hx hb hts hown hK hP fl_X8_82 dX8_nextKind_75 ?_
      refine sx_if_eq (tgt := 86) hx hb hF dX8_nextKind_78 (by decide) (fun hF => ?_) (fun hF => ?_)
      · refine lv_iconst (v := 4) hx hb dX8_nextKind_86 (by decide) ?_
        exact sx_reti (Wd := (ax_W a cI L)) (σ := u) hx hb hr hF hP hS hlocks dX8_nextKind_87
      · refine lv_bipush (v := 6) hx hb dX8_nextKind_81 (by decide) ?_
        refine lv_goto (tgt := 87) hx hb dX8_nextKind_83 (by decide) ?_
        exact sx_reti (Wd := (ax_W a cI L)) (σ := u) hx hb hr hF hP hS hlocks dX8_nextKind_87
    · refine lv_aload_n hx hb dX8_nextKind_61 rfl (lv_at hl 0 rfl) ?_
      refine gx_vol_safe hx hb hts hown hK hP fl_X8_82 dX8_nextKind_62 ?_
      refine sx_if_eq (tgt := 72) hx hb hF dX8_nextKind_65 (by decide) (fun hF => ?_) (fun hF => ?_)
      · refine lv_iconst (v := 3) hx hb dX8_nextKind_72 (by decide) ?_
        exact sx_reti (Wd := (ax_W a cI L)) (σ := u) hx hb hr hF hP hS hlocks dX8_nextKind_73
      · refine lv_iconst (v := 5) hx hb dX8_nextKind_68 (by decide) ?_
        refine lv_goto (tgt := 73) hx hb dX8_nextKind_69 (by decide) ?_
        exact sx_reti (Wd := (ax_W a cI L)) (σ := u) hx hb hr hF hP hS hlocks dX8_nextKind_73
  · refine lv_aload_n hx hb dX8_nextKind_8 rfl (lv_at hl 0 rfl) ?_
    obtain ⟨r1, u2, hc3, hF⟩ := q_bnd_some hF
    refine sx_ci (Wd := (ax_W a cI L)) (σ1 := u2) (q_runV (Wd := (ax_W a cI L)) (σ := u) (q0 := 2) (ci := 8) (T := TX8) (N := 15) (As := []) (rest := []) hx hb hml hown hts hK hP (kt_X8_oldest hD hc3) cw_X8_100 rfl rfl ⟨Nat.le_of_ble_eq_true rfl, Nat.le_of_ble_eq_true rfl⟩ rfl rfl rfl hl.1 rfl (Nat.le_of_ble_eq_true rfl) dX8_nextKind_9) hS (fun H locs hP hS => ?_)
    refine lv_istore_n (lv' := [(1, .int r1), (0, .ref (a 2))]) hx hb dX8_nextKind_12 rfl hl (by decide) rfl (fun ls hl => ?_)
    refine lv_iload_n hx hb dX8_nextKind_13 rfl (lv_at hl 0 rfl) ?_
    refine lv_aload_n hx hb dX8_nextKind_14 rfl (lv_at hl 1 rfl) ?_
    refine gx_vol_tail hx hb hts hown hK hP fl_X8_68 dX8_nextKind_15 ?_
    refine lv_isub hx hb dX8_nextKind_18 ?_
    refine lv_aload_n hx hb dX8_nextKind_19 rfl (lv_at hl 1 rfl) ?_
    refine gx_vol_disk hx hb hts hown hK hP fl_X8_9 dX8_nextKind_20 ?_
    refine gx_disk_places hx hb hts hown hK hP fl_X8_28 dX8_nextKind_23 ?_
    refine lv_iconst (v := 4) hx hb dX8_nextKind_26 (by decide) ?_
    refine lv_idiv hx hb dX8_nextKind_27 (by decide) ?_
    refine sx_icmp_lt (tgt := 33) hx hb hF dX8_nextKind_28 (by decide) (fun hF => ?_) (fun hF => ?_)
    · refine lv_iload_n hx hb dX8_nextKind_33 rfl (lv_at hl 0 rfl) ?_
      refine lv_aload_n hx hb dX8_nextKind_34 rfl (lv_at hl 1 rfl) ?_
      refine gx_vol_head hx hb hts hown hK hP fl_X8_65 dX8_nextKind_35 ?_
      refine sx_icmp_ne (tgt := 45) hx hb hF dX8_nextKind_38 (by decide) (fun hF => ?_) (fun hF => ?_)
      · refine lv_iconst (v := 2) hx hb dX8_nextKind_45 (by decide) ?_
        exact sx_reti (Wd := (ax_W a cI L)) (σ := u2) hx hb hr hF hP hS hlocks dX8_nextKind_46
      · refine lv_iconst (v := 0) hx hb dX8_nextKind_41 (by decide) ?_
        refine lv_goto (tgt := 46) hx hb dX8_nextKind_42 (by decide) ?_
        exact sx_reti (Wd := (ax_W a cI L)) (σ := u2) hx hb hr hF hP hS hlocks dX8_nextKind_46
    · refine lv_iconst (v := 1) hx hb dX8_nextKind_31 (by decide) ?_
      exact sx_reti (Wd := (ax_W a cI L)) (σ := u2) hx hb hr hF hP hS hlocks dX8_nextKind_32
set_option maxHeartbeats 4000000 in
set_option maxRecDepth 100000 in
theorem kt_X2_writeRecord {N : Nat} {l : Launch} {D : va_G} {a : Nat → Nat} {cI : Nat → ClassId} {L : Nat → Nat} (hD : ∀ σ, va_D (ax_A a) (ax_W a cI L σ))  {u σ0 : q_St} {r0 : Int32} (hF : fX2_writeRecord L N u = some (r0, σ0)) : Met l yX2_writeRecord (Cond.code yX2_writeRecord cX2_writeRecord 2 (some .boolean) :: q_T) ({ frames := 1, cells := 0, slots := 0, locals := 20 } : Room) (q_P D vwCl (ax_T cI) (ax_W a cI L) [.ref (a 1)] u) (q_Qi D vwCl (ax_W a cI L) (ax_A a) r0 σ0) 0 0 (ax_A a) := by
  refine Met.ofW (cc := cX2_writeRecord) (maxL := 2) (ret := (some .boolean)) (by decide) rfl ?_
  intro p e s m args below meth c s₁ B hml hv
  obtain ⟨rfl, hP, hK⟩ := hv
  have hx := B.exec
  have hb := B.bytes
  have hr := B.returns
  have hts := q_ts (atoms_spec (ws := Cond.code yX2_writeRecord cX2_writeRecord 2 (some .boolean) :: q_T) B.pre)
  have hown : s.vm.findClass RX2 = some m.cls := findClass_of_methodNamed B.named
  have hlocks := B.notSynchronized
  have hS : va_S (ax_A a) s.heap s.heap [] := va_S.rf
  have hl := lv_entry ([.ref (a 1)]) (n := 2) (Nat.le_of_ble_eq_true rfl)
  rw [lg_entry_eq]
  generalize (lg_sl ([.ref (a 1)]) ++ List.replicate (2 - (lg_sl ([.ref (a 1)])).length) Slot.unset).toArray = ls at hl ⊢
  have hl : lv_has ls 2 [(0, .ref (a 1))] := hl
  unfold fX2_writeRecord at hF
  refine lv_aload_n hx hb dX2_writeRecord_0 rfl (lv_at hl 0 rfl) ?_
  obtain ⟨r1, u2, hc3, hF⟩ := q_bnd_some hF
  refine sx_ci (Wd := (ax_W a cI L)) (σ1 := u2) (q_runV (Wd := (ax_W a cI L)) (σ := u) (q0 := 1) (ci := 2) (T := TX2) (N := 15) (As := []) (rest := []) hx hb hml hown hts hK hP (kt_X2_spend hD hc3) cw_X2_68 rfl rfl ⟨Nat.le_of_ble_eq_true rfl, Nat.le_of_ble_eq_true rfl⟩ rfl rfl rfl hl.1 rfl (Nat.le_of_ble_eq_true rfl) dX2_writeRecord_1) hS (fun H locs hP hS => ?_)
  refine lv_istore_n (lv' := [(1, .int r1), (0, .ref (a 1))]) hx hb dX2_writeRecord_4 rfl hl (by decide) rfl (fun ls hl => ?_)
  refine lv_iload_n hx hb dX2_writeRecord_5 rfl (lv_at hl 0 rfl) ?_
  refine sx_if_eq (tgt := 19) hx hb hF dX2_writeRecord_6 (by decide) (fun hF => ?_) (fun hF => ?_)
  · refine lv_iload_n hx hb dX2_writeRecord_19 rfl (lv_at hl 0 rfl) ?_
    exact sx_retzv (Wd := (ax_W a cI L)) (σ := u2) hx hb hr hF hP hS hlocks dX2_writeRecord_20
  · refine lv_aload_n hx hb dX2_writeRecord_9 rfl (lv_at hl 1 rfl) ?_
    refine lv_dup hx hb dX2_writeRecord_10 rfl ?_
    refine gx_disk_recordWrites hx hb hts hown hK hP fl_X2_65 dX2_writeRecord_11 ?_
    refine lv_iconst (v := 1) hx hb dX2_writeRecord_14 (by decide) ?_
    refine lv_iadd hx hb dX2_writeRecord_15 ?_
    refine px_disk_recordWrites hx hb hts hown hK hP fl_X2_65 hD hS hF dX2_writeRecord_16 (fun u4 H locs hF hP hS => ?_)
    refine lv_iload_n hx hb dX2_writeRecord_19 rfl (lv_at hl 0 rfl) ?_
    exact sx_retzv (Wd := (ax_W a cI L)) (σ := u4) hx hb hr hF hP hS hlocks dX2_writeRecord_20
set_option maxHeartbeats 4000000 in
set_option maxRecDepth 100000 in
theorem kt_X8_trim {N : Nat} {l : Launch} {D : va_G} {a : Nat → Nat} {cI : Nat → ClassId} {L : Nat → Nat} (hD : ∀ σ, va_D (ax_A a) (ax_W a cI L σ))  {u σ0 : q_St} {r0 : Int32} (hF : fX8_trim L N u = some (r0, σ0)) : Met l yX8_trim (Cond.code yX8_trim cX8_trim 1 (some .boolean) :: q_T) ({ frames := 2, cells := 0, slots := 0, locals := 45 } : Room) (q_P D vwCl (ax_T cI) (ax_W a cI L) [.ref (a 2)] u) (q_Qi D vwCl (ax_W a cI L) (ax_A a) r0 σ0) 0 0 (ax_A a) := by
  refine Met.ofW (cc := cX8_trim) (maxL := 1) (ret := (some .boolean)) (by decide) rfl ?_
  intro p e s m args below meth c s₁ B hml hv
  obtain ⟨rfl, hP, hK⟩ := hv
  have hx := B.exec
  have hb := B.bytes
  have hr := B.returns
  have hts := q_ts (atoms_spec (ws := Cond.code yX8_trim cX8_trim 1 (some .boolean) :: q_T) B.pre)
  have hown : s.vm.findClass RX8 = some m.cls := findClass_of_methodNamed B.named
  have hlocks := B.notSynchronized
  have hS : va_S (ax_A a) s.heap s.heap [] := va_S.rf
  have hl := lv_entry ([.ref (a 2)]) (n := 1) (Nat.le_of_ble_eq_true rfl)
  rw [lg_entry_eq]
  generalize (lg_sl ([.ref (a 2)]) ++ List.replicate (1 - (lg_sl ([.ref (a 2)])).length) Slot.unset).toArray = ls at hl ⊢
  have hl : lv_has ls 1 [(0, .ref (a 2))] := hl
  unfold fX8_trim at hF
  refine lv_aload_n hx hb dX8_trim_0 rfl (lv_at hl 0 rfl) ?_
  refine gx_vol_disk hx hb hts hown hK hP fl_X8_9 dX8_trim_1 ?_
  obtain ⟨r1, u2, hc3, hF⟩ := q_bnd_some hF
  refine sx_ci (Wd := (ax_W a cI L)) (σ1 := u2) (q_runV (Wd := (ax_W a cI L)) (σ := u) (q0 := 1) (ci := 2) (T := TX2) (N := 15) (As := []) (rest := []) hx hb hml hown hts hK hP (kt_X2_writeRecord hD hc3) cw_X8_131 rfl rfl ⟨Nat.le_of_ble_eq_true rfl, Nat.le_of_ble_eq_true rfl⟩ rfl rfl rfl hl.1 rfl (Nat.le_of_ble_eq_true rfl) dX8_trim_4) hS (fun H locs hP hS => ?_)
  refine sx_if_ne (tgt := 12) hx hb hF dX8_trim_7 (by decide) (fun hF => ?_) (fun hF => ?_)
  · refine lv_aload_n hx hb dX8_trim_12 rfl (lv_at hl 0 rfl) ?_
    refine lv_aload_n hx hb dX8_trim_13 rfl (lv_at hl 0 rfl) ?_
    obtain ⟨r4, u5, hc6, hF⟩ := q_bnd_some hF
    refine sx_ci (Wd := (ax_W a cI L)) (σ1 := u5) (q_runV (Wd := (ax_W a cI L)) (σ := u2) (q0 := 2) (ci := 8) (T := TX8) (N := 15) (As := []) (rest := [.ref (a 2)]) hx hb hml hown hts hK hP (kt_X8_oldest hD hc6) cw_X8_100 rfl rfl ⟨Nat.le_of_ble_eq_true rfl, Nat.le_of_ble_eq_true rfl⟩ rfl rfl rfl hl.1 rfl (Nat.le_of_ble_eq_true rfl) dX8_trim_14) hS (fun H locs hP hS => ?_)
    refine px_vol_tail hx hb hts hown hK hP fl_X8_68 hD hS hF dX8_trim_17 (fun u7 H locs hF hP hS => ?_)
    refine lv_iconst (v := 1) hx hb dX8_trim_20 (by decide) ?_
    exact sx_retz (Wd := (ax_W a cI L)) (σ := u7) hx hb hr (by decide) hF hP hS hlocks dX8_trim_21
  · refine lv_iconst (v := 0) hx hb dX8_trim_10 (by decide) ?_
    exact sx_retz (Wd := (ax_W a cI L)) (σ := u2) hx hb hr (by decide) hF hP hS hlocks dX8_trim_11
set_option maxHeartbeats 4000000 in
set_option maxRecDepth 100000 in
theorem kt_J7_fill_17 {N : Nat} {l : Launch} {D : va_G} {a : Nat → Nat} {cI : Nat → ClassId} {L : Nat → Nat} (hD : ∀ σ, va_D (ax_A a) (ax_W a cI L σ)) {o1 : Int32} {u σ0 : q_St} {r0 : Unit} (hF : fJ7_fill_17 L N o1 u = some (r0, σ0)) : Met l yJ7_fill_53178 (Cond.code yJ7_fill_53178 cJ7_fill_53178 4 none :: q_T) ({ frames := 0, cells := 0, slots := 0, locals := 0 } : Room) (q_P D vwCl (ax_T cI) (ax_W a cI L) [.ref (a 17), .int o1] u) (q_Qv D vwCl (ax_W a cI L) (ax_A a) σ0) 0 0 (ax_A a) := by
  refine Met.ofW (cc := cJ7_fill_53178) (maxL := 4) (ret := none) (by decide) rfl ?_
  intro p e s m args below meth c s₁ B hml hv
  obtain ⟨rfl, hP, hK⟩ := hv
  have hx := B.exec
  have hb := B.bytes
  have hr := B.returns
  have hts := q_ts (atoms_spec (ws := Cond.code yJ7_fill_53178 cJ7_fill_53178 4 none :: q_T) B.pre)
  have hown : s.vm.findClass RJ7 = some m.cls := findClass_of_methodNamed B.named
  have hlocks := B.notSynchronized
  have hS : va_S (ax_A a) s.heap s.heap [] := va_S.rf
  have hl := lv_entry ([.ref (a 17), .int o1]) (n := 4) (Nat.le_of_ble_eq_true rfl)
  rw [lg_entry_eq]
  generalize (lg_sl ([.ref (a 17), .int o1]) ++ List.replicate (4 - (lg_sl ([.ref (a 17), .int o1])).length) Slot.unset).toArray = ls at hl ⊢
  have hl : lv_has ls 4 [(0, .ref (a 17)), (1, .int o1)] := hl
  have hB5 : ∀ (n : Nat) (x1 : Int32) (x2 : Int32) (x3 : Int32) (u : q_St) (ls : Array Slot), lv_has ls 4 [(0, .ref (a 17)), (1, .int x1), (2, .int x2), (3, .int x3)] → q_lp (fJ7_fill_17_b5 L N) (fun _ _ _ _ => none) n x1 x2 x3 u = some (r0, σ0) → ∀ (H : Heap) (locs : List Loc), va_P D vwCl (ax_W a cI L u) H → va_S (ax_A a) s.heap H locs → W p l e (headSpec (Cond.code yJ7_fill_53178 cJ7_fill_53178 4 none :: q_T) ({ frames := 0, cells := 0, slots := 0, locals := 0 } : Room)).room s m ([.ref (a 17), .int o1] : List Value).toArray below meth c H locs 0 0 (MQ below (q_Qv D vwCl (ax_W a cI L) (ax_A a) σ0) ([.ref (a 17), .int o1] : List Value).toArray s 0 0 (ax_A a)) (F0 m 5 ls []) := by
    intro n
    induction n with
    | zero => intro x1 x2 x3 u ls hl hF; exact absurd (show (none : Option (Unit × q_St)) = some _ from hF) (fun h => nomatch h)
    | succ n hi5 =>
      intro x1 x2 x3 u ls hl hF _ _ hP hS
      obtain ⟨ih5, hih⟩ : ∃ q, q = q_lp (fJ7_fill_17_b5 L N) (fun _ _ _ _ => none) n := ⟨_, rfl⟩
      rw [← hih] at hi5
      have hF : fJ7_fill_17_b5 L N (q_lp (fJ7_fill_17_b5 L N) (fun _ _ _ _ => none) n) x1 x2 x3 u = some (r0, σ0) := hF
      rw [← hih] at hF
      clear hih
      unfold fJ7_fill_17_b5 at hF
      refine lv_iload_n hx hb dJ7_fill_53178_5 rfl (lv_at hl 2 rfl) ?_
      refine lv_iload_n hx hb dJ7_fill_53178_6 rfl (lv_at hl 3 rfl) ?_
      refine sx_icmp_ge (tgt := 20) hx hb hF dJ7_fill_53178_7 (by decide) (fun hF => ?_) (fun hF => ?_)
      · exact sx_retv (Wd := (ax_W a cI L)) (σ := u) hx hb hr hF hP hS hlocks dJ7_fill_53178_20
      · refine lv_aload_n hx hb dJ7_fill_53178_10 rfl (lv_at hl 0 rfl) ?_
        refine lv_iload_n hx hb dJ7_fill_53178_11 rfl (lv_at hl 2 rfl) ?_
        refine lv_iload_n hx hb dJ7_fill_53178_12 rfl (lv_at hl 1 rfl) ?_
        refine ux_vol_tally hx hb hK hP hD hS hF dJ7_fill_53178_13 (fun u2 H locs hF hP hS => ?_)
        refine sx_iinc (d := 1) (k := 2) (lv2 := [(0, .ref (a 17)), (1, .int x1), (3, .int x3)]) hx hb hF dJ7_fill_53178_14 hl rfl (by decide) (by decide) rfl (fun v3 hF ls hl => ?_)
        refine lv_goto (tgt := 5) hx hb dJ7_fill_53178_17 (by decide) ?_
        exact hi5 x1 v3 x3 u2 ls (lv_sub hl [1, 2, 0, 3] rfl) hF _ _ hP hS
  unfold fJ7_fill_17 at hF
  refine lv_iconst (v := 0) hx hb dJ7_fill_53178_0 (by decide) ?_
  refine lv_istore_n (lv' := [(2, .int 0), (0, .ref (a 17)), (1, .int o1)]) hx hb dJ7_fill_53178_1 rfl hl (by decide) rfl (fun ls hl => ?_)
  refine lv_aload_n hx hb dJ7_fill_53178_2 rfl (lv_at hl 1 rfl) ?_
  refine nx_vol_tally hx hb hK hP dJ7_fill_53178_3 ?_
  refine sx_istore_n (lv2 := [(2, .int 0), (0, .ref (a 17)), (1, .int o1)]) hx hb hF dJ7_fill_53178_4 rfl hl (by decide) rfl (fun v1 hF ls hl => ?_)
  exact hB5 N o1 0 v1 u ls (lv_sub hl [2, 3, 1, 0] rfl) hF _ _ hP hS
set_option maxHeartbeats 4000000 in
set_option maxRecDepth 100000 in
theorem kt_X8_pick {N : Nat} {l : Launch} {D : va_G} {a : Nat → Nat} {cI : Nat → ClassId} {L : Nat → Nat} (hD : ∀ σ, va_D (ax_A a) (ax_W a cI L σ))  {u σ0 : q_St} {r0 : Int32} (hF : fX8_pick L N u = some (r0, σ0)) : Met l yX8_pick (Cond.code yX8_pick cX8_pick 4 (some .boolean) :: q_T) ({ frames := 2, cells := 0, slots := 0, locals := 41 } : Room) (q_P D vwCl (ax_T cI) (ax_W a cI L) [.ref (a 2)] u) (q_Qi D vwCl (ax_W a cI L) (ax_A a) r0 σ0) 0 0 (ax_A a) := by
  refine Met.ofW (cc := cX8_pick) (maxL := 4) (ret := (some .boolean)) (by decide) rfl ?_
  intro p e s m args below meth c s₁ B hml hv
  obtain ⟨rfl, hP, hK⟩ := hv
  have hx := B.exec
  have hb := B.bytes
  have hr := B.returns
  have hts := q_ts (atoms_spec (ws := Cond.code yX8_pick cX8_pick 4 (some .boolean) :: q_T) B.pre)
  have hown : s.vm.findClass RX8 = some m.cls := findClass_of_methodNamed B.named
  have hlocks := B.notSynchronized
  have hS : va_S (ax_A a) s.heap s.heap [] := va_S.rf
  have hl := lv_entry ([.ref (a 2)]) (n := 4) (Nat.le_of_ble_eq_true rfl)
  rw [lg_entry_eq]
  generalize (lg_sl ([.ref (a 2)]) ++ List.replicate (4 - (lg_sl ([.ref (a 2)])).length) Slot.unset).toArray = ls at hl ⊢
  have hl : lv_has ls 4 [(0, .ref (a 2))] := hl
  have hB142 : ∀ (ih116 : Int32 → Int32 → q_St → Option (Int32 × q_St)) (hi116 : ∀ (x1 : Int32) (x2 : Int32) (u : q_St) (ls : Array Slot), lv_has ls 4 [(0, .ref (a 2)), (1, .int x1), (2, .int x2)] → ih116 x1 x2 u = some (r0, σ0) → ∀ (H : Heap) (locs : List Loc), va_P D vwCl (ax_W a cI L u) H → va_S (ax_A a) s.heap H locs → W p l e (headSpec (Cond.code yX8_pick cX8_pick 4 (some .boolean) :: q_T) ({ frames := 2, cells := 0, slots := 0, locals := 41 } : Room)).room s m ([.ref (a 2)] : List Value).toArray below meth c H locs 0 0 (MQ below (q_Qi D vwCl (ax_W a cI L) (ax_A a) r0 σ0) ([.ref (a 2)] : List Value).toArray s 0 0 (ax_A a)) (F0 m 116 ls [])), ∀ (x1 : Int32) (x2 : Int32) (u : q_St) (ls : Array Slot), lv_has ls 4 [(0, .ref (a 2)), (1, .int x1), (2, .int x2)] → fX8_pick_b142 L N ih116 x1 x2 u = some (r0, σ0) → ∀ (H : Heap) (locs : List Loc), va_P D vwCl (ax_W a cI L u) H → va_S (ax_A a) s.heap H locs → W p l e (headSpec (Cond.code yX8_pick cX8_pick 4 (some .boolean) :: q_T) ({ frames := 2, cells := 0, slots := 0, locals := 41 } : Room)).room s m ([.ref (a 2)] : List Value).toArray below meth c H locs 0 0 (MQ below (q_Qi D vwCl (ax_W a cI L) (ax_A a) r0 σ0) ([.ref (a 2)] : List Value).toArray s 0 0 (ax_A a)) (F0 m 142 ls []) := by
    intro ih116 hi116 x1 x2 u ls hl hF _ _ hP hS
    unfold fX8_pick_b142 at hF
    refine sx_iinc (d := 1) (k := 2) (lv2 := [(0, .ref (a 2)), (1, .int x1)]) hx hb hF dX8_pick_142 hl rfl (by decide) (by decide) rfl (fun v13 hF ls hl => ?_)
    refine lv_goto (tgt := 116) hx hb dX8_pick_145 (by decide) ?_
    exact hi116 x1 v13 u ls (lv_sub hl [1, 2, 0] rfl) hF _ _ hP hS
  have hB116 : ∀ (n : Nat) (x1 : Int32) (x2 : Int32) (u : q_St) (ls : Array Slot), lv_has ls 4 [(0, .ref (a 2)), (1, .int x1), (2, .int x2)] → q_lp (fX8_pick_b116 L N) (fun _ _ _ => none) n x1 x2 u = some (r0, σ0) → ∀ (H : Heap) (locs : List Loc), va_P D vwCl (ax_W a cI L u) H → va_S (ax_A a) s.heap H locs → W p l e (headSpec (Cond.code yX8_pick cX8_pick 4 (some .boolean) :: q_T) ({ frames := 2, cells := 0, slots := 0, locals := 41 } : Room)).room s m ([.ref (a 2)] : List Value).toArray below meth c H locs 0 0 (MQ below (q_Qi D vwCl (ax_W a cI L) (ax_A a) r0 σ0) ([.ref (a 2)] : List Value).toArray s 0 0 (ax_A a)) (F0 m 116 ls []) := by
    intro n
    induction n with
    | zero => intro x1 x2 u ls hl hF; exact absurd (show (none : Option (Int32 × q_St)) = some _ from hF) (fun h => nomatch h)
    | succ n hi116 =>
      intro x1 x2 u ls hl hF _ _ hP hS
      obtain ⟨ih116, hih⟩ : ∃ q, q = q_lp (fX8_pick_b116 L N) (fun _ _ _ => none) n := ⟨_, rfl⟩
      rw [← hih] at hi116
      have hF : fX8_pick_b116 L N (q_lp (fX8_pick_b116 L N) (fun _ _ _ => none) n) x1 x2 u = some (r0, σ0) := hF
      rw [← hih] at hF
      clear hih
      unfold fX8_pick_b116 at hF
      refine lv_iload_n hx hb dX8_pick_116 rfl (lv_at hl 2 rfl) ?_
      refine lv_aload_n hx hb dX8_pick_117 rfl (lv_at hl 0 rfl) ?_
      refine gx_vol_tally hx hb hts hown hK hP fl_X8_25 dX8_pick_118 ?_
      refine nx_vol_tally hx hb hK hP dX8_pick_121 ?_
      refine sx_icmp_ge (tgt := 148) hx hb hF dX8_pick_122 (by decide) (fun hF => ?_) (fun hF => ?_)
      · refine lv_aload_n hx hb dX8_pick_148 rfl (lv_at hl 0 rfl) ?_
        refine lv_iload_n hx hb dX8_pick_149 rfl (lv_at hl 1 rfl) ?_
        refine px_vol_cleanBand hx hb hts hown hK hP fl_X8_59 hD hS hF dX8_pick_150 (fun u8 H locs hF hP hS => ?_)
        refine lv_aload_n hx hb dX8_pick_153 rfl (lv_at hl 0 rfl) ?_
        refine lv_aload_n hx hb dX8_pick_154 rfl (lv_at hl 0 rfl) ?_
        refine gx_vol_head hx hb hts hown hK hP fl_X8_65 dX8_pick_155 ?_
        refine px_vol_limit hx hb hts hown hK hP fl_X8_134 hD hS hF dX8_pick_158 (fun u9 H locs hF hP hS => ?_)
        refine lv_aload_n hx hb dX8_pick_161 rfl (lv_at hl 0 rfl) ?_
        refine lv_iconst (v := 0) hx hb dX8_pick_162 (by decide) ?_
        refine px_vol_track hx hb hts hown hK hP fl_X8_103 hD hS hF dX8_pick_163 (fun u10 H locs hF hP hS => ?_)
        refine lv_iconst (v := 1) hx hb dX8_pick_166 (by decide) ?_
        exact sx_retz (Wd := (ax_W a cI L)) (σ := u10) hx hb hr (by decide) hF hP hS hlocks dX8_pick_167
      · refine lv_aload_n hx hb dX8_pick_125 rfl (lv_at hl 0 rfl) ?_
        refine gx_vol_tally hx hb hts hown hK hP fl_X8_25 dX8_pick_126 ?_
        refine lv_iload_n hx hb dX8_pick_129 rfl (lv_at hl 2 rfl) ?_
        refine lx_vol_tally hx hb hK hP hF dX8_pick_130 (fun v11 hF => ?_)
        refine lv_aload_n hx hb dX8_pick_131 rfl (lv_at hl 0 rfl) ?_
        refine gx_vol_tally hx hb hts hown hK hP fl_X8_25 dX8_pick_132 ?_
        refine lv_iload_n hx hb dX8_pick_135 rfl (lv_at hl 1 rfl) ?_
        refine lx_vol_tally hx hb hK hP hF dX8_pick_136 (fun v12 hF => ?_)
        refine sx_icmp_le (tgt := 142) hx hb hF dX8_pick_137 (by decide) (fun hF => ?_) (fun hF => ?_)
        · exact hB142 ih116 hi116 x1 x2 u ls (lv_sub hl [0, 1, 2] rfl) hF _ _ hP hS
        · refine lv_iload_n hx hb dX8_pick_140 rfl (lv_at hl 2 rfl) ?_
          refine lv_istore_n (lv' := [(1, .int x2), (0, .ref (a 2)), (2, .int x2)]) hx hb dX8_pick_141 rfl hl (by decide) rfl (fun ls hl => ?_)
          exact hB142 ih116 hi116 x2 x2 u ls (lv_sub hl [1, 0, 2] rfl) hF _ _ hP hS
  have hB106 : ∀ (ih25 : Int32 → q_St → Option (Int32 × q_St)) (hi25 : ∀ (x1 : Int32) (u : q_St) (ls : Array Slot), lv_has ls 4 [(0, .ref (a 2)), (1, .int x1)] → ih25 x1 u = some (r0, σ0) → ∀ (H : Heap) (locs : List Loc), va_P D vwCl (ax_W a cI L u) H → va_S (ax_A a) s.heap H locs → W p l e (headSpec (Cond.code yX8_pick cX8_pick 4 (some .boolean) :: q_T) ({ frames := 2, cells := 0, slots := 0, locals := 41 } : Room)).room s m ([.ref (a 2)] : List Value).toArray below meth c H locs 0 0 (MQ below (q_Qi D vwCl (ax_W a cI L) (ax_A a) r0 σ0) ([.ref (a 2)] : List Value).toArray s 0 0 (ax_A a)) (F0 m 25 ls [])), ∀ (x1 : Int32) (u : q_St) (ls : Array Slot), lv_has ls 4 [(0, .ref (a 2)), (1, .int x1)] → fX8_pick_b106 L N ih25 x1 u = some (r0, σ0) → ∀ (H : Heap) (locs : List Loc), va_P D vwCl (ax_W a cI L u) H → va_S (ax_A a) s.heap H locs → W p l e (headSpec (Cond.code yX8_pick cX8_pick 4 (some .boolean) :: q_T) ({ frames := 2, cells := 0, slots := 0, locals := 41 } : Room)).room s m ([.ref (a 2)] : List Value).toArray below meth c H locs 0 0 (MQ below (q_Qi D vwCl (ax_W a cI L) (ax_A a) r0 σ0) ([.ref (a 2)] : List Value).toArray s 0 0 (ax_A a)) (F0 m 106 ls []) := by
    intro ih25 hi25 x1 u ls hl hF _ _ hP hS
    unfold fX8_pick_b106 at hF
    refine sx_iinc (d := 1) (k := 1) (lv2 := [(0, .ref (a 2))]) hx hb hF dX8_pick_106 hl rfl (by decide) (by decide) rfl (fun v15 hF ls hl => ?_)
    refine lv_goto (tgt := 25) hx hb dX8_pick_109 (by decide) ?_
    exact hi25 v15 u ls (lv_sub hl [1, 0] rfl) hF _ _ hP hS
  have hB74 : ∀ (ih25 : Int32 → q_St → Option (Int32 × q_St)) (hi25 : ∀ (x1 : Int32) (u : q_St) (ls : Array Slot), lv_has ls 4 [(0, .ref (a 2)), (1, .int x1)] → ih25 x1 u = some (r0, σ0) → ∀ (H : Heap) (locs : List Loc), va_P D vwCl (ax_W a cI L u) H → va_S (ax_A a) s.heap H locs → W p l e (headSpec (Cond.code yX8_pick cX8_pick 4 (some .boolean) :: q_T) ({ frames := 2, cells := 0, slots := 0, locals := 41 } : Room)).room s m ([.ref (a 2)] : List Value).toArray below meth c H locs 0 0 (MQ below (q_Qi D vwCl (ax_W a cI L) (ax_A a) r0 σ0) ([.ref (a 2)] : List Value).toArray s 0 0 (ax_A a)) (F0 m 25 ls [])), ∀ (x1 : Int32) (y0 : Int32) (u : q_St) (ls : Array Slot), lv_has ls 4 [(0, .ref (a 2)), (1, .int x1)] → fX8_pick_b74 L N ih25 x1 y0 u = some (r0, σ0) → ∀ (H : Heap) (locs : List Loc), va_P D vwCl (ax_W a cI L u) H → va_S (ax_A a) s.heap H locs → W p l e (headSpec (Cond.code yX8_pick cX8_pick 4 (some .boolean) :: q_T) ({ frames := 2, cells := 0, slots := 0, locals := 41 } : Room)).room s m ([.ref (a 2)] : List Value).toArray below meth c H locs 0 0 (MQ below (q_Qi D vwCl (ax_W a cI L) (ax_A a) r0 σ0) ([.ref (a 2)] : List Value).toArray s 0 0 (ax_A a)) (F0 m 74 ls [.int y0]) := by
    intro ih25 hi25 x1 y0 u ls hl hF _ _ hP hS
    unfold fX8_pick_b74 at hF
    refine lv_istore_n (lv' := [(3, .int y0), (0, .ref (a 2)), (1, .int x1)]) hx hb dX8_pick_74 rfl hl (by decide) rfl (fun ls hl => ?_)
    refine lv_iload_n hx hb dX8_pick_75 rfl (lv_at hl 0 rfl) ?_
    refine sx_if_lt (tgt := 106) hx hb hF dX8_pick_76 (by decide) (fun hF => ?_) (fun hF => ?_)
    · exact hB106 ih25 hi25 x1 u ls (lv_sub hl [1, 2] rfl) hF _ _ hP hS
    · refine lv_iload_n hx hb dX8_pick_79 rfl (lv_at hl 0 rfl) ?_
      refine lv_aload_n hx hb dX8_pick_80 rfl (lv_at hl 1 rfl) ?_
      refine gx_vol_tally hx hb hts hown hK hP fl_X8_25 dX8_pick_81 ?_
      refine nx_vol_tally hx hb hK hP dX8_pick_84 ?_
      refine sx_icmp_ge (tgt := 106) hx hb hF dX8_pick_85 (by decide) (fun hF => ?_) (fun hF => ?_)
      · exact hB106 ih25 hi25 x1 u ls (lv_sub hl [1, 2] rfl) hF _ _ hP hS
      · refine lv_aload_n hx hb dX8_pick_88 rfl (lv_at hl 1 rfl) ?_
        refine lv_iload_n hx hb dX8_pick_89 rfl (lv_at hl 2 rfl) ?_
        obtain ⟨r16, u17, hc18, hF⟩ := q_bnd_some hF
        refine sx_ci (Wd := (ax_W a cI L)) (σ1 := u17) (q_runV (Wd := (ax_W a cI L)) (σ := u) (q0 := 2) (ci := 8) (T := TX8) (N := 15) (As := [.int x1]) (rest := []) hx hb hml hown hts hK hP (kt_X8_isLive hD hc18) cw_X8_74 rfl rfl ⟨Nat.le_of_ble_eq_true rfl, Nat.le_of_ble_eq_true rfl⟩ rfl rfl rfl hl.1 rfl (Nat.le_of_ble_eq_true rfl) dX8_pick_90) hS (fun H locs hP hS => ?_)
        refine sx_if_eq (tgt := 106) hx hb hF dX8_pick_93 (by decide) (fun hF => ?_) (fun hF => ?_)
        · exact hB106 ih25 hi25 x1 u17 ls (lv_sub hl [1, 2] rfl) hF _ _ hP hS
        · refine lv_aload_n hx hb dX8_pick_96 rfl (lv_at hl 1 rfl) ?_
          refine gx_vol_tally hx hb hts hown hK hP fl_X8_25 dX8_pick_97 ?_
          refine lv_iload_n hx hb dX8_pick_100 rfl (lv_at hl 0 rfl) ?_
          refine lv_dup2_11 hx hb dX8_pick_101 rfl rfl ?_
          refine lx_vol_tally hx hb hK hP hF dX8_pick_102 (fun v19 hF => ?_)
          refine lv_iconst (v := 1) hx hb dX8_pick_103 (by decide) ?_
          refine lv_iadd hx hb dX8_pick_104 ?_
          refine ux_vol_tally hx hb hK hP hD hS hF dX8_pick_105 (fun u20 H locs hF hP hS => ?_)
          exact hB106 ih25 hi25 x1 u20 ls (lv_sub hl [1, 2] rfl) hF _ _ hP hS
  have hB73 : ∀ (ih25 : Int32 → q_St → Option (Int32 × q_St)) (hi25 : ∀ (x1 : Int32) (u : q_St) (ls : Array Slot), lv_has ls 4 [(0, .ref (a 2)), (1, .int x1)] → ih25 x1 u = some (r0, σ0) → ∀ (H : Heap) (locs : List Loc), va_P D vwCl (ax_W a cI L u) H → va_S (ax_A a) s.heap H locs → W p l e (headSpec (Cond.code yX8_pick cX8_pick 4 (some .boolean) :: q_T) ({ frames := 2, cells := 0, slots := 0, locals := 41 } : Room)).room s m ([.ref (a 2)] : List Value).toArray below meth c H locs 0 0 (MQ below (q_Qi D vwCl (ax_W a cI L) (ax_A a) r0 σ0) ([.ref (a 2)] : List Value).toArray s 0 0 (ax_A a)) (F0 m 25 ls [])), ∀ (x1 : Int32) (u : q_St) (ls : Array Slot), lv_has ls 4 [(0, .ref (a 2)), (1, .int x1)] → fX8_pick_b73 L N ih25 x1 u = some (r0, σ0) → ∀ (H : Heap) (locs : List Loc), va_P D vwCl (ax_W a cI L u) H → va_S (ax_A a) s.heap H locs → W p l e (headSpec (Cond.code yX8_pick cX8_pick 4 (some .boolean) :: q_T) ({ frames := 2, cells := 0, slots := 0, locals := 41 } : Room)).room s m ([.ref (a 2)] : List Value).toArray below meth c H locs 0 0 (MQ below (q_Qi D vwCl (ax_W a cI L) (ax_A a) r0 σ0) ([.ref (a 2)] : List Value).toArray s 0 0 (ax_A a)) (F0 m 73 ls []) := by
    intro ih25 hi25 x1 u ls hl hF _ _ hP hS
    unfold fX8_pick_b73 at hF
    refine lv_iconst (v := (-1)) hx hb dX8_pick_73 (by decide) ?_
    exact hB74 ih25 hi25 x1 (-1) u ls (lv_sub hl [0, 1] rfl) hF _ _ hP hS
  have hB25 : ∀ (n : Nat) (x1 : Int32) (u : q_St) (ls : Array Slot), lv_has ls 4 [(0, .ref (a 2)), (1, .int x1)] → q_lp (fX8_pick_b25 L N) (fun _ _ => none) n x1 u = some (r0, σ0) → ∀ (H : Heap) (locs : List Loc), va_P D vwCl (ax_W a cI L u) H → va_S (ax_A a) s.heap H locs → W p l e (headSpec (Cond.code yX8_pick cX8_pick 4 (some .boolean) :: q_T) ({ frames := 2, cells := 0, slots := 0, locals := 41 } : Room)).room s m ([.ref (a 2)] : List Value).toArray below meth c H locs 0 0 (MQ below (q_Qi D vwCl (ax_W a cI L) (ax_A a) r0 σ0) ([.ref (a 2)] : List Value).toArray s 0 0 (ax_A a)) (F0 m 25 ls []) := by
    intro n
    induction n with
    | zero => intro x1 u ls hl hF; exact absurd (show (none : Option (Int32 × q_St)) = some _ from hF) (fun h => nomatch h)
    | succ n hi25 =>
      intro x1 u ls hl hF _ _ hP hS
      obtain ⟨ih25, hih⟩ : ∃ q, q = q_lp (fX8_pick_b25 L N) (fun _ _ => none) n := ⟨_, rfl⟩
      rw [← hih] at hi25
      have hF : fX8_pick_b25 L N (q_lp (fX8_pick_b25 L N) (fun _ _ => none) n) x1 u = some (r0, σ0) := hF
      rw [← hih] at hF
      clear hih
      unfold fX8_pick_b25 at hF
      refine lv_iload_n hx hb dX8_pick_25 rfl (lv_at hl 1 rfl) ?_
      refine lv_aload_n hx hb dX8_pick_26 rfl (lv_at hl 0 rfl) ?_
      refine gx_vol_head hx hb hts hown hK hP fl_X8_65 dX8_pick_27 ?_
      refine sx_icmp_ge (tgt := 112) hx hb hF dX8_pick_30 (by decide) (fun hF => ?_) (fun hF => ?_)
      · refine lv_iconst (v := 0) hx hb dX8_pick_112 (by decide) ?_
        refine lv_istore_n (lv' := [(1, .int 0), (0, .ref (a 2))]) hx hb dX8_pick_113 rfl hl (by decide) rfl (fun ls hl => ?_)
        refine lv_iconst (v := 1) hx hb dX8_pick_114 (by decide) ?_
        refine lv_istore_n (lv' := [(2, .int 1), (1, .int 0), (0, .ref (a 2))]) hx hb dX8_pick_115 rfl hl (by decide) rfl (fun ls hl => ?_)
        exact hB116 N 0 1 u ls (lv_sub hl [2, 1, 0] rfl) hF _ _ hP hS
      · refine lv_iload_n hx hb dX8_pick_33 rfl (lv_at hl 1 rfl) ?_
        refine lv_aload_n hx hb dX8_pick_34 rfl (lv_at hl 0 rfl) ?_
        refine gx_vol_disk hx hb hts hown hK hP fl_X8_9 dX8_pick_35 ?_
        refine gx_disk_places hx hb hts hown hK hP fl_X8_28 dX8_pick_38 ?_
        refine sx_irem hx hb hF dX8_pick_41 (fun hF => ?_)
        refine sx_istore_n (lv2 := [(0, .ref (a 2)), (1, .int x1)]) hx hb hF dX8_pick_42 rfl hl (by decide) rfl (fun v14 hF ls hl => ?_)
        refine lv_iload_n hx hb dX8_pick_43 rfl (lv_at hl 0 rfl) ?_
        refine sx_if_lt (tgt := 73) hx hb hF dX8_pick_44 (by decide) (fun hF => ?_) (fun hF => ?_)
        · exact hB73 ih25 hi25 x1 u ls (lv_sub hl [1, 2] rfl) hF _ _ hP hS
        · refine lv_iload_n hx hb dX8_pick_47 rfl (lv_at hl 0 rfl) ?_
          refine lv_aload_n hx hb dX8_pick_48 rfl (lv_at hl 1 rfl) ?_
          refine gx_vol_holds hx hb hts hown hK hP fl_X8_31 dX8_pick_49 ?_
          refine nx_vol_holds hx hb hK hP dX8_pick_52 ?_
          refine sx_icmp_ge (tgt := 73) hx hb hF dX8_pick_53 (by decide) (fun hF => ?_) (fun hF => ?_)
          · exact hB73 ih25 hi25 x1 u ls (lv_sub hl [1, 2] rfl) hF _ _ hP hS
          · refine lv_aload_n hx hb dX8_pick_56 rfl (lv_at hl 1 rfl) ?_
            refine gx_vol_holds hx hb hts hown hK hP fl_X8_31 dX8_pick_57 ?_
            refine lv_iload_n hx hb dX8_pick_60 rfl (lv_at hl 0 rfl) ?_
            refine lx_vol_holds hx hb hK hP hF dX8_pick_61 (fun v21 hF => ?_)
            refine lv_aload_n hx hb dX8_pick_62 rfl (lv_at hl 1 rfl) ?_
            refine gx_vol_disk hx hb hts hown hK hP fl_X8_9 dX8_pick_63 ?_
            refine gx_disk_bandSize hx hb hts hown hK hP fl_X8_71 dX8_pick_66 ?_
            refine sx_idiv hx hb hF dX8_pick_69 (fun hF => ?_)
            refine lv_goto (tgt := 74) hx hb dX8_pick_70 (by decide) ?_
            exact hB74 ih25 hi25 x1 (v21 / (q_i u 4)) u ls (lv_sub hl [1, 2] rfl) hF _ _ hP hS
  unfold fX8_pick at hF
  refine lv_aload_n hx hb dX8_pick_0 rfl (lv_at hl 0 rfl) ?_
  refine gx_vol_disk hx hb hts hown hK hP fl_X8_9 dX8_pick_1 ?_
  obtain ⟨r1, u2, hc3, hF⟩ := q_bnd_some hF
  refine sx_ci (Wd := (ax_W a cI L)) (σ1 := u2) (q_runV (Wd := (ax_W a cI L)) (σ := u) (q0 := 1) (ci := 2) (T := TX2) (N := 15) (As := []) (rest := []) hx hb hml hown hts hK hP (kt_X2_writeRecord hD hc3) cw_X8_131 rfl rfl ⟨Nat.le_of_ble_eq_true rfl, Nat.le_of_ble_eq_true rfl⟩ rfl rfl rfl hl.1 rfl (Nat.le_of_ble_eq_true rfl) dX8_pick_4) hS (fun H locs hP hS => ?_)
  refine sx_if_ne (tgt := 12) hx hb hF dX8_pick_7 (by decide) (fun hF => ?_) (fun hF => ?_)
  · refine lv_aload_n hx hb dX8_pick_12 rfl (lv_at hl 0 rfl) ?_
    refine gx_vol_tally hx hb hts hown hK hP fl_X8_25 dX8_pick_13 ?_
    refine lv_iconst (v := 0) hx hb dX8_pick_16 (by decide) ?_
    obtain ⟨r4, u5, hc6, hF⟩ := q_bnd_some hF
    refine sx_cv (Wd := (ax_W a cI L)) (σ1 := u5) (q_runS (Wd := (ax_W a cI L)) (σ := u2) (As := [.ref (a 17), .int 0]) (rest := []) hx hb hml hown hts hK hP (kt_J7_fill_17 hD hc6) cw_X8_53 rfl rfl ⟨Nat.le_of_ble_eq_true rfl, Nat.le_of_ble_eq_true rfl⟩ rfl hl.1 rfl (Nat.le_of_ble_eq_true rfl) dX8_pick_17) hS (fun H locs hP hS => ?_)
    refine lv_aload_n hx hb dX8_pick_20 rfl (lv_at hl 0 rfl) ?_
    refine gx_vol_tail hx hb hts hown hK hP fl_X8_68 dX8_pick_21 ?_
    refine sx_istore_n (lv2 := [(0, .ref (a 2))]) hx hb hF dX8_pick_24 rfl hl (by decide) rfl (fun v7 hF ls hl => ?_)
    exact hB25 N v7 u5 ls (lv_sub hl [1, 0] rfl) hF _ _ hP hS
  · refine lv_iconst (v := 0) hx hb dX8_pick_10 (by decide) ?_
    exact sx_retz (Wd := (ax_W a cI L)) (σ := u2) hx hb hr (by decide) hF hP hS hlocks dX8_pick_11
set_option maxHeartbeats 4000000 in
set_option maxRecDepth 100000 in
theorem kt_X8_spot {N : Nat} {l : Launch} {D : va_G} {a : Nat → Nat} {cI : Nat → ClassId} {L : Nat → Nat} (hD : ∀ σ, va_D (ax_A a) (ax_W a cI L σ)) {o1 : Int32} {u σ0 : q_St} {r0 : Int32} (hF : fX8_spot L N o1 u = some (r0, σ0)) : Met l yX8_spot (Cond.code yX8_spot cX8_spot 5 (some .int) :: q_T) ({ frames := 0, cells := 0, slots := 0, locals := 0 } : Room) (q_P D vwCl (ax_T cI) (ax_W a cI L) [.ref (a 2), .int o1] u) (q_Qi D vwCl (ax_W a cI L) (ax_A a) r0 σ0) 0 0 (ax_A a) := by
  refine Met.ofW (cc := cX8_spot) (maxL := 5) (ret := (some .int)) (by decide) rfl ?_
  intro p e s m args below meth c s₁ B hml hv
  obtain ⟨rfl, hP, hK⟩ := hv
  have hx := B.exec
  have hb := B.bytes
  have hr := B.returns
  have hts := q_ts (atoms_spec (ws := Cond.code yX8_spot cX8_spot 5 (some .int) :: q_T) B.pre)
  have hown : s.vm.findClass RX8 = some m.cls := findClass_of_methodNamed B.named
  have hlocks := B.notSynchronized
  have hS : va_S (ax_A a) s.heap s.heap [] := va_S.rf
  have hl := lv_entry ([.ref (a 2), .int o1]) (n := 5) (Nat.le_of_ble_eq_true rfl)
  rw [lg_entry_eq]
  generalize (lg_sl ([.ref (a 2), .int o1]) ++ List.replicate (5 - (lg_sl ([.ref (a 2), .int o1])).length) Slot.unset).toArray = ls at hl ⊢
  have hl : lv_has ls 5 [(0, .ref (a 2)), (1, .int o1)] := hl
  have hB158 : ∀ (x4 : Int32) (u : q_St) (ls : Array Slot), lv_has ls 5 [(4, .int x4)] → fX8_spot_b158 L N x4 u = some (r0, σ0) → ∀ (H : Heap) (locs : List Loc), va_P D vwCl (ax_W a cI L u) H → va_S (ax_A a) s.heap H locs → W p l e (headSpec (Cond.code yX8_spot cX8_spot 5 (some .int) :: q_T) ({ frames := 0, cells := 0, slots := 0, locals := 0 } : Room)).room s m ([.ref (a 2), .int o1] : List Value).toArray below meth c H locs 0 0 (MQ below (q_Qi D vwCl (ax_W a cI L) (ax_A a) r0 σ0) ([.ref (a 2), .int o1] : List Value).toArray s 0 0 (ax_A a)) (F0 m 158 ls []) := by
    intro x4 u ls hl hF _ _ hP hS
    unfold fX8_spot_b158 at hF
    refine lv_iload hx hb dX8_spot_158 (lv_at hl 0 rfl) ?_
    refine lv_bipush (v := 8) hx hb dX8_spot_160 (by decide) ?_
    refine lv_imul hx hb dX8_spot_162 ?_
    exact sx_reti (Wd := (ax_W a cI L)) (σ := u) hx hb hr hF hP hS hlocks dX8_spot_163
  have hB117 : ∀ (y0 : Int32) (u : q_St) (ls : Array Slot), lv_has ls 5 [(0, .ref (a 2))] → fX8_spot_b117 L N y0 u = some (r0, σ0) → ∀ (H : Heap) (locs : List Loc), va_P D vwCl (ax_W a cI L u) H → va_S (ax_A a) s.heap H locs → W p l e (headSpec (Cond.code yX8_spot cX8_spot 5 (some .int) :: q_T) ({ frames := 0, cells := 0, slots := 0, locals := 0 } : Room)).room s m ([.ref (a 2), .int o1] : List Value).toArray below meth c H locs 0 0 (MQ below (q_Qi D vwCl (ax_W a cI L) (ax_A a) r0 σ0) ([.ref (a 2), .int o1] : List Value).toArray s 0 0 (ax_A a)) (F0 m 117 ls [.int y0]) := by
    intro y0 u ls hl hF _ _ hP hS
    unfold fX8_spot_b117 at hF
    refine lv_istore (lv' := [(4, .int y0), (0, .ref (a 2))]) hx hb dX8_spot_117 hl (by decide) rfl (fun ls hl => ?_)
    refine lv_iload hx hb dX8_spot_119 (lv_at hl 0 rfl) ?_
    refine lv_aload_n hx hb dX8_spot_121 rfl (lv_at hl 1 rfl) ?_
    refine gx_vol_disk hx hb hts hown hK hP fl_X8_9 dX8_spot_122 ?_
    refine gx_disk_lost hx hb hts hown hK hP fl_X8_78 dX8_spot_125 ?_
    refine nx_disk_lost hx hb hK hP dX8_spot_128 ?_
    refine sx_icmp_ge (tgt := 158) hx hb hF dX8_spot_129 (by decide) (fun hF => ?_) (fun hF => ?_)
    · exact hB158 y0 u ls (lv_sub hl [0] rfl) hF _ _ hP hS
    · refine lv_aload_n hx hb dX8_spot_132 rfl (lv_at hl 1 rfl) ?_
      refine gx_vol_disk hx hb hts hown hK hP fl_X8_9 dX8_spot_133 ?_
      refine gx_disk_lost hx hb hts hown hK hP fl_X8_78 dX8_spot_136 ?_
      refine lv_iload hx hb dX8_spot_139 (lv_at hl 0 rfl) ?_
      refine lx_disk_lost hx hb hK hP hF dX8_spot_141 (fun v3 hF => ?_)
      refine sx_if_eq (tgt := 158) hx hb hF dX8_spot_142 (by decide) (fun hF => ?_) (fun hF => ?_)
      · exact hB158 y0 u ls (lv_sub hl [0] rfl) hF _ _ hP hS
      · refine lv_aload_n hx hb dX8_spot_145 rfl (lv_at hl 1 rfl) ?_
        refine gx_vol_disk hx hb hts hown hK hP fl_X8_9 dX8_spot_146 ?_
        refine lv_dup hx hb dX8_spot_149 rfl ?_
        refine gx_disk_misreads hx hb hts hown hK hP fl_X8_86 dX8_spot_150 ?_
        refine lv_iconst (v := 1) hx hb dX8_spot_153 (by decide) ?_
        refine lv_iadd hx hb dX8_spot_154 ?_
        refine px_disk_misreads hx hb hts hown hK hP fl_X8_86 hD hS hF dX8_spot_155 (fun u4 H locs hF hP hS => ?_)
        exact hB158 y0 u4 ls (lv_sub hl [0] rfl) hF _ _ hP hS
  have hB116 : ∀ (x1 : Int32) (u : q_St) (ls : Array Slot), lv_has ls 5 [(0, .ref (a 2)), (1, .int x1)] → fX8_spot_b116 L N x1 u = some (r0, σ0) → ∀ (H : Heap) (locs : List Loc), va_P D vwCl (ax_W a cI L u) H → va_S (ax_A a) s.heap H locs → W p l e (headSpec (Cond.code yX8_spot cX8_spot 5 (some .int) :: q_T) ({ frames := 0, cells := 0, slots := 0, locals := 0 } : Room)).room s m ([.ref (a 2), .int o1] : List Value).toArray below meth c H locs 0 0 (MQ below (q_Qi D vwCl (ax_W a cI L) (ax_A a) r0 σ0) ([.ref (a 2), .int o1] : List Value).toArray s 0 0 (ax_A a)) (F0 m 116 ls []) := by
    intro x1 u ls hl hF _ _ hP hS
    unfold fX8_spot_b116 at hF
    refine lv_iload_n hx hb dX8_spot_116 rfl (lv_at hl 1 rfl) ?_
    exact hB117 x1 u ls (lv_sub hl [0] rfl) hF _ _ hP hS
  have hB81 : ∀ (x1 : Int32) (x2 : Int32) (u : q_St) (ls : Array Slot), lv_has ls 5 [(0, .ref (a 2)), (1, .int x1), (2, .int x2)] → fX8_spot_b81 L N x1 x2 u = some (r0, σ0) → ∀ (H : Heap) (locs : List Loc), va_P D vwCl (ax_W a cI L u) H → va_S (ax_A a) s.heap H locs → W p l e (headSpec (Cond.code yX8_spot cX8_spot 5 (some .int) :: q_T) ({ frames := 0, cells := 0, slots := 0, locals := 0 } : Room)).room s m ([.ref (a 2), .int o1] : List Value).toArray below meth c H locs 0 0 (MQ below (q_Qi D vwCl (ax_W a cI L) (ax_A a) r0 σ0) ([.ref (a 2), .int o1] : List Value).toArray s 0 0 (ax_A a)) (F0 m 81 ls []) := by
    intro x1 x2 u ls hl hF _ _ hP hS
    unfold fX8_spot_b81 at hF
    refine lv_aload_n hx hb dX8_spot_81 rfl (lv_at hl 0 rfl) ?_
    refine gx_vol_safe hx hb hts hown hK hP fl_X8_82 dX8_spot_82 ?_
    refine sx_if_eq (tgt := 116) hx hb hF dX8_spot_85 (by decide) (fun hF => ?_) (fun hF => ?_)
    · exact hB116 x1 u ls (lv_sub hl [0, 1] rfl) hF _ _ hP hS
    · refine lv_iload_n hx hb dX8_spot_88 rfl (lv_at hl 2 rfl) ?_
      refine lv_aload_n hx hb dX8_spot_89 rfl (lv_at hl 0 rfl) ?_
      refine gx_vol_cleanBand hx hb hts hown hK hP fl_X8_59 dX8_spot_90 ?_
      refine sx_icmp_ne (tgt := 116) hx hb hF dX8_spot_93 (by decide) (fun hF => ?_) (fun hF => ?_)
      · exact hB116 x1 u ls (lv_sub hl [0, 1] rfl) hF _ _ hP hS
      · refine lv_aload_n hx hb dX8_spot_96 rfl (lv_at hl 0 rfl) ?_
        refine gx_vol_disk hx hb hts hown hK hP fl_X8_9 dX8_spot_97 ?_
        refine gx_disk_sectors hx hb hts hown hK hP fl_X8_34 dX8_spot_100 ?_
        refine lv_iload_n hx hb dX8_spot_103 rfl (lv_at hl 1 rfl) ?_
        refine lv_aload_n hx hb dX8_spot_104 rfl (lv_at hl 0 rfl) ?_
        refine gx_vol_disk hx hb hts hown hK hP fl_X8_9 dX8_spot_105 ?_
        refine gx_disk_bandSize hx hb hts hown hK hP fl_X8_71 dX8_spot_108 ?_
        refine sx_irem hx hb hF dX8_spot_111 (fun hF => ?_)
        refine lv_iadd hx hb dX8_spot_112 ?_
        refine lv_goto (tgt := 117) hx hb dX8_spot_113 (by decide) ?_
        exact hB117 ((q_i u 5) + (x1 - x1 / (q_i u 4) * (q_i u 4))) u ls (lv_sub hl [0] rfl) hF _ _ hP hS
  unfold fX8_spot at hF
  refine lv_iload_n hx hb dX8_spot_0 rfl (lv_at hl 1 rfl) ?_
  refine sx_if_lt (tgt := 13) hx hb hF dX8_spot_1 (by decide) (fun hF => ?_) (fun hF => ?_)
  · refine lv_iconst (v := 0) hx hb dX8_spot_13 (by decide) ?_
    exact sx_reti (Wd := (ax_W a cI L)) (σ := u) hx hb hr hF hP hS hlocks dX8_spot_14
  · refine lv_iload_n hx hb dX8_spot_4 rfl (lv_at hl 1 rfl) ?_
    refine lv_aload_n hx hb dX8_spot_5 rfl (lv_at hl 0 rfl) ?_
    refine gx_vol_latest hx hb hts hown hK hP fl_X8_37 dX8_spot_6 ?_
    refine nx_vol_latest hx hb hK hP dX8_spot_9 ?_
    refine sx_icmp_lt (tgt := 15) hx hb hF dX8_spot_10 (by decide) (fun hF => ?_) (fun hF => ?_)
    · refine lv_iload_n hx hb dX8_spot_15 rfl (lv_at hl 1 rfl) ?_
      refine lv_aload_n hx hb dX8_spot_16 rfl (lv_at hl 0 rfl) ?_
      refine gx_vol_disk hx hb hts hown hK hP fl_X8_9 dX8_spot_17 ?_
      refine gx_disk_bandSize hx hb hts hown hK hP fl_X8_71 dX8_spot_20 ?_
      refine sx_idiv hx hb hF dX8_spot_23 (fun hF => ?_)
      refine sx_istore_n (lv2 := [(0, .ref (a 2)), (1, .int o1)]) hx hb hF dX8_spot_24 rfl hl (by decide) rfl (fun v1 hF ls hl => ?_)
      refine lv_aload_n hx hb dX8_spot_25 rfl (lv_at hl 1 rfl) ?_
      refine gx_vol_latest hx hb hts hown hK hP fl_X8_37 dX8_spot_26 ?_
      refine lv_iload_n hx hb dX8_spot_29 rfl (lv_at hl 2 rfl) ?_
      refine lx_vol_latest hx hb hK hP hF dX8_spot_30 (fun v2 hF => ?_)
      refine lv_istore_n (lv' := [(3, .int v2), (2, .int v1), (0, .ref (a 2)), (1, .int o1)]) hx hb dX8_spot_31 rfl hl (by decide) rfl (fun ls hl => ?_)
      refine lv_iload_n hx hb dX8_spot_32 rfl (lv_at hl 0 rfl) ?_
      refine lv_aload_n hx hb dX8_spot_33 rfl (lv_at hl 2 rfl) ?_
      refine gx_vol_tail hx hb hts hown hK hP fl_X8_68 dX8_spot_34 ?_
      refine sx_icmp_lt (tgt := 81) hx hb hF dX8_spot_37 (by decide) (fun hF => ?_) (fun hF => ?_)
      · exact hB81 o1 v1 u ls (lv_sub hl [2, 3, 1] rfl) hF _ _ hP hS
      · refine lv_iload_n hx hb dX8_spot_40 rfl (lv_at hl 1 rfl) ?_
        refine lv_aload_n hx hb dX8_spot_41 rfl (lv_at hl 2 rfl) ?_
        refine gx_vol_marks hx hb hts hown hK hP fl_X8_21 dX8_spot_42 ?_
        refine nx_vol_marks hx hb hK hP dX8_spot_45 ?_
        refine sx_icmp_ge (tgt := 81) hx hb hF dX8_spot_46 (by decide) (fun hF => ?_) (fun hF => ?_)
        · exact hB81 o1 v1 u ls (lv_sub hl [2, 3, 1] rfl) hF _ _ hP hS
        · refine lv_iload_n hx hb dX8_spot_49 rfl (lv_at hl 0 rfl) ?_
          refine lv_aload_n hx hb dX8_spot_50 rfl (lv_at hl 2 rfl) ?_
          refine gx_vol_marks hx hb hts hown hK hP fl_X8_21 dX8_spot_51 ?_
          refine lv_iload_n hx hb dX8_spot_54 rfl (lv_at hl 1 rfl) ?_
          refine lx_vol_marks hx hb hK hP hF dX8_spot_55 (fun v5 hF => ?_)
          refine sx_icmp_lt (tgt := 81) hx hb hF dX8_spot_56 (by decide) (fun hF => ?_) (fun hF => ?_)
          · exact hB81 o1 v1 u ls (lv_sub hl [2, 3, 1] rfl) hF _ _ hP hS
          · refine lv_aload_n hx hb dX8_spot_59 rfl (lv_at hl 2 rfl) ?_
            refine gx_vol_disk hx hb hts hown hK hP fl_X8_9 dX8_spot_60 ?_
            refine gx_disk_lost hx hb hts hown hK hP fl_X8_78 dX8_spot_63 ?_
            refine nx_disk_lost hx hb hK hP dX8_spot_66 ?_
            refine lv_iload_n hx hb dX8_spot_67 rfl (lv_at hl 0 rfl) ?_
            refine lv_aload_n hx hb dX8_spot_68 rfl (lv_at hl 2 rfl) ?_
            refine gx_vol_disk hx hb hts hown hK hP fl_X8_9 dX8_spot_69 ?_
            refine gx_disk_places hx hb hts hown hK hP fl_X8_28 dX8_spot_72 ?_
            refine sx_irem hx hb hF dX8_spot_75 (fun hF => ?_)
            refine lv_iadd hx hb dX8_spot_76 ?_
            refine lv_bipush (v := 8) hx hb dX8_spot_77 (by decide) ?_
            refine lv_imul hx hb dX8_spot_79 ?_
            exact sx_reti (Wd := (ax_W a cI L)) (σ := u) hx hb hr hF hP hS hlocks dX8_spot_80
    · refine lv_iconst (v := 0) hx hb dX8_spot_13 (by decide) ?_
      exact sx_reti (Wd := (ax_W a cI L)) (σ := u) hx hb hr hF hP hS hlocks dX8_spot_14
set_option maxHeartbeats 4000000 in
set_option maxRecDepth 100000 in
theorem kt_X2_writeShingle_12 {N : Nat} {l : Launch} {D : va_G} {a : Nat → Nat} {cI : Nat → ClassId} {L : Nat → Nat} (hD : ∀ σ, va_D (ax_A a) (ax_W a cI L σ)) {o1 : Int32} {o3 : Int32} {u σ0 : q_St} {r0 : Int32} (hF : fX2_writeShingle_12 L N o1 o3 u = some (r0, σ0)) : Met l yX2_writeShingle (Cond.code yX2_writeShingle cX2_writeShingle 8 (some .boolean) :: q_T) ({ frames := 1, cells := 0, slots := 0, locals := 30 } : Room) (q_P D vwCl (ax_T cI) (ax_W a cI L) [.ref (a 1), .int o1, .ref (a 12), .int o3] u) (q_Qi D vwCl (ax_W a cI L) (ax_A a) r0 σ0) 0 0 (ax_A a) := by
  refine Met.ofW (cc := cX2_writeShingle) (maxL := 8) (ret := (some .boolean)) (by decide) rfl ?_
  intro p e s m args below meth c s₁ B hml hv
  obtain ⟨rfl, hP, hK⟩ := hv
  have hx := B.exec
  have hb := B.bytes
  have hr := B.returns
  have hts := q_ts (atoms_spec (ws := Cond.code yX2_writeShingle cX2_writeShingle 8 (some .boolean) :: q_T) B.pre)
  have hown : s.vm.findClass RX2 = some m.cls := findClass_of_methodNamed B.named
  have hlocks := B.notSynchronized
  have hS : va_S (ax_A a) s.heap s.heap [] := va_S.rf
  have hl := lv_entry ([.ref (a 1), .int o1, .ref (a 12), .int o3]) (n := 8) (Nat.le_of_ble_eq_true rfl)
  rw [lg_entry_eq]
  generalize (lg_sl ([.ref (a 1), .int o1, .ref (a 12), .int o3]) ++ List.replicate (8 - (lg_sl ([.ref (a 1), .int o1, .ref (a 12), .int o3])).length) Slot.unset).toArray = ls at hl ⊢
  have hl : lv_has ls 8 [(0, .ref (a 1)), (1, .int o1), (2, .ref (a 12)), (3, .int o3)] := hl
  have hB127 : ∀ (x1 : Int32) (x3 : Int32) (x7 : Int32) (y0 : Int32) (y1 : Int32) (u : q_St) (ls : Array Slot), lv_has ls 8 [(0, .ref (a 1)), (1, .int x1), (2, .ref (a 12)), (3, .int x3), (7, .int x7)] → fX2_writeShingle_12_b127 L N x1 x3 x7 y0 y1 u = some (r0, σ0) → ∀ (H : Heap) (locs : List Loc), va_P D vwCl (ax_W a cI L u) H → va_S (ax_A a) s.heap H locs → W p l e (headSpec (Cond.code yX2_writeShingle cX2_writeShingle 8 (some .boolean) :: q_T) ({ frames := 1, cells := 0, slots := 0, locals := 30 } : Room)).room s m ([.ref (a 1), .int o1, .ref (a 12), .int o3] : List Value).toArray below meth c H locs 0 0 (MQ below (q_Qi D vwCl (ax_W a cI L) (ax_A a) r0 σ0) ([.ref (a 1), .int o1, .ref (a 12), .int o3] : List Value).toArray s 0 0 (ax_A a)) (F0 m 127 ls [.int y0, .int y1, .ref (a 13)]) := by
    intro x1 x3 x7 y0 y1 u ls hl hF _ _ hP hS
    unfold fX2_writeShingle_12_b127 at hF
    refine ux_disk_lost hx hb hK hP hD hS hF dX2_writeShingle_127 (fun u7 H locs hF hP hS => ?_)
    refine lv_iload hx hb dX2_writeShingle_128 (lv_at hl 4 rfl) ?_
    refine sx_if_ne (tgt := 135) hx hb hF dX2_writeShingle_130 (by decide) (fun hF => ?_) (fun hF => ?_)
    · refine lv_aload_n hx hb dX2_writeShingle_135 rfl (lv_at hl 2 rfl) ?_
      refine lv_iload_n hx hb dX2_writeShingle_136 rfl (lv_at hl 3 rfl) ?_
      refine lv_aload_n hx hb dX2_writeShingle_137 rfl (lv_at hl 0 rfl) ?_
      refine gx_disk_cells hx hb hts hown hK hP fl_X2_39 dX2_writeShingle_138 ?_
      refine lv_iload_n hx hb dX2_writeShingle_141 rfl (lv_at hl 1 rfl) ?_
      refine lv_bipush (v := 8) hx hb dX2_writeShingle_142 (by decide) ?_
      refine lv_imul hx hb dX2_writeShingle_144 ?_
      refine lv_bipush (v := 8) hx hb dX2_writeShingle_145 (by decide) ?_
      obtain ⟨⟨hs1, hs2, hs3, hs4, hs5⟩, hF⟩ := q_cp_some hF
      refine va_copyl hx hb (hml.trans hl.1.symm) hown (hts _ lw_X2_72) (hts _ lb_cp_n) (hts _ lb_cp_s) (hts _ lb_sys) hK hP (hD u7) hS 12 12 0 0 (ty := .long) rfl rfl rfl rfl rfl hs1 hs2 hs3 hs4 hs5 (fun _ _ => rfl) (Nat.le_of_ble_eq_true rfl) (Nat.le_of_ble_eq_true rfl) dX2_writeShingle_147 (fun H locs hP _ hS => ?_)
      have hP : va_P D vwCl (ax_W a cI L (q_sj u7 0 (va_cpy (q_j u7 0) (q_j u7 0) (Int32.toNatClampNeg x3) (Int32.toNatClampNeg (x1 * 8)) (Int32.toNatClampNeg 8)))) H := hP
      obtain ⟨u8, hu1⟩ : ∃ q, q = (q_sj u7 0 (va_cpy (q_j u7 0) (q_j u7 0) (Int32.toNatClampNeg x3) (Int32.toNatClampNeg (x1 * 8)) (Int32.toNatClampNeg 8))) := ⟨_, rfl⟩
      rw [← hu1] at hP hF
      refine lv_iload_n hx hb dX2_writeShingle_150 rfl (lv_at hl 1 rfl) ?_
      refine lv_aload_n hx hb dX2_writeShingle_151 rfl (lv_at hl 0 rfl) ?_
      refine gx_disk_sectors hx hb hts hown hK hP fl_X2_33 dX2_writeShingle_152 ?_
      refine sx_icmp_ge (tgt := 171) hx hb hF dX2_writeShingle_155 (by decide) (fun hF => ?_) (fun hF => ?_)
      · refine lv_aload_n hx hb dX2_writeShingle_171 rfl (lv_at hl 0 rfl) ?_
        refine lv_dup hx hb dX2_writeShingle_172 rfl ?_
        refine gx_disk_scratchWrites hx hb hts hown hK hP fl_X2_62 dX2_writeShingle_173 ?_
        refine lv_iconst (v := 1) hx hb dX2_writeShingle_176 (by decide) ?_
        refine lv_iadd hx hb dX2_writeShingle_177 ?_
        refine px_disk_scratchWrites hx hb hts hown hK hP fl_X2_62 hD hS hF dX2_writeShingle_178 (fun u9 H locs hF hP hS => ?_)
        refine lv_iconst (v := 1) hx hb dX2_writeShingle_181 (by decide) ?_
        exact sx_retz (Wd := (ax_W a cI L)) (σ := u9) hx hb hr (by decide) hF hP hS hlocks dX2_writeShingle_182
      · refine lv_aload_n hx hb dX2_writeShingle_158 rfl (lv_at hl 0 rfl) ?_
        refine lv_dup hx hb dX2_writeShingle_159 rfl ?_
        refine gx_disk_bandWrites hx hb hts hown hK hP fl_X2_59 dX2_writeShingle_160 ?_
        refine lv_iconst (v := 1) hx hb dX2_writeShingle_163 (by decide) ?_
        refine lv_iadd hx hb dX2_writeShingle_164 ?_
        refine px_disk_bandWrites hx hb hts hown hK hP fl_X2_59 hD hS hF dX2_writeShingle_165 (fun u10 H locs hF hP hS => ?_)
        refine lv_goto (tgt := 181) hx hb dX2_writeShingle_168 (by decide) ?_
        refine lv_iconst (v := 1) hx hb dX2_writeShingle_181 (by decide) ?_
        exact sx_retz (Wd := (ax_W a cI L)) (σ := u10) hx hb hr (by decide) hF hP hS hlocks dX2_writeShingle_182
    · refine lv_iconst (v := 0) hx hb dX2_writeShingle_133 (by decide) ?_
      exact sx_retz (Wd := (ax_W a cI L)) (σ := u7) hx hb hr (by decide) hF hP hS hlocks dX2_writeShingle_134
  have hB106 : ∀ (x1 : Int32) (x3 : Int32) (u : q_St) (ls : Array Slot), lv_has ls 8 [(0, .ref (a 1)), (1, .int x1), (2, .ref (a 12)), (3, .int x3)] → fX2_writeShingle_12_b106 L N x1 x3 u = some (r0, σ0) → ∀ (H : Heap) (locs : List Loc), va_P D vwCl (ax_W a cI L u) H → va_S (ax_A a) s.heap H locs → W p l e (headSpec (Cond.code yX2_writeShingle cX2_writeShingle 8 (some .boolean) :: q_T) ({ frames := 1, cells := 0, slots := 0, locals := 30 } : Room)).room s m ([.ref (a 1), .int o1, .ref (a 12), .int o3] : List Value).toArray below meth c H locs 0 0 (MQ below (q_Qi D vwCl (ax_W a cI L) (ax_A a) r0 σ0) ([.ref (a 1), .int o1, .ref (a 12), .int o3] : List Value).toArray s 0 0 (ax_A a)) (F0 m 106 ls []) := by
    intro x1 x3 u ls hl hF _ _ hP hS
    unfold fX2_writeShingle_12_b106 at hF
    refine lv_aload_n hx hb dX2_writeShingle_106 rfl (lv_at hl 0 rfl) ?_
    obtain ⟨r4, u5, hc6, hF⟩ := q_bnd_some hF
    refine sx_ci (Wd := (ax_W a cI L)) (σ1 := u5) (q_runV (Wd := (ax_W a cI L)) (σ := u) (q0 := 1) (ci := 2) (T := TX2) (N := 15) (As := []) (rest := []) hx hb hml hown hts hK hP (kt_X2_spend hD hc6) cw_X2_68 rfl rfl ⟨Nat.le_of_ble_eq_true rfl, Nat.le_of_ble_eq_true rfl⟩ rfl rfl rfl hl.1 rfl (Nat.le_of_ble_eq_true rfl) dX2_writeShingle_107) hS (fun H locs hP hS => ?_)
    refine lv_istore (lv' := [(7, .int r4), (0, .ref (a 1)), (1, .int x1), (2, .ref (a 12)), (3, .int x3)]) hx hb dX2_writeShingle_110 hl (by decide) rfl (fun ls hl => ?_)
    refine lv_aload_n hx hb dX2_writeShingle_112 rfl (lv_at hl 1 rfl) ?_
    refine gx_disk_lost hx hb hts hown hK hP fl_X2_43 dX2_writeShingle_113 ?_
    refine lv_iload_n hx hb dX2_writeShingle_116 rfl (lv_at hl 2 rfl) ?_
    refine lv_iload hx hb dX2_writeShingle_117 (lv_at hl 0 rfl) ?_
    refine sx_if_ne (tgt := 126) hx hb hF dX2_writeShingle_119 (by decide) (fun hF => ?_) (fun hF => ?_)
    · refine lv_iconst (v := 0) hx hb dX2_writeShingle_126 (by decide) ?_
      exact hB127 x1 x3 r4 0 x1 u5 ls (lv_sub hl [1, 2, 3, 4, 0] rfl) hF _ _ hP hS
    · refine lv_iconst (v := 1) hx hb dX2_writeShingle_122 (by decide) ?_
      refine lv_goto (tgt := 127) hx hb dX2_writeShingle_123 (by decide) ?_
      exact hB127 x1 x3 r4 1 x1 u5 ls (lv_sub hl [1, 2, 3, 4, 0] rfl) hF _ _ hP hS
  have hB75 : ∀ (n : Nat) (x1 : Int32) (x3 : Int32) (x6 : Int32) (x7 : Int32) (u : q_St) (ls : Array Slot), lv_has ls 8 [(0, .ref (a 1)), (1, .int x1), (2, .ref (a 12)), (3, .int x3), (6, .int x6), (7, .int x7)] → q_lp (fX2_writeShingle_12_b75 L N) (fun _ _ _ _ _ => none) n x1 x3 x6 x7 u = some (r0, σ0) → ∀ (H : Heap) (locs : List Loc), va_P D vwCl (ax_W a cI L u) H → va_S (ax_A a) s.heap H locs → W p l e (headSpec (Cond.code yX2_writeShingle cX2_writeShingle 8 (some .boolean) :: q_T) ({ frames := 1, cells := 0, slots := 0, locals := 30 } : Room)).room s m ([.ref (a 1), .int o1, .ref (a 12), .int o3] : List Value).toArray below meth c H locs 0 0 (MQ below (q_Qi D vwCl (ax_W a cI L) (ax_A a) r0 σ0) ([.ref (a 1), .int o1, .ref (a 12), .int o3] : List Value).toArray s 0 0 (ax_A a)) (F0 m 75 ls []) := by
    intro n
    induction n with
    | zero => intro x1 x3 x6 x7 u ls hl hF; exact absurd (show (none : Option (Int32 × q_St)) = some _ from hF) (fun h => nomatch h)
    | succ n hi75 =>
      intro x1 x3 x6 x7 u ls hl hF _ _ hP hS
      obtain ⟨ih75, hih⟩ : ∃ q, q = q_lp (fX2_writeShingle_12_b75 L N) (fun _ _ _ _ _ => none) n := ⟨_, rfl⟩
      rw [← hih] at hi75
      have hF : fX2_writeShingle_12_b75 L N (q_lp (fX2_writeShingle_12_b75 L N) (fun _ _ _ _ _ => none) n) x1 x3 x6 x7 u = some (r0, σ0) := hF
      rw [← hih] at hF
      clear hih
      unfold fX2_writeShingle_12_b75 at hF
      refine lv_iload hx hb dX2_writeShingle_75 (lv_at hl 5 rfl) ?_
      refine lv_iload hx hb dX2_writeShingle_77 (lv_at hl 4 rfl) ?_
      refine sx_icmp_ge (tgt := 106) hx hb hF dX2_writeShingle_79 (by decide) (fun hF => ?_) (fun hF => ?_)
      · exact hB106 x1 x3 u ls (lv_sub hl [0, 1, 2, 3] rfl) hF _ _ hP hS
      · refine lv_iload hx hb dX2_writeShingle_82 (lv_at hl 5 rfl) ?_
        refine lv_aload_n hx hb dX2_writeShingle_84 rfl (lv_at hl 0 rfl) ?_
        refine gx_disk_lost hx hb hts hown hK hP fl_X2_43 dX2_writeShingle_85 ?_
        refine nx_disk_lost hx hb hK hP dX2_writeShingle_88 ?_
        refine sx_icmp_ge (tgt := 106) hx hb hF dX2_writeShingle_89 (by decide) (fun hF => ?_) (fun hF => ?_)
        · exact hB106 x1 x3 u ls (lv_sub hl [0, 1, 2, 3] rfl) hF _ _ hP hS
        · refine lv_aload_n hx hb dX2_writeShingle_92 rfl (lv_at hl 0 rfl) ?_
          refine gx_disk_lost hx hb hts hown hK hP fl_X2_43 dX2_writeShingle_93 ?_
          refine lv_iload hx hb dX2_writeShingle_96 (lv_at hl 5 rfl) ?_
          refine lv_iconst (v := 1) hx hb dX2_writeShingle_98 (by decide) ?_
          refine ux_disk_lost hx hb hK hP hD hS hF dX2_writeShingle_99 (fun u11 H locs hF hP hS => ?_)
          refine sx_iinc (d := 1) (k := 5) (lv2 := [(0, .ref (a 1)), (1, .int x1), (2, .ref (a 12)), (3, .int x3), (6, .int x6)]) hx hb hF dX2_writeShingle_100 hl rfl (by decide) (by decide) rfl (fun v12 hF ls hl => ?_)
          refine lv_goto (tgt := 75) hx hb dX2_writeShingle_103 (by decide) ?_
          exact hi75 x1 x3 x6 v12 u11 ls (lv_sub hl [1, 2, 3, 4, 5, 0] rfl) hF _ _ hP hS
  unfold fX2_writeShingle_12 at hF
  refine lv_iload_n hx hb dX2_writeShingle_0 rfl (lv_at hl 1 rfl) ?_
  refine sx_if_lt (tgt := 26) hx hb hF dX2_writeShingle_1 (by decide) (fun hF => ?_) (fun hF => ?_)
  · refine lv_iconst (v := 0) hx hb dX2_writeShingle_26 (by decide) ?_
    exact sx_retz (Wd := (ax_W a cI L)) (σ := u) hx hb hr (by decide) hF hP hS hlocks dX2_writeShingle_27
  · refine lv_iload_n hx hb dX2_writeShingle_4 rfl (lv_at hl 1 rfl) ?_
    refine lv_aload_n hx hb dX2_writeShingle_5 rfl (lv_at hl 0 rfl) ?_
    refine gx_disk_lost hx hb hts hown hK hP fl_X2_43 dX2_writeShingle_6 ?_
    refine nx_disk_lost hx hb hK hP dX2_writeShingle_9 ?_
    refine sx_icmp_ge (tgt := 26) hx hb hF dX2_writeShingle_10 (by decide) (fun hF => ?_) (fun hF => ?_)
    · refine lv_iconst (v := 0) hx hb dX2_writeShingle_26 (by decide) ?_
      exact sx_retz (Wd := (ax_W a cI L)) (σ := u) hx hb hr (by decide) hF hP hS hlocks dX2_writeShingle_27
    · refine lv_iload_n hx hb dX2_writeShingle_13 rfl (lv_at hl 3 rfl) ?_
      refine sx_if_lt (tgt := 26) hx hb hF dX2_writeShingle_14 (by decide) (fun hF => ?_) (fun hF => ?_)
      · refine lv_iconst (v := 0) hx hb dX2_writeShingle_26 (by decide) ?_
        exact sx_retz (Wd := (ax_W a cI L)) (σ := u) hx hb hr (by decide) hF hP hS hlocks dX2_writeShingle_27
      · refine lv_iload_n hx hb dX2_writeShingle_17 rfl (lv_at hl 3 rfl) ?_
        refine lv_aload_n hx hb dX2_writeShingle_18 rfl (lv_at hl 2 rfl) ?_
        refine nx_disk_cells hx hb hK hP dX2_writeShingle_19 ?_
        refine lv_bipush (v := 8) hx hb dX2_writeShingle_20 (by decide) ?_
        refine lv_isub hx hb dX2_writeShingle_22 ?_
        refine sx_icmp_le (tgt := 28) hx hb hF dX2_writeShingle_23 (by decide) (fun hF => ?_) (fun hF => ?_)
        · refine lv_iload_n hx hb dX2_writeShingle_28 rfl (lv_at hl 1 rfl) ?_
          refine lv_iload_n hx hb dX2_writeShingle_29 rfl (lv_at hl 1 rfl) ?_
          refine lv_bipush (v := 8) hx hb dX2_writeShingle_30 (by decide) ?_
          refine lv_irem hx hb dX2_writeShingle_32 (by decide) ?_
          refine lv_isub hx hb dX2_writeShingle_33 ?_
          refine lv_bipush (v := 8) hx hb dX2_writeShingle_34 (by decide) ?_
          refine lv_iadd hx hb dX2_writeShingle_36 ?_
          refine sx_istore (lv2 := [(0, .ref (a 1)), (1, .int o1), (2, .ref (a 12)), (3, .int o3)]) hx hb hF dX2_writeShingle_37 hl (by decide) rfl (fun v1 hF ls hl => ?_)
          refine lv_iload_n hx hb dX2_writeShingle_39 rfl (lv_at hl 2 rfl) ?_
          refine lv_iload_n hx hb dX2_writeShingle_40 rfl (lv_at hl 2 rfl) ?_
          refine lv_aload_n hx hb dX2_writeShingle_41 rfl (lv_at hl 1 rfl) ?_
          refine gx_disk_bandSize hx hb hts hown hK hP fl_X2_30 dX2_writeShingle_42 ?_
          refine sx_irem hx hb hF dX2_writeShingle_45 (fun hF => ?_)
          refine lv_isub hx hb dX2_writeShingle_46 ?_
          refine lv_aload_n hx hb dX2_writeShingle_47 rfl (lv_at hl 1 rfl) ?_
          refine gx_disk_bandSize hx hb hts hown hK hP fl_X2_30 dX2_writeShingle_48 ?_
          refine lv_iadd hx hb dX2_writeShingle_51 ?_
          refine sx_istore (lv2 := [(4, .int v1), (0, .ref (a 1)), (1, .int o1), (2, .ref (a 12)), (3, .int o3)]) hx hb hF dX2_writeShingle_52 hl (by decide) rfl (fun v2 hF ls hl => ?_)
          refine lv_iload hx hb dX2_writeShingle_54 (lv_at hl 0 rfl) ?_
          refine lv_iload hx hb dX2_writeShingle_56 (lv_at hl 1 rfl) ?_
          refine lv_bipush (v := 8) hx hb dX2_writeShingle_58 (by decide) ?_
          refine lv_aload_n hx hb dX2_writeShingle_60 rfl (lv_at hl 2 rfl) ?_
          refine gx_disk_shingles hx hb hts hown hK hP fl_X2_27 dX2_writeShingle_61 ?_
          refine lv_imul hx hb dX2_writeShingle_64 ?_
          refine lv_iadd hx hb dX2_writeShingle_65 ?_
          refine sx_min hx hb (hml.trans hl.1.symm) hown hts lw_X2_9 lb_min_s lb_math lb_min_c (Nat.le_of_ble_eq_true rfl) (Nat.le_of_ble_eq_true rfl) dX2_writeShingle_66 ?_
          refine sx_istore (lv2 := [(5, .int v2), (4, .int v1), (0, .ref (a 1)), (1, .int o1), (2, .ref (a 12)), (3, .int o3)]) hx hb hF dX2_writeShingle_69 hl (by decide) rfl (fun v3 hF ls hl => ?_)
          refine lv_iload hx hb dX2_writeShingle_71 (lv_at hl 2 rfl) ?_
          refine lv_istore (lv' := [(7, .int v1), (6, .int v3), (5, .int v2), (4, .int v1), (0, .ref (a 1)), (1, .int o1), (2, .ref (a 12)), (3, .int o3)]) hx hb dX2_writeShingle_73 hl (by decide) rfl (fun ls hl => ?_)
          exact hB75 N o1 o3 v3 v1 u ls (lv_sub hl [4, 5, 6, 7, 1, 0] rfl) hF _ _ hP hS
        · refine lv_iconst (v := 0) hx hb dX2_writeShingle_26 (by decide) ?_
          exact sx_retz (Wd := (ax_W a cI L)) (σ := u) hx hb hr (by decide) hF hP hS hlocks dX2_writeShingle_27
set_option maxHeartbeats 4000000 in
set_option maxRecDepth 100000 in
theorem kt_X8_merge {N : Nat} {l : Launch} {D : va_G} {a : Nat → Nat} {cI : Nat → ClassId} {L : Nat → Nat} (hD : ∀ σ, va_D (ax_A a) (ax_W a cI L σ))  {u σ0 : q_St} {r0 : Int32} (hF : fX8_merge L N u = some (r0, σ0)) : Met l yX8_merge (Cond.code yX8_merge cX8_merge 4 (some .boolean) :: q_T) ({ frames := 2, cells := 0, slots := 0, locals := 57 } : Room) (q_P D vwCl (ax_T cI) (ax_W a cI L) [.ref (a 2)] u) (q_Qi D vwCl (ax_W a cI L) (ax_A a) r0 σ0) 0 0 (ax_A a) := by
  refine Met.ofW (cc := cX8_merge) (maxL := 4) (ret := (some .boolean)) (by decide) rfl ?_
  intro p e s m args below meth c s₁ B hml hv
  obtain ⟨rfl, hP, hK⟩ := hv
  have hx := B.exec
  have hb := B.bytes
  have hr := B.returns
  have hts := q_ts (atoms_spec (ws := Cond.code yX8_merge cX8_merge 4 (some .boolean) :: q_T) B.pre)
  have hown : s.vm.findClass RX8 = some m.cls := findClass_of_methodNamed B.named
  have hlocks := B.notSynchronized
  have hS : va_S (ax_A a) s.heap s.heap [] := va_S.rf
  have hl := lv_entry ([.ref (a 2)]) (n := 4) (Nat.le_of_ble_eq_true rfl)
  rw [lg_entry_eq]
  generalize (lg_sl ([.ref (a 2)]) ++ List.replicate (4 - (lg_sl ([.ref (a 2)])).length) Slot.unset).toArray = ls at hl ⊢
  have hl : lv_has ls 4 [(0, .ref (a 2))] := hl
  have hB2 : ∀ (n : Nat) (x1 : Int32) (u : q_St) (ls : Array Slot), lv_has ls 4 [(0, .ref (a 2)), (1, .int x1)] → q_lp (fX8_merge_b2 L N) (fun _ _ => none) n x1 u = some (r0, σ0) → ∀ (H : Heap) (locs : List Loc), va_P D vwCl (ax_W a cI L u) H → va_S (ax_A a) s.heap H locs → W p l e (headSpec (Cond.code yX8_merge cX8_merge 4 (some .boolean) :: q_T) ({ frames := 2, cells := 0, slots := 0, locals := 57 } : Room)).room s m ([.ref (a 2)] : List Value).toArray below meth c H locs 0 0 (MQ below (q_Qi D vwCl (ax_W a cI L) (ax_A a) r0 σ0) ([.ref (a 2)] : List Value).toArray s 0 0 (ax_A a)) (F0 m 2 ls []) := by
    intro n
    induction n with
    | zero => intro x1 u ls hl hF; exact absurd (show (none : Option (Int32 × q_St)) = some _ from hF) (fun h => nomatch h)
    | succ n hi2 =>
      intro x1 u ls hl hF _ _ hP hS
      obtain ⟨ih2, hih⟩ : ∃ q, q = q_lp (fX8_merge_b2 L N) (fun _ _ => none) n := ⟨_, rfl⟩
      rw [← hih] at hi2
      have hF : fX8_merge_b2 L N (q_lp (fX8_merge_b2 L N) (fun _ _ => none) n) x1 u = some (r0, σ0) := hF
      rw [← hih] at hF
      clear hih
      unfold fX8_merge_b2 at hF
      refine lv_iload_n hx hb dX8_merge_2 rfl (lv_at hl 1 rfl) ?_
      refine lv_bipush (v := 8) hx hb dX8_merge_3 (by decide) ?_
      refine sx_icmp_ge (tgt := 72) hx hb hF dX8_merge_5 (by decide) (fun hF => ?_) (fun hF => ?_)
      · refine lv_aload_n hx hb dX8_merge_72 rfl (lv_at hl 0 rfl) ?_
        refine lv_dup hx hb dX8_merge_73 rfl ?_
        refine gx_vol_track hx hb hts hown hK hP fl_X8_103 dX8_merge_74 ?_
        refine lv_iconst (v := 1) hx hb dX8_merge_77 (by decide) ?_
        refine lv_iadd hx hb dX8_merge_78 ?_
        refine px_vol_track hx hb hts hown hK hP fl_X8_103 hD hS hF dX8_merge_79 (fun u1 H locs hF hP hS => ?_)
        refine lv_iconst (v := 1) hx hb dX8_merge_82 (by decide) ?_
        exact sx_retz (Wd := (ax_W a cI L)) (σ := u1) hx hb hr (by decide) hF hP hS hlocks dX8_merge_83
      · refine lv_bipush (v := 8) hx hb dX8_merge_8 (by decide) ?_
        refine lv_aload_n hx hb dX8_merge_10 rfl (lv_at hl 0 rfl) ?_
        refine gx_vol_track hx hb hts hown hK hP fl_X8_103 dX8_merge_11 ?_
        refine lv_imul hx hb dX8_merge_14 ?_
        refine lv_iload_n hx hb dX8_merge_15 rfl (lv_at hl 1 rfl) ?_
        refine lv_iadd hx hb dX8_merge_16 ?_
        refine sx_istore_n (lv2 := [(0, .ref (a 2)), (1, .int x1)]) hx hb hF dX8_merge_17 rfl hl (by decide) rfl (fun v2 hF ls hl => ?_)
        refine lv_aload_n hx hb dX8_merge_18 rfl (lv_at hl 1 rfl) ?_
        refine lv_aload_n hx hb dX8_merge_19 rfl (lv_at hl 1 rfl) ?_
        refine gx_vol_cleanBand hx hb hts hown hK hP fl_X8_59 dX8_merge_20 ?_
        refine lv_aload_n hx hb dX8_merge_23 rfl (lv_at hl 1 rfl) ?_
        refine gx_vol_disk hx hb hts hown hK hP fl_X8_9 dX8_merge_24 ?_
        refine gx_disk_bandSize hx hb hts hown hK hP fl_X8_71 dX8_merge_27 ?_
        refine lv_imul hx hb dX8_merge_30 ?_
        refine lv_iload_n hx hb dX8_merge_31 rfl (lv_at hl 0 rfl) ?_
        refine lv_iadd hx hb dX8_merge_32 ?_
        obtain ⟨r3, u4, hc5, hF⟩ := q_bnd_some hF
        refine sx_ci (Wd := (ax_W a cI L)) (σ1 := u4) (q_runV (Wd := (ax_W a cI L)) (σ := u) (q0 := 2) (ci := 8) (T := TX8) (N := 15) (As := [.int (((q_i u 16) * (q_i u 4)) + v2)]) (rest := []) hx hb hml hown hts hK hP (kt_X8_spot hD hc5) cw_X8_137 rfl rfl ⟨Nat.le_of_ble_eq_true rfl, Nat.le_of_ble_eq_true rfl⟩ rfl rfl rfl hl.1 rfl (Nat.le_of_ble_eq_true rfl) dX8_merge_33) hS (fun H locs hP hS => ?_)
        refine lv_istore_n (lv' := [(3, .int r3), (2, .int v2), (0, .ref (a 2)), (1, .int x1)]) hx hb dX8_merge_36 rfl hl (by decide) rfl (fun ls hl => ?_)
        refine lv_aload_n hx hb dX8_merge_37 rfl (lv_at hl 2 rfl) ?_
        refine gx_vol_disk hx hb hts hown hK hP fl_X8_9 dX8_merge_38 ?_
        refine lv_aload_n hx hb dX8_merge_41 rfl (lv_at hl 2 rfl) ?_
        refine gx_vol_disk hx hb hts hown hK hP fl_X8_9 dX8_merge_42 ?_
        refine gx_disk_sectors hx hb hts hown hK hP fl_X8_34 dX8_merge_45 ?_
        refine lv_iload_n hx hb dX8_merge_48 rfl (lv_at hl 1 rfl) ?_
        refine lv_iadd hx hb dX8_merge_49 ?_
        refine lv_aload_n hx hb dX8_merge_50 rfl (lv_at hl 2 rfl) ?_
        refine gx_vol_disk hx hb hts hown hK hP fl_X8_9 dX8_merge_51 ?_
        refine gx_disk_cells hx hb hts hown hK hP fl_X8_141 dX8_merge_54 ?_
        refine lv_iload_n hx hb dX8_merge_57 rfl (lv_at hl 0 rfl) ?_
        obtain ⟨r6, u7, hc8, hF⟩ := q_bnd_some hF
        refine sx_ci (Wd := (ax_W a cI L)) (σ1 := u7) (q_runV (Wd := (ax_W a cI L)) (σ := u4) (q0 := 1) (ci := 2) (T := TX2) (N := 15) (As := [.int ((q_i u4 5) + v2), .ref (a 12), .int r3]) (rest := []) hx hb hml hown hts hK hP (kt_X2_writeShingle_12 hD hc8) cw_X8_144 rfl rfl ⟨Nat.le_of_ble_eq_true rfl, Nat.le_of_ble_eq_true rfl⟩ rfl rfl rfl hl.1 rfl (Nat.le_of_ble_eq_true rfl) dX8_merge_58) hS (fun H locs hP hS => ?_)
        refine sx_if_ne (tgt := 66) hx hb hF dX8_merge_61 (by decide) (fun hF => ?_) (fun hF => ?_)
        · refine sx_iinc (d := 1) (k := 3) (lv2 := [(3, .int r3), (2, .int v2), (0, .ref (a 2))]) hx hb hF dX8_merge_66 hl rfl (by decide) (by decide) rfl (fun v9 hF ls hl => ?_)
          refine lv_goto (tgt := 2) hx hb dX8_merge_69 (by decide) ?_
          exact hi2 v9 u7 ls (lv_sub hl [3, 0] rfl) hF _ _ hP hS
        · refine lv_iconst (v := 0) hx hb dX8_merge_64 (by decide) ?_
          exact sx_retz (Wd := (ax_W a cI L)) (σ := u7) hx hb hr (by decide) hF hP hS hlocks dX8_merge_65
  unfold fX8_merge at hF
  refine lv_iconst (v := 0) hx hb dX8_merge_0 (by decide) ?_
  refine lv_istore_n (lv' := [(1, .int 0), (0, .ref (a 2))]) hx hb dX8_merge_1 rfl hl (by decide) rfl (fun ls hl => ?_)
  exact hB2 N 0 u ls (lv_sub hl [1, 0] rfl) hF _ _ hP hS
set_option maxHeartbeats 4000000 in
set_option maxRecDepth 100000 in
theorem kt_X8_becomeSafe {N : Nat} {l : Launch} {D : va_G} {a : Nat → Nat} {cI : Nat → ClassId} {L : Nat → Nat} (hD : ∀ σ, va_D (ax_A a) (ax_W a cI L σ))  {u σ0 : q_St} {r0 : Int32} (hF : fX8_becomeSafe L N u = some (r0, σ0)) : Met l yX8_becomeSafe (Cond.code yX8_becomeSafe cX8_becomeSafe 1 (some .boolean) :: q_T) ({ frames := 2, cells := 0, slots := 0, locals := 41 } : Room) (q_P D vwCl (ax_T cI) (ax_W a cI L) [.ref (a 2)] u) (q_Qi D vwCl (ax_W a cI L) (ax_A a) r0 σ0) 0 0 (ax_A a) := by
  refine Met.ofW (cc := cX8_becomeSafe) (maxL := 1) (ret := (some .boolean)) (by decide) rfl ?_
  intro p e s m args below meth c s₁ B hml hv
  obtain ⟨rfl, hP, hK⟩ := hv
  have hx := B.exec
  have hb := B.bytes
  have hr := B.returns
  have hts := q_ts (atoms_spec (ws := Cond.code yX8_becomeSafe cX8_becomeSafe 1 (some .boolean) :: q_T) B.pre)
  have hown : s.vm.findClass RX8 = some m.cls := findClass_of_methodNamed B.named
  have hlocks := B.notSynchronized
  have hS : va_S (ax_A a) s.heap s.heap [] := va_S.rf
  have hl := lv_entry ([.ref (a 2)]) (n := 1) (Nat.le_of_ble_eq_true rfl)
  rw [lg_entry_eq]
  generalize (lg_sl ([.ref (a 2)]) ++ List.replicate (1 - (lg_sl ([.ref (a 2)])).length) Slot.unset).toArray = ls at hl ⊢
  have hl : lv_has ls 1 [(0, .ref (a 2))] := hl
  unfold fX8_becomeSafe at hF
  refine lv_aload_n hx hb dX8_becomeSafe_0 rfl (lv_at hl 0 rfl) ?_
  refine gx_vol_disk hx hb hts hown hK hP fl_X8_9 dX8_becomeSafe_1 ?_
  obtain ⟨r1, u2, hc3, hF⟩ := q_bnd_some hF
  refine sx_ci (Wd := (ax_W a cI L)) (σ1 := u2) (q_runV (Wd := (ax_W a cI L)) (σ := u) (q0 := 1) (ci := 2) (T := TX2) (N := 15) (As := []) (rest := []) hx hb hml hown hts hK hP (kt_X2_writeRecord hD hc3) cw_X8_131 rfl rfl ⟨Nat.le_of_ble_eq_true rfl, Nat.le_of_ble_eq_true rfl⟩ rfl rfl rfl hl.1 rfl (Nat.le_of_ble_eq_true rfl) dX8_becomeSafe_4) hS (fun H locs hP hS => ?_)
  refine sx_if_ne (tgt := 12) hx hb hF dX8_becomeSafe_7 (by decide) (fun hF => ?_) (fun hF => ?_)
  · refine lv_aload_n hx hb dX8_becomeSafe_12 rfl (lv_at hl 0 rfl) ?_
    refine lv_iconst (v := 1) hx hb dX8_becomeSafe_13 (by decide) ?_
    refine px_vol_safe_1 hx hb hts hown hK hP fl_X8_82 hD hS hF dX8_becomeSafe_14 (fun u4 H locs hF hP hS => ?_)
    refine lv_aload_n hx hb dX8_becomeSafe_17 rfl (lv_at hl 0 rfl) ?_
    refine lv_iconst (v := 0) hx hb dX8_becomeSafe_18 (by decide) ?_
    refine px_vol_track hx hb hts hown hK hP fl_X8_103 hD hS hF dX8_becomeSafe_19 (fun u5 H locs hF hP hS => ?_)
    refine lv_iconst (v := 1) hx hb dX8_becomeSafe_22 (by decide) ?_
    exact sx_retz (Wd := (ax_W a cI L)) (σ := u5) hx hb hr (by decide) hF hP hS hlocks dX8_becomeSafe_23
  · refine lv_iconst (v := 0) hx hb dX8_becomeSafe_10 (by decide) ?_
    exact sx_retz (Wd := (ax_W a cI L)) (σ := u2) hx hb hr (by decide) hF hP hS hlocks dX8_becomeSafe_11
set_option maxHeartbeats 4000000 in
set_option maxRecDepth 100000 in
theorem kt_X8_bringBack {N : Nat} {l : Launch} {D : va_G} {a : Nat → Nat} {cI : Nat → ClassId} {L : Nat → Nat} (hD : ∀ σ, va_D (ax_A a) (ax_W a cI L σ))  {u σ0 : q_St} {r0 : Int32} (hF : fX8_bringBack L N u = some (r0, σ0)) : Met l yX8_bringBack (Cond.code yX8_bringBack cX8_bringBack 4 (some .boolean) :: q_T) ({ frames := 2, cells := 0, slots := 0, locals := 57 } : Room) (q_P D vwCl (ax_T cI) (ax_W a cI L) [.ref (a 2)] u) (q_Qi D vwCl (ax_W a cI L) (ax_A a) r0 σ0) 0 0 (ax_A a) := by
  refine Met.ofW (cc := cX8_bringBack) (maxL := 4) (ret := (some .boolean)) (by decide) rfl ?_
  intro p e s m args below meth c s₁ B hml hv
  obtain ⟨rfl, hP, hK⟩ := hv
  have hx := B.exec
  have hb := B.bytes
  have hr := B.returns
  have hts := q_ts (atoms_spec (ws := Cond.code yX8_bringBack cX8_bringBack 4 (some .boolean) :: q_T) B.pre)
  have hown : s.vm.findClass RX8 = some m.cls := findClass_of_methodNamed B.named
  have hlocks := B.notSynchronized
  have hS : va_S (ax_A a) s.heap s.heap [] := va_S.rf
  have hl := lv_entry ([.ref (a 2)]) (n := 4) (Nat.le_of_ble_eq_true rfl)
  rw [lg_entry_eq]
  generalize (lg_sl ([.ref (a 2)]) ++ List.replicate (4 - (lg_sl ([.ref (a 2)])).length) Slot.unset).toArray = ls at hl ⊢
  have hl : lv_has ls 4 [(0, .ref (a 2))] := hl
  have hB65 : ∀ (ih2 : Int32 → q_St → Option (Int32 × q_St)) (hi2 : ∀ (x1 : Int32) (u : q_St) (ls : Array Slot), lv_has ls 4 [(0, .ref (a 2)), (1, .int x1)] → ih2 x1 u = some (r0, σ0) → ∀ (H : Heap) (locs : List Loc), va_P D vwCl (ax_W a cI L u) H → va_S (ax_A a) s.heap H locs → W p l e (headSpec (Cond.code yX8_bringBack cX8_bringBack 4 (some .boolean) :: q_T) ({ frames := 2, cells := 0, slots := 0, locals := 57 } : Room)).room s m ([.ref (a 2)] : List Value).toArray below meth c H locs 0 0 (MQ below (q_Qi D vwCl (ax_W a cI L) (ax_A a) r0 σ0) ([.ref (a 2)] : List Value).toArray s 0 0 (ax_A a)) (F0 m 2 ls [])), ∀ (x1 : Int32) (x2 : Int32) (x3 : Int32) (u : q_St) (ls : Array Slot), lv_has ls 4 [(0, .ref (a 2)), (1, .int x1), (2, .int x2), (3, .int x3)] → fX8_bringBack_b65 L N ih2 x1 x2 x3 u = some (r0, σ0) → ∀ (H : Heap) (locs : List Loc), va_P D vwCl (ax_W a cI L u) H → va_S (ax_A a) s.heap H locs → W p l e (headSpec (Cond.code yX8_bringBack cX8_bringBack 4 (some .boolean) :: q_T) ({ frames := 2, cells := 0, slots := 0, locals := 57 } : Room)).room s m ([.ref (a 2)] : List Value).toArray below meth c H locs 0 0 (MQ below (q_Qi D vwCl (ax_W a cI L) (ax_A a) r0 σ0) ([.ref (a 2)] : List Value).toArray s 0 0 (ax_A a)) (F0 m 65 ls []) := by
    intro ih2 hi2 x1 x2 x3 u ls hl hF _ _ hP hS
    unfold fX8_bringBack_b65 at hF
    refine lv_aload_n hx hb dX8_bringBack_65 rfl (lv_at hl 0 rfl) ?_
    refine gx_vol_disk hx hb hts hown hK hP fl_X8_9 dX8_bringBack_66 ?_
    refine lv_aload_n hx hb dX8_bringBack_69 rfl (lv_at hl 0 rfl) ?_
    refine gx_vol_cleanBand hx hb hts hown hK hP fl_X8_59 dX8_bringBack_70 ?_
    refine lv_aload_n hx hb dX8_bringBack_73 rfl (lv_at hl 0 rfl) ?_
    refine gx_vol_disk hx hb hts hown hK hP fl_X8_9 dX8_bringBack_74 ?_
    refine gx_disk_bandSize hx hb hts hown hK hP fl_X8_71 dX8_bringBack_77 ?_
    refine lv_imul hx hb dX8_bringBack_80 ?_
    refine lv_iload_n hx hb dX8_bringBack_81 rfl (lv_at hl 2 rfl) ?_
    refine lv_iadd hx hb dX8_bringBack_82 ?_
    refine lv_aload_n hx hb dX8_bringBack_83 rfl (lv_at hl 0 rfl) ?_
    refine gx_vol_disk hx hb hts hown hK hP fl_X8_9 dX8_bringBack_84 ?_
    refine gx_disk_cells hx hb hts hown hK hP fl_X8_141 dX8_bringBack_87 ?_
    refine lv_iload_n hx hb dX8_bringBack_90 rfl (lv_at hl 3 rfl) ?_
    refine lv_bipush (v := 8) hx hb dX8_bringBack_91 (by decide) ?_
    refine lv_imul hx hb dX8_bringBack_93 ?_
    obtain ⟨r4, u5, hc6, hF⟩ := q_bnd_some hF
    refine sx_ci (Wd := (ax_W a cI L)) (σ1 := u5) (q_runV (Wd := (ax_W a cI L)) (σ := u) (q0 := 1) (ci := 2) (T := TX2) (N := 15) (As := [.int (((q_i u 16) * (q_i u 4)) + x2), .ref (a 12), .int (x3 * 8)]) (rest := []) hx hb hml hown hts hK hP (kt_X2_writeShingle_12 hD hc6) cw_X8_144 rfl rfl ⟨Nat.le_of_ble_eq_true rfl, Nat.le_of_ble_eq_true rfl⟩ rfl rfl rfl hl.1 rfl (Nat.le_of_ble_eq_true rfl) dX8_bringBack_94) hS (fun H locs hP hS => ?_)
    refine sx_if_ne (tgt := 102) hx hb hF dX8_bringBack_97 (by decide) (fun hF => ?_) (fun hF => ?_)
    · refine sx_iinc (d := 1) (k := 1) (lv2 := [(0, .ref (a 2)), (2, .int x2), (3, .int x3)]) hx hb hF dX8_bringBack_102 hl rfl (by decide) (by decide) rfl (fun v7 hF ls hl => ?_)
      refine lv_goto (tgt := 2) hx hb dX8_bringBack_105 (by decide) ?_
      exact hi2 v7 u5 ls (lv_sub hl [1, 0] rfl) hF _ _ hP hS
    · refine lv_iconst (v := 0) hx hb dX8_bringBack_100 (by decide) ?_
      exact sx_retz (Wd := (ax_W a cI L)) (σ := u5) hx hb hr (by decide) hF hP hS hlocks dX8_bringBack_101
  have hB2 : ∀ (n : Nat) (x1 : Int32) (u : q_St) (ls : Array Slot), lv_has ls 4 [(0, .ref (a 2)), (1, .int x1)] → q_lp (fX8_bringBack_b2 L N) (fun _ _ => none) n x1 u = some (r0, σ0) → ∀ (H : Heap) (locs : List Loc), va_P D vwCl (ax_W a cI L u) H → va_S (ax_A a) s.heap H locs → W p l e (headSpec (Cond.code yX8_bringBack cX8_bringBack 4 (some .boolean) :: q_T) ({ frames := 2, cells := 0, slots := 0, locals := 57 } : Room)).room s m ([.ref (a 2)] : List Value).toArray below meth c H locs 0 0 (MQ below (q_Qi D vwCl (ax_W a cI L) (ax_A a) r0 σ0) ([.ref (a 2)] : List Value).toArray s 0 0 (ax_A a)) (F0 m 2 ls []) := by
    intro n
    induction n with
    | zero => intro x1 u ls hl hF; exact absurd (show (none : Option (Int32 × q_St)) = some _ from hF) (fun h => nomatch h)
    | succ n hi2 =>
      intro x1 u ls hl hF _ _ hP hS
      obtain ⟨ih2, hih⟩ : ∃ q, q = q_lp (fX8_bringBack_b2 L N) (fun _ _ => none) n := ⟨_, rfl⟩
      rw [← hih] at hi2
      have hF : fX8_bringBack_b2 L N (q_lp (fX8_bringBack_b2 L N) (fun _ _ => none) n) x1 u = some (r0, σ0) := hF
      rw [← hih] at hF
      clear hih
      unfold fX8_bringBack_b2 at hF
      refine lv_iload_n hx hb dX8_bringBack_2 rfl (lv_at hl 1 rfl) ?_
      refine lv_bipush (v := 8) hx hb dX8_bringBack_3 (by decide) ?_
      refine sx_icmp_ge (tgt := 108) hx hb hF dX8_bringBack_5 (by decide) (fun hF => ?_) (fun hF => ?_)
      · refine lv_aload_n hx hb dX8_bringBack_108 rfl (lv_at hl 0 rfl) ?_
        refine lv_dup hx hb dX8_bringBack_109 rfl ?_
        refine gx_vol_track hx hb hts hown hK hP fl_X8_103 dX8_bringBack_110 ?_
        refine lv_iconst (v := 1) hx hb dX8_bringBack_113 (by decide) ?_
        refine lv_iadd hx hb dX8_bringBack_114 ?_
        refine px_vol_track hx hb hts hown hK hP fl_X8_103 hD hS hF dX8_bringBack_115 (fun u1 H locs hF hP hS => ?_)
        refine lv_iconst (v := 1) hx hb dX8_bringBack_118 (by decide) ?_
        exact sx_retz (Wd := (ax_W a cI L)) (σ := u1) hx hb hr (by decide) hF hP hS hlocks dX8_bringBack_119
      · refine lv_bipush (v := 8) hx hb dX8_bringBack_8 (by decide) ?_
        refine lv_aload_n hx hb dX8_bringBack_10 rfl (lv_at hl 0 rfl) ?_
        refine gx_vol_track hx hb hts hown hK hP fl_X8_103 dX8_bringBack_11 ?_
        refine lv_imul hx hb dX8_bringBack_14 ?_
        refine lv_iload_n hx hb dX8_bringBack_15 rfl (lv_at hl 1 rfl) ?_
        refine lv_iadd hx hb dX8_bringBack_16 ?_
        refine sx_istore_n (lv2 := [(0, .ref (a 2)), (1, .int x1)]) hx hb hF dX8_bringBack_17 rfl hl (by decide) rfl (fun v2 hF ls hl => ?_)
        refine lv_aload_n hx hb dX8_bringBack_18 rfl (lv_at hl 1 rfl) ?_
        refine gx_vol_disk hx hb hts hown hK hP fl_X8_9 dX8_bringBack_19 ?_
        refine gx_disk_sectors hx hb hts hown hK hP fl_X8_34 dX8_bringBack_22 ?_
        refine lv_iload_n hx hb dX8_bringBack_25 rfl (lv_at hl 0 rfl) ?_
        refine lv_iadd hx hb dX8_bringBack_26 ?_
        refine sx_istore_n (lv2 := [(2, .int v2), (0, .ref (a 2)), (1, .int x1)]) hx hb hF dX8_bringBack_27 rfl hl (by decide) rfl (fun v3 hF ls hl => ?_)
        refine lv_iload_n hx hb dX8_bringBack_28 rfl (lv_at hl 0 rfl) ?_
        refine lv_aload_n hx hb dX8_bringBack_29 rfl (lv_at hl 2 rfl) ?_
        refine gx_vol_disk hx hb hts hown hK hP fl_X8_9 dX8_bringBack_30 ?_
        refine gx_disk_lost hx hb hts hown hK hP fl_X8_78 dX8_bringBack_33 ?_
        refine nx_disk_lost hx hb hK hP dX8_bringBack_36 ?_
        refine sx_icmp_ge (tgt := 65) hx hb hF dX8_bringBack_37 (by decide) (fun hF => ?_) (fun hF => ?_)
        · exact hB65 ih2 hi2 x1 v2 v3 u ls (lv_sub hl [2, 3, 1, 0] rfl) hF _ _ hP hS
        · refine lv_aload_n hx hb dX8_bringBack_40 rfl (lv_at hl 2 rfl) ?_
          refine gx_vol_disk hx hb hts hown hK hP fl_X8_9 dX8_bringBack_41 ?_
          refine gx_disk_lost hx hb hts hown hK hP fl_X8_78 dX8_bringBack_44 ?_
          refine lv_iload_n hx hb dX8_bringBack_47 rfl (lv_at hl 0 rfl) ?_
          refine lx_disk_lost hx hb hK hP hF dX8_bringBack_48 (fun v8 hF => ?_)
          refine sx_if_eq (tgt := 65) hx hb hF dX8_bringBack_49 (by decide) (fun hF => ?_) (fun hF => ?_)
          · exact hB65 ih2 hi2 x1 v2 v3 u ls (lv_sub hl [2, 3, 1, 0] rfl) hF _ _ hP hS
          · refine lv_aload_n hx hb dX8_bringBack_52 rfl (lv_at hl 2 rfl) ?_
            refine gx_vol_disk hx hb hts hown hK hP fl_X8_9 dX8_bringBack_53 ?_
            refine lv_dup hx hb dX8_bringBack_56 rfl ?_
            refine gx_disk_misreads hx hb hts hown hK hP fl_X8_86 dX8_bringBack_57 ?_
            refine lv_iconst (v := 1) hx hb dX8_bringBack_60 (by decide) ?_
            refine lv_iadd hx hb dX8_bringBack_61 ?_
            refine px_disk_misreads hx hb hts hown hK hP fl_X8_86 hD hS hF dX8_bringBack_62 (fun u9 H locs hF hP hS => ?_)
            exact hB65 ih2 hi2 x1 v2 v3 u9 ls (lv_sub hl [2, 3, 1, 0] rfl) hF _ _ hP hS
  unfold fX8_bringBack at hF
  refine lv_iconst (v := 0) hx hb dX8_bringBack_0 (by decide) ?_
  refine lv_istore_n (lv' := [(1, .int 0), (0, .ref (a 2))]) hx hb dX8_bringBack_1 rfl hl (by decide) rfl (fun ls hl => ?_)
  exact hB2 N 0 u ls (lv_sub hl [1, 0] rfl) hF _ _ hP hS
