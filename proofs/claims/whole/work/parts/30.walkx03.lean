set_option maxHeartbeats 4000000 in
set_option maxRecDepth 100000 in
theorem kt_X5_isBandFree {N : Nat} {l : Launch} {D : va_G} {a : Nat → Nat} {cI : Nat → ClassId} {L : Nat → Nat} (hD : ∀ σ, va_D (ax_A a) (ax_W a cI L σ)) {o1 : Int32} {u σ0 : q_St} {r0 : Int32} (hF : fX5_isBandFree L N o1 u = some (r0, σ0)) : Met l yX5_isBandFree (Cond.code yX5_isBandFree cX5_isBandFree 4 (some .boolean) :: q_T) ({ frames := 4, cells := 0, slots := 0, locals := 88 } : Room) (q_P D vwCl (ax_T cI) (ax_W a cI L) [.ref (a 4), .int o1] u) (q_Qi D vwCl (ax_W a cI L) (ax_A a) r0 σ0) 0 0 (ax_A a) := by
  refine Met.ofW (cc := cX5_isBandFree) (maxL := 4) (ret := (some .boolean)) (by decide) rfl ?_
  intro p e s m args below meth c s₁ B hml hv
  obtain ⟨rfl, hP, hK⟩ := hv
  have hx := B.exec
  have hb := B.bytes
  have hr := B.returns
  have hts := q_ts (atoms_spec (ws := Cond.code yX5_isBandFree cX5_isBandFree 4 (some .boolean) :: q_T) B.pre)
  have hown : s.vm.findClass RX5 = some m.cls := findClass_of_methodNamed B.named
  have hlocks := B.notSynchronized
  have hS : va_S (ax_A a) s.heap s.heap [] := va_S.rf
  have hl := lv_entry ([.ref (a 4), .int o1]) (n := 4) (Nat.le_of_ble_eq_true rfl)
  rw [lg_entry_eq]
  generalize (lg_sl ([.ref (a 4), .int o1]) ++ List.replicate (4 - (lg_sl ([.ref (a 4), .int o1])).length) Slot.unset).toArray = ls at hl ⊢
  have hl : lv_has ls 4 [(0, .ref (a 4)), (1, .int o1)] := hl
  have hB9 : ∀ (n : Nat) (x2 : Int32) (x3 : Int32) (u : q_St) (ls : Array Slot), lv_has ls 4 [(0, .ref (a 4)), (2, .int x2), (3, .int x3)] → q_lp (fX5_isBandFree_b9 L N) (fun _ _ _ => none) n x2 x3 u = some (r0, σ0) → ∀ (H : Heap) (locs : List Loc), va_P D vwCl (ax_W a cI L u) H → va_S (ax_A a) s.heap H locs → W p l e (headSpec (Cond.code yX5_isBandFree cX5_isBandFree 4 (some .boolean) :: q_T) ({ frames := 4, cells := 0, slots := 0, locals := 88 } : Room)).room s m ([.ref (a 4), .int o1] : List Value).toArray below meth c H locs 0 0 (MQ below (q_Qi D vwCl (ax_W a cI L) (ax_A a) r0 σ0) ([.ref (a 4), .int o1] : List Value).toArray s 0 0 (ax_A a)) (F0 m 9 ls []) := by
    intro n
    induction n with
    | zero => intro x2 x3 u ls hl hF; exact absurd (show (none : Option (Int32 × q_St)) = some _ from hF) (fun h => nomatch h)
    | succ n hi9 =>
      intro x2 x3 u ls hl hF _ _ hP hS
      obtain ⟨ih9, hih⟩ : ∃ q, q = q_lp (fX5_isBandFree_b9 L N) (fun _ _ _ => none) n := ⟨_, rfl⟩
      rw [← hih] at hi9
      have hF : fX5_isBandFree_b9 L N (q_lp (fX5_isBandFree_b9 L N) (fun _ _ _ => none) n) x2 x3 u = some (r0, σ0) := hF
      rw [← hih] at hF
      clear hih
      unfold fX5_isBandFree_b9 at hF
      refine lv_iload_n hx hb dX5_isBandFree_9 rfl (lv_at hl 2 rfl) ?_
      refine lv_iload_n hx hb dX5_isBandFree_10 rfl (lv_at hl 1 rfl) ?_
      refine lv_aload_n hx hb dX5_isBandFree_11 rfl (lv_at hl 0 rfl) ?_
      refine gx_space_bandSize hx hb hts hown hK hP fl_X5_25 dX5_isBandFree_12 ?_
      refine lv_iadd hx hb dX5_isBandFree_15 ?_
      refine sx_icmp_ge (tgt := 43) hx hb hF dX5_isBandFree_16 (by decide) (fun hF => ?_) (fun hF => ?_)
      · refine lv_iconst (v := 1) hx hb dX5_isBandFree_43 (by decide) ?_
        exact sx_retz (Wd := (ax_W a cI L)) (σ := u) hx hb hr (by decide) hF hP hS hlocks dX5_isBandFree_44
      · refine lv_aload_n hx hb dX5_isBandFree_19 rfl (lv_at hl 0 rfl) ?_
        refine lv_iload_n hx hb dX5_isBandFree_20 rfl (lv_at hl 2 rfl) ?_
        obtain ⟨r2, u3, hc4, hF⟩ := q_bnd_some hF
        refine sx_ci (Wd := (ax_W a cI L)) (σ1 := u3) (q_runV (Wd := (ax_W a cI L)) (σ := u) (q0 := 4) (ci := 5) (T := TX5) (N := 6) (As := [.int x3]) (rest := []) hx hb hml hown hts hK hP (kt_X5_isFree hD hc4) cw_X5_67 rfl rfl ⟨Nat.le_of_ble_eq_true rfl, Nat.le_of_ble_eq_true rfl⟩ rfl rfl rfl hl.1 rfl (Nat.le_of_ble_eq_true rfl) dX5_isBandFree_21) hS (fun H locs hP hS => ?_)
        refine sx_if_eq (tgt := 35) hx hb hF dX5_isBandFree_24 (by decide) (fun hF => ?_) (fun hF => ?_)
        · refine lv_iconst (v := 0) hx hb dX5_isBandFree_35 (by decide) ?_
          exact sx_retz (Wd := (ax_W a cI L)) (σ := u3) hx hb hr (by decide) hF hP hS hlocks dX5_isBandFree_36
        · refine lv_aload_n hx hb dX5_isBandFree_27 rfl (lv_at hl 0 rfl) ?_
          refine lv_iload_n hx hb dX5_isBandFree_28 rfl (lv_at hl 2 rfl) ?_
          obtain ⟨r5, u6, hc7, hF⟩ := q_bnd_some hF
          refine sx_ci (Wd := (ax_W a cI L)) (σ1 := u6) (q_runV (Wd := (ax_W a cI L)) (σ := u3) (q0 := 4) (ci := 5) (T := TX5) (N := 6) (As := [.int x3]) (rest := []) hx hb hml hown hts hK hP (kt_X5_wasSet hD hc7) cw_X5_70 rfl rfl ⟨Nat.le_of_ble_eq_true rfl, Nat.le_of_ble_eq_true rfl⟩ rfl rfl rfl hl.1 rfl (Nat.le_of_ble_eq_true rfl) dX5_isBandFree_29) hS (fun H locs hP hS => ?_)
          refine sx_if_eq (tgt := 37) hx hb hF dX5_isBandFree_32 (by decide) (fun hF => ?_) (fun hF => ?_)
          · refine sx_iinc (d := 1) (k := 2) (lv2 := [(0, .ref (a 4)), (2, .int x2)]) hx hb hF dX5_isBandFree_37 hl rfl (by decide) (by decide) rfl (fun v8 hF ls hl => ?_)
            refine lv_goto (tgt := 9) hx hb dX5_isBandFree_40 (by decide) ?_
            exact hi9 x2 v8 u6 ls (lv_sub hl [1, 2, 0] rfl) hF _ _ hP hS
          · refine lv_iconst (v := 0) hx hb dX5_isBandFree_35 (by decide) ?_
            exact sx_retz (Wd := (ax_W a cI L)) (σ := u6) hx hb hr (by decide) hF hP hS hlocks dX5_isBandFree_36
  unfold fX5_isBandFree at hF
  refine lv_iload_n hx hb dX5_isBandFree_0 rfl (lv_at hl 1 rfl) ?_
  refine lv_aload_n hx hb dX5_isBandFree_1 rfl (lv_at hl 0 rfl) ?_
  refine gx_space_bandSize hx hb hts hown hK hP fl_X5_25 dX5_isBandFree_2 ?_
  refine lv_imul hx hb dX5_isBandFree_5 ?_
  refine sx_istore_n (lv2 := [(0, .ref (a 4)), (1, .int o1)]) hx hb hF dX5_isBandFree_6 rfl hl (by decide) rfl (fun v1 hF ls hl => ?_)
  refine lv_iload_n hx hb dX5_isBandFree_7 rfl (lv_at hl 0 rfl) ?_
  refine lv_istore_n (lv' := [(3, .int v1), (2, .int v1), (0, .ref (a 4)), (1, .int o1)]) hx hb dX5_isBandFree_8 rfl hl (by decide) rfl (fun ls hl => ?_)
  exact hB9 N v1 v1 u ls (lv_sub hl [2, 1, 0] rfl) hF _ _ hP hS
set_option maxHeartbeats 4000000 in
set_option maxRecDepth 100000 in
theorem kt_X10_bandToLay {N : Nat} {l : Launch} {D : va_G} {a : Nat → Nat} {cI : Nat → ClassId} {L : Nat → Nat} (hD : ∀ σ, va_D (ax_A a) (ax_W a cI L σ))  {u σ0 : q_St} {r0 : Int32} (hF : fX10_bandToLay L N u = some (r0, σ0)) : Met l yX10_bandToLay (Cond.code yX10_bandToLay cX10_bandToLay 2 (some .int) :: q_T) ({ frames := 5, cells := 0, slots := 0, locals := 111 } : Room) (q_P D vwCl (ax_T cI) (ax_W a cI L) [.ref (a 0)] u) (q_Qi D vwCl (ax_W a cI L) (ax_A a) r0 σ0) 0 0 (ax_A a) := by
  refine Met.ofW (cc := cX10_bandToLay) (maxL := 2) (ret := (some .int)) (by decide) rfl ?_
  intro p e s m args below meth c s₁ B hml hv
  obtain ⟨rfl, hP, hK⟩ := hv
  have hx := B.exec
  have hb := B.bytes
  have hr := B.returns
  have hts := q_ts (atoms_spec (ws := Cond.code yX10_bandToLay cX10_bandToLay 2 (some .int) :: q_T) B.pre)
  have hown : s.vm.findClass RX10 = some m.cls := findClass_of_methodNamed B.named
  have hlocks := B.notSynchronized
  have hS : va_S (ax_A a) s.heap s.heap [] := va_S.rf
  have hl := lv_entry ([.ref (a 0)]) (n := 2) (Nat.le_of_ble_eq_true rfl)
  rw [lg_entry_eq]
  generalize (lg_sl ([.ref (a 0)]) ++ List.replicate (2 - (lg_sl ([.ref (a 0)])).length) Slot.unset).toArray = ls at hl ⊢
  have hl : lv_has ls 2 [(0, .ref (a 0))] := hl
  have hB39 : ∀ (ih11 : Int32 → q_St → Option (Int32 × q_St)) (hi11 : ∀ (x1 : Int32) (u : q_St) (ls : Array Slot), lv_has ls 2 [(0, .ref (a 0)), (1, .int x1)] → ih11 x1 u = some (r0, σ0) → ∀ (H : Heap) (locs : List Loc), va_P D vwCl (ax_W a cI L u) H → va_S (ax_A a) s.heap H locs → W p l e (headSpec (Cond.code yX10_bandToLay cX10_bandToLay 2 (some .int) :: q_T) ({ frames := 5, cells := 0, slots := 0, locals := 111 } : Room)).room s m ([.ref (a 0)] : List Value).toArray below meth c H locs 0 0 (MQ below (q_Qi D vwCl (ax_W a cI L) (ax_A a) r0 σ0) ([.ref (a 0)] : List Value).toArray s 0 0 (ax_A a)) (F0 m 11 ls [])), ∀ (x1 : Int32) (u : q_St) (ls : Array Slot), lv_has ls 2 [(0, .ref (a 0)), (1, .int x1)] → fX10_bandToLay_b39 L N ih11 x1 u = some (r0, σ0) → ∀ (H : Heap) (locs : List Loc), va_P D vwCl (ax_W a cI L u) H → va_S (ax_A a) s.heap H locs → W p l e (headSpec (Cond.code yX10_bandToLay cX10_bandToLay 2 (some .int) :: q_T) ({ frames := 5, cells := 0, slots := 0, locals := 111 } : Room)).room s m ([.ref (a 0)] : List Value).toArray below meth c H locs 0 0 (MQ below (q_Qi D vwCl (ax_W a cI L) (ax_A a) r0 σ0) ([.ref (a 0)] : List Value).toArray s 0 0 (ax_A a)) (F0 m 39 ls []) := by
    intro ih11 hi11 x1 u ls hl hF _ _ hP hS
    unfold fX10_bandToLay_b39 at hF
    refine sx_iinc (d := (-1)) (k := 1) (lv2 := [(0, .ref (a 0))]) hx hb hF dX10_bandToLay_39 hl rfl (by decide) (by decide) rfl (fun v2 hF ls hl => ?_)
    refine lv_goto (tgt := 11) hx hb dX10_bandToLay_42 (by decide) ?_
    exact hi11 v2 u ls (lv_sub hl [1, 0] rfl) hF _ _ hP hS
  have hB11 : ∀ (n : Nat) (x1 : Int32) (u : q_St) (ls : Array Slot), lv_has ls 2 [(0, .ref (a 0)), (1, .int x1)] → q_lp (fX10_bandToLay_b11 L N) (fun _ _ => none) n x1 u = some (r0, σ0) → ∀ (H : Heap) (locs : List Loc), va_P D vwCl (ax_W a cI L u) H → va_S (ax_A a) s.heap H locs → W p l e (headSpec (Cond.code yX10_bandToLay cX10_bandToLay 2 (some .int) :: q_T) ({ frames := 5, cells := 0, slots := 0, locals := 111 } : Room)).room s m ([.ref (a 0)] : List Value).toArray below meth c H locs 0 0 (MQ below (q_Qi D vwCl (ax_W a cI L) (ax_A a) r0 σ0) ([.ref (a 0)] : List Value).toArray s 0 0 (ax_A a)) (F0 m 11 ls []) := by
    intro n
    induction n with
    | zero => intro x1 u ls hl hF; exact absurd (show (none : Option (Int32 × q_St)) = some _ from hF) (fun h => nomatch h)
    | succ n hi11 =>
      intro x1 u ls hl hF _ _ hP hS
      obtain ⟨ih11, hih⟩ : ∃ q, q = q_lp (fX10_bandToLay_b11 L N) (fun _ _ => none) n := ⟨_, rfl⟩
      rw [← hih] at hi11
      have hF : fX10_bandToLay_b11 L N (q_lp (fX10_bandToLay_b11 L N) (fun _ _ => none) n) x1 u = some (r0, σ0) := hF
      rw [← hih] at hF
      clear hih
      unfold fX10_bandToLay_b11 at hF
      refine lv_iload_n hx hb dX10_bandToLay_11 rfl (lv_at hl 1 rfl) ?_
      refine sx_if_lt (tgt := 45) hx hb hF dX10_bandToLay_12 (by decide) (fun hF => ?_) (fun hF => ?_)
      · refine lv_iconst (v := (-1)) hx hb dX10_bandToLay_45 (by decide) ?_
        exact sx_reti (Wd := (ax_W a cI L)) (σ := u) hx hb hr hF hP hS hlocks dX10_bandToLay_46
      · refine lv_iload_n hx hb dX10_bandToLay_15 rfl (lv_at hl 1 rfl) ?_
        refine lv_aload_n hx hb dX10_bandToLay_16 rfl (lv_at hl 0 rfl) ?_
        refine gx_h_volume hx hb hts hown hK hP fl_X10_59 dX10_bandToLay_17 ?_
        refine gx_vol_cleanBand hx hb hts hown hK hP fl_X10_333 dX10_bandToLay_20 ?_
        refine sx_icmp_eq (tgt := 39) hx hb hF dX10_bandToLay_23 (by decide) (fun hF => ?_) (fun hF => ?_)
        · exact hB39 ih11 hi11 x1 u ls (lv_sub hl [0, 1] rfl) hF _ _ hP hS
        · refine lv_aload_n hx hb dX10_bandToLay_26 rfl (lv_at hl 0 rfl) ?_
          refine gx_h_space hx hb hts hown hK hP fl_X10_67 dX10_bandToLay_27 ?_
          refine lv_iload_n hx hb dX10_bandToLay_30 rfl (lv_at hl 1 rfl) ?_
          obtain ⟨r3, u4, hc5, hF⟩ := q_bnd_some hF
          refine sx_ci (Wd := (ax_W a cI L)) (σ1 := u4) (q_runV (Wd := (ax_W a cI L)) (σ := u) (q0 := 4) (ci := 5) (T := TX5) (N := 6) (As := [.int x1]) (rest := []) hx hb hml hown hts hK hP (kt_X5_isBandFree hD hc5) cw_X10_364 rfl rfl ⟨Nat.le_of_ble_eq_true rfl, Nat.le_of_ble_eq_true rfl⟩ rfl rfl rfl hl.1 rfl (Nat.le_of_ble_eq_true rfl) dX10_bandToLay_31) hS (fun H locs hP hS => ?_)
          refine sx_if_eq (tgt := 39) hx hb hF dX10_bandToLay_34 (by decide) (fun hF => ?_) (fun hF => ?_)
          · exact hB39 ih11 hi11 x1 u4 ls (lv_sub hl [0, 1] rfl) hF _ _ hP hS
          · refine lv_iload_n hx hb dX10_bandToLay_37 rfl (lv_at hl 1 rfl) ?_
            exact sx_reti (Wd := (ax_W a cI L)) (σ := u4) hx hb hr hF hP hS hlocks dX10_bandToLay_38
  unfold fX10_bandToLay at hF
  refine lv_aload_n hx hb dX10_bandToLay_0 rfl (lv_at hl 0 rfl) ?_
  refine gx_h_volume hx hb hts hown hK hP fl_X10_59 dX10_bandToLay_1 ?_
  refine gx_vol_marks hx hb hts hown hK hP fl_X10_292 dX10_bandToLay_4 ?_
  refine nx_vol_marks hx hb hK hP dX10_bandToLay_7 ?_
  refine lv_iconst (v := 1) hx hb dX10_bandToLay_8 (by decide) ?_
  refine lv_isub hx hb dX10_bandToLay_9 ?_
  refine sx_istore_n (lv2 := [(0, .ref (a 0))]) hx hb hF dX10_bandToLay_10 rfl hl (by decide) rfl (fun v1 hF ls hl => ?_)
  exact hB11 N v1 u ls (lv_sub hl [1, 0] rfl) hF _ _ hP hS
set_option maxHeartbeats 4000000 in
set_option maxRecDepth 100000 in
theorem kt_X2_writeShingle_18 {N : Nat} {l : Launch} {D : va_G} {a : Nat → Nat} {cI : Nat → ClassId} {L : Nat → Nat} (hD : ∀ σ, va_D (ax_A a) (ax_W a cI L σ)) {o1 : Int32} {o3 : Int32} {u σ0 : q_St} {r0 : Int32} (hF : fX2_writeShingle_18 L N o1 o3 u = some (r0, σ0)) : Met l yX2_writeShingle (Cond.code yX2_writeShingle cX2_writeShingle 8 (some .boolean) :: q_T) ({ frames := 1, cells := 0, slots := 0, locals := 30 } : Room) (q_P D vwCl (ax_T cI) (ax_W a cI L) [.ref (a 1), .int o1, .ref (a 18), .int o3] u) (q_Qi D vwCl (ax_W a cI L) (ax_A a) r0 σ0) 0 0 (ax_A a) := by
  refine Met.ofW (cc := cX2_writeShingle) (maxL := 8) (ret := (some .boolean)) (by decide) rfl ?_
  intro p e s m args below meth c s₁ B hml hv
  obtain ⟨rfl, hP, hK⟩ := hv
  have hx := B.exec
  have hb := B.bytes
  have hr := B.returns
  have hts := q_ts (atoms_spec (ws := Cond.code yX2_writeShingle cX2_writeShingle 8 (some .boolean) :: q_T) B.pre)
  have hown : s.vm.findClass RX2 = some m.cls := findClass_of_methodNamed B.named
  have hlocks := B.notSynchronized
  have hS : va_S (ax_A a) s.heap s.heap [] := va_S.rf
  have hl := lv_entry ([.ref (a 1), .int o1, .ref (a 18), .int o3]) (n := 8) (Nat.le_of_ble_eq_true rfl)
  rw [lg_entry_eq]
  generalize (lg_sl ([.ref (a 1), .int o1, .ref (a 18), .int o3]) ++ List.replicate (8 - (lg_sl ([.ref (a 1), .int o1, .ref (a 18), .int o3])).length) Slot.unset).toArray = ls at hl ⊢
  have hl : lv_has ls 8 [(0, .ref (a 1)), (1, .int o1), (2, .ref (a 18)), (3, .int o3)] := hl
  have hB127 : ∀ (x1 : Int32) (x3 : Int32) (x7 : Int32) (y0 : Int32) (y1 : Int32) (u : q_St) (ls : Array Slot), lv_has ls 8 [(0, .ref (a 1)), (1, .int x1), (2, .ref (a 18)), (3, .int x3), (7, .int x7)] → fX2_writeShingle_18_b127 L N x1 x3 x7 y0 y1 u = some (r0, σ0) → ∀ (H : Heap) (locs : List Loc), va_P D vwCl (ax_W a cI L u) H → va_S (ax_A a) s.heap H locs → W p l e (headSpec (Cond.code yX2_writeShingle cX2_writeShingle 8 (some .boolean) :: q_T) ({ frames := 1, cells := 0, slots := 0, locals := 30 } : Room)).room s m ([.ref (a 1), .int o1, .ref (a 18), .int o3] : List Value).toArray below meth c H locs 0 0 (MQ below (q_Qi D vwCl (ax_W a cI L) (ax_A a) r0 σ0) ([.ref (a 1), .int o1, .ref (a 18), .int o3] : List Value).toArray s 0 0 (ax_A a)) (F0 m 127 ls [.int y0, .int y1, .ref (a 13)]) := by
    intro x1 x3 x7 y0 y1 u ls hl hF _ _ hP hS
    unfold fX2_writeShingle_18_b127 at hF
    refine ux_disk_lost hx hb hK hP hD hS hF dX2_writeShingle_127 (fun u7 H locs hF hP hS => ?_)
    refine lv_iload hx hb dX2_writeShingle_128 (lv_at hl 4 rfl) ?_
    refine sx_if_ne (tgt := 135) hx hb hF dX2_writeShingle_130 (by decide) (fun hF => ?_) (fun hF => ?_)
    · refine lv_aload_n hx hb dX2_writeShingle_135 rfl (lv_at hl 2 rfl) ?_
      refine lv_iload_n hx hb dX2_writeShingle_136 rfl (lv_at hl 3 rfl) ?_
      refine lv_aload_n hx hb dX2_writeShingle_137 rfl (lv_at hl 0 rfl) ?_
      refine gx_disk_cells hx hb hts hown hK hP fl_X2_39 dX2_writeShingle_138 ?_
      refine lv_iload_n hx hb dX2_writeShingle_141 rfl (lv_at hl 1 rfl) ?_
      refine lv_bipush (v := 8) hx hb dX2_writeShingle_142 (by decide) ?_
      refine lv_imul hx hb dX2_writeShingle_144 ?_
      refine lv_bipush (v := 8) hx hb dX2_writeShingle_145 (by decide) ?_
      obtain ⟨⟨hs1, hs2, hs3, hs4, hs5⟩, hF⟩ := q_cp_some hF
      refine va_copyl hx hb (hml.trans hl.1.symm) hown (hts _ lw_X2_72) (hts _ lb_cp_n) (hts _ lb_cp_s) (hts _ lb_sys) hK hP (hD u7) hS 18 12 6 0 (ty := .long) rfl rfl rfl rfl rfl hs1 hs2 hs3 hs4 hs5 (fun _ _ => rfl) (Nat.le_of_ble_eq_true rfl) (Nat.le_of_ble_eq_true rfl) dX2_writeShingle_147 (fun H locs hP _ hS => ?_)
      have hP : va_P D vwCl (ax_W a cI L (q_sj u7 0 (va_cpy (q_j u7 1) (q_j u7 0) (Int32.toNatClampNeg x3) (Int32.toNatClampNeg (x1 * 8)) (Int32.toNatClampNeg 8)))) H := hP
      obtain ⟨u8, hu1⟩ : ∃ q, q = (q_sj u7 0 (va_cpy (q_j u7 1) (q_j u7 0) (Int32.toNatClampNeg x3) (Int32.toNatClampNeg (x1 * 8)) (Int32.toNatClampNeg 8))) := ⟨_, rfl⟩
      rw [← hu1] at hP hF
      refine lv_iload_n hx hb dX2_writeShingle_150 rfl (lv_at hl 1 rfl) ?_
      refine lv_aload_n hx hb dX2_writeShingle_151 rfl (lv_at hl 0 rfl) ?_
      refine gx_disk_sectors hx hb hts hown hK hP fl_X2_33 dX2_writeShingle_152 ?_
      refine sx_icmp_ge (tgt := 171) hx hb hF dX2_writeShingle_155 (by decide) (fun hF => ?_) (fun hF => ?_)
      · refine lv_aload_n hx hb dX2_writeShingle_171 rfl (lv_at hl 0 rfl) ?_
        refine lv_dup hx hb dX2_writeShingle_172 rfl ?_
        refine gx_disk_scratchWrites hx hb hts hown hK hP fl_X2_62 dX2_writeShingle_173 ?_
        refine lv_iconst (v := 1) hx hb dX2_writeShingle_176 (by decide) ?_
        refine lv_iadd hx hb dX2_writeShingle_177 ?_
        refine px_disk_scratchWrites hx hb hts hown hK hP fl_X2_62 hD hS hF dX2_writeShingle_178 (fun u9 H locs hF hP hS => ?_)
        refine lv_iconst (v := 1) hx hb dX2_writeShingle_181 (by decide) ?_
        exact sx_retz (Wd := (ax_W a cI L)) (σ := u9) hx hb hr (by decide) hF hP hS hlocks dX2_writeShingle_182
      · refine lv_aload_n hx hb dX2_writeShingle_158 rfl (lv_at hl 0 rfl) ?_
        refine lv_dup hx hb dX2_writeShingle_159 rfl ?_
        refine gx_disk_bandWrites hx hb hts hown hK hP fl_X2_59 dX2_writeShingle_160 ?_
        refine lv_iconst (v := 1) hx hb dX2_writeShingle_163 (by decide) ?_
        refine lv_iadd hx hb dX2_writeShingle_164 ?_
        refine px_disk_bandWrites hx hb hts hown hK hP fl_X2_59 hD hS hF dX2_writeShingle_165 (fun u10 H locs hF hP hS => ?_)
        refine lv_goto (tgt := 181) hx hb dX2_writeShingle_168 (by decide) ?_
        refine lv_iconst (v := 1) hx hb dX2_writeShingle_181 (by decide) ?_
        exact sx_retz (Wd := (ax_W a cI L)) (σ := u10) hx hb hr (by decide) hF hP hS hlocks dX2_writeShingle_182
    · refine lv_iconst (v := 0) hx hb dX2_writeShingle_133 (by decide) ?_
      exact sx_retz (Wd := (ax_W a cI L)) (σ := u7) hx hb hr (by decide) hF hP hS hlocks dX2_writeShingle_134
  have hB106 : ∀ (x1 : Int32) (x3 : Int32) (u : q_St) (ls : Array Slot), lv_has ls 8 [(0, .ref (a 1)), (1, .int x1), (2, .ref (a 18)), (3, .int x3)] → fX2_writeShingle_18_b106 L N x1 x3 u = some (r0, σ0) → ∀ (H : Heap) (locs : List Loc), va_P D vwCl (ax_W a cI L u) H → va_S (ax_A a) s.heap H locs → W p l e (headSpec (Cond.code yX2_writeShingle cX2_writeShingle 8 (some .boolean) :: q_T) ({ frames := 1, cells := 0, slots := 0, locals := 30 } : Room)).room s m ([.ref (a 1), .int o1, .ref (a 18), .int o3] : List Value).toArray below meth c H locs 0 0 (MQ below (q_Qi D vwCl (ax_W a cI L) (ax_A a) r0 σ0) ([.ref (a 1), .int o1, .ref (a 18), .int o3] : List Value).toArray s 0 0 (ax_A a)) (F0 m 106 ls []) := by
    intro x1 x3 u ls hl hF _ _ hP hS
    unfold fX2_writeShingle_18_b106 at hF
    refine lv_aload_n hx hb dX2_writeShingle_106 rfl (lv_at hl 0 rfl) ?_
    obtain ⟨r4, u5, hc6, hF⟩ := q_bnd_some hF
    refine sx_ci (Wd := (ax_W a cI L)) (σ1 := u5) (q_runV (Wd := (ax_W a cI L)) (σ := u) (q0 := 1) (ci := 2) (T := TX2) (N := 15) (As := []) (rest := []) hx hb hml hown hts hK hP (kt_X2_spend hD hc6) cw_X2_68 rfl rfl ⟨Nat.le_of_ble_eq_true rfl, Nat.le_of_ble_eq_true rfl⟩ rfl rfl rfl hl.1 rfl (Nat.le_of_ble_eq_true rfl) dX2_writeShingle_107) hS (fun H locs hP hS => ?_)
    refine lv_istore (lv' := [(7, .int r4), (0, .ref (a 1)), (1, .int x1), (2, .ref (a 18)), (3, .int x3)]) hx hb dX2_writeShingle_110 hl (by decide) rfl (fun ls hl => ?_)
    refine lv_aload_n hx hb dX2_writeShingle_112 rfl (lv_at hl 1 rfl) ?_
    refine gx_disk_lost hx hb hts hown hK hP fl_X2_43 dX2_writeShingle_113 ?_
    refine lv_iload_n hx hb dX2_writeShingle_116 rfl (lv_at hl 2 rfl) ?_
    refine lv_iload hx hb dX2_writeShingle_117 (lv_at hl 0 rfl) ?_
    refine sx_if_ne (tgt := 126) hx hb hF dX2_writeShingle_119 (by decide) (fun hF => ?_) (fun hF => ?_)
    · refine lv_iconst (v := 0) hx hb dX2_writeShingle_126 (by decide) ?_
      exact hB127 x1 x3 r4 0 x1 u5 ls (lv_sub hl [1, 2, 3, 4, 0] rfl) hF _ _ hP hS
    · refine lv_iconst (v := 1) hx hb dX2_writeShingle_122 (by decide) ?_
      refine lv_goto (tgt := 127) hx hb dX2_writeShingle_123 (by decide) ?_
      exact hB127 x1 x3 r4 1 x1 u5 ls (lv_sub hl [1, 2, 3, 4, 0] rfl) hF _ _ hP hS
  have hB75 : ∀ (n : Nat) (x1 : Int32) (x3 : Int32) (x6 : Int32) (x7 : Int32) (u : q_St) (ls : Array Slot), lv_has ls 8 [(0, .ref (a 1)), (1, .int x1), (2, .ref (a 18)), (3, .int x3), (6, .int x6), (7, .int x7)] → q_lp (fX2_writeShingle_18_b75 L N) (fun _ _ _ _ _ => none) n x1 x3 x6 x7 u = some (r0, σ0) → ∀ (H : Heap) (locs : List Loc), va_P D vwCl (ax_W a cI L u) H → va_S (ax_A a) s.heap H locs → W p l e (headSpec (Cond.code yX2_writeShingle cX2_writeShingle 8 (some .boolean) :: q_T) ({ frames := 1, cells := 0, slots := 0, locals := 30 } : Room)).room s m ([.ref (a 1), .int o1, .ref (a 18), .int o3] : List Value).toArray below meth c H locs 0 0 (MQ below (q_Qi D vwCl (ax_W a cI L) (ax_A a) r0 σ0) ([.ref (a 1), .int o1, .ref (a 18), .int o3] : List Value).toArray s 0 0 (ax_A a)) (F0 m 75 ls []) := by
    intro n
    induction n with
    | zero => intro x1 x3 x6 x7 u ls hl hF; exact absurd (show (none : Option (Int32 × q_St)) = some _ from hF) (fun h => nomatch h)
    | succ n hi75 =>
      intro x1 x3 x6 x7 u ls hl hF _ _ hP hS
      obtain ⟨ih75, hih⟩ : ∃ q, q = q_lp (fX2_writeShingle_18_b75 L N) (fun _ _ _ _ _ => none) n := ⟨_, rfl⟩
      rw [← hih] at hi75
      have hF : fX2_writeShingle_18_b75 L N (q_lp (fX2_writeShingle_18_b75 L N) (fun _ _ _ _ _ => none) n) x1 x3 x6 x7 u = some (r0, σ0) := hF
      rw [← hih] at hF
      clear hih
      unfold fX2_writeShingle_18_b75 at hF
      refine lv_iload hx hb dX2_writeShingle_75 (lv_at hl 5 rfl) ?_
      refine lv_iload hx hb dX2_writeShingle_77 (lv_at hl 4 rfl) ?_
      refine sx_icmp_ge (tgt := 106) hx hb hF dX2_writeShingle_79 (by decide) (fun hF => ?_) (fun hF => ?_)
      · exact hB106 x1 x3 u ls (lv_sub hl [0, 1, 2, 3] rfl) hF _ _ hP hS
      · refine lv_iload hx hb dX2_writeShingle_82 (lv_at hl 5 rfl) ?_
        refine lv_aload_n hx hb dX2_writeShingle_84 rfl (lv_at hl 0 rfl) ?_
        refine gx_disk_lost hx hb hts hown hK hP fl_X2_43 dX2_writeShingle_85 ?_
        refine nx_disk_lost hx hb hK hP dX2_writeShingle_88 ?_
        refine sx_icmp_ge (tgt := 106) hx hb hF dX2_writeShingle_89 (by decide) (fun hF => ?_) (fun hF => ?_)
        · exact hB106 x1 x3 u ls (lv_sub hl [0, 1, 2, 3] rfl) hF _ _ hP hS
        · refine lv_aload_n hx hb dX2_writeShingle_92 rfl (lv_at hl 0 rfl) ?_
          refine gx_disk_lost hx hb hts hown hK hP fl_X2_43 dX2_writeShingle_93 ?_
          refine lv_iload hx hb dX2_writeShingle_96 (lv_at hl 5 rfl) ?_
          refine lv_iconst (v := 1) hx hb dX2_writeShingle_98 (by decide) ?_
          refine ux_disk_lost hx hb hK hP hD hS hF dX2_writeShingle_99 (fun u11 H locs hF hP hS => ?_)
          refine sx_iinc (d := 1) (k := 5) (lv2 := [(0, .ref (a 1)), (1, .int x1), (2, .ref (a 18)), (3, .int x3), (6, .int x6)]) hx hb hF dX2_writeShingle_100 hl rfl (by decide) (by decide) rfl (fun v12 hF ls hl => ?_)
          refine lv_goto (tgt := 75) hx hb dX2_writeShingle_103 (by decide) ?_
          exact hi75 x1 x3 x6 v12 u11 ls (lv_sub hl [1, 2, 3, 4, 5, 0] rfl) hF _ _ hP hS
  unfold fX2_writeShingle_18 at hF
  refine lv_iload_n hx hb dX2_writeShingle_0 rfl (lv_at hl 1 rfl) ?_
  refine sx_if_lt (tgt := 26) hx hb hF dX2_writeShingle_1 (by decide) (fun hF => ?_) (fun hF => ?_)
  · refine lv_iconst (v := 0) hx hb dX2_writeShingle_26 (by decide) ?_
    exact sx_retz (Wd := (ax_W a cI L)) (σ := u) hx hb hr (by decide) hF hP hS hlocks dX2_writeShingle_27
  · refine lv_iload_n hx hb dX2_writeShingle_4 rfl (lv_at hl 1 rfl) ?_
    refine lv_aload_n hx hb dX2_writeShingle_5 rfl (lv_at hl 0 rfl) ?_
    refine gx_disk_lost hx hb hts hown hK hP fl_X2_43 dX2_writeShingle_6 ?_
    refine nx_disk_lost hx hb hK hP dX2_writeShingle_9 ?_
    refine sx_icmp_ge (tgt := 26) hx hb hF dX2_writeShingle_10 (by decide) (fun hF => ?_) (fun hF => ?_)
    · refine lv_iconst (v := 0) hx hb dX2_writeShingle_26 (by decide) ?_
      exact sx_retz (Wd := (ax_W a cI L)) (σ := u) hx hb hr (by decide) hF hP hS hlocks dX2_writeShingle_27
    · refine lv_iload_n hx hb dX2_writeShingle_13 rfl (lv_at hl 3 rfl) ?_
      refine sx_if_lt (tgt := 26) hx hb hF dX2_writeShingle_14 (by decide) (fun hF => ?_) (fun hF => ?_)
      · refine lv_iconst (v := 0) hx hb dX2_writeShingle_26 (by decide) ?_
        exact sx_retz (Wd := (ax_W a cI L)) (σ := u) hx hb hr (by decide) hF hP hS hlocks dX2_writeShingle_27
      · refine lv_iload_n hx hb dX2_writeShingle_17 rfl (lv_at hl 3 rfl) ?_
        refine lv_aload_n hx hb dX2_writeShingle_18 rfl (lv_at hl 2 rfl) ?_
        refine nx_vol_page hx hb hK hP dX2_writeShingle_19 ?_
        refine lv_bipush (v := 8) hx hb dX2_writeShingle_20 (by decide) ?_
        refine lv_isub hx hb dX2_writeShingle_22 ?_
        refine sx_icmp_le (tgt := 28) hx hb hF dX2_writeShingle_23 (by decide) (fun hF => ?_) (fun hF => ?_)
        · refine lv_iload_n hx hb dX2_writeShingle_28 rfl (lv_at hl 1 rfl) ?_
          refine lv_iload_n hx hb dX2_writeShingle_29 rfl (lv_at hl 1 rfl) ?_
          refine lv_bipush (v := 8) hx hb dX2_writeShingle_30 (by decide) ?_
          refine lv_irem hx hb dX2_writeShingle_32 (by decide) ?_
          refine lv_isub hx hb dX2_writeShingle_33 ?_
          refine lv_bipush (v := 8) hx hb dX2_writeShingle_34 (by decide) ?_
          refine lv_iadd hx hb dX2_writeShingle_36 ?_
          refine sx_istore (lv2 := [(0, .ref (a 1)), (1, .int o1), (2, .ref (a 18)), (3, .int o3)]) hx hb hF dX2_writeShingle_37 hl (by decide) rfl (fun v1 hF ls hl => ?_)
          refine lv_iload_n hx hb dX2_writeShingle_39 rfl (lv_at hl 2 rfl) ?_
          refine lv_iload_n hx hb dX2_writeShingle_40 rfl (lv_at hl 2 rfl) ?_
          refine lv_aload_n hx hb dX2_writeShingle_41 rfl (lv_at hl 1 rfl) ?_
          refine gx_disk_bandSize hx hb hts hown hK hP fl_X2_30 dX2_writeShingle_42 ?_
          refine sx_irem hx hb hF dX2_writeShingle_45 (fun hF => ?_)
          refine lv_isub hx hb dX2_writeShingle_46 ?_
          refine lv_aload_n hx hb dX2_writeShingle_47 rfl (lv_at hl 1 rfl) ?_
          refine gx_disk_bandSize hx hb hts hown hK hP fl_X2_30 dX2_writeShingle_48 ?_
          refine lv_iadd hx hb dX2_writeShingle_51 ?_
          refine sx_istore (lv2 := [(4, .int v1), (0, .ref (a 1)), (1, .int o1), (2, .ref (a 18)), (3, .int o3)]) hx hb hF dX2_writeShingle_52 hl (by decide) rfl (fun v2 hF ls hl => ?_)
          refine lv_iload hx hb dX2_writeShingle_54 (lv_at hl 0 rfl) ?_
          refine lv_iload hx hb dX2_writeShingle_56 (lv_at hl 1 rfl) ?_
          refine lv_bipush (v := 8) hx hb dX2_writeShingle_58 (by decide) ?_
          refine lv_aload_n hx hb dX2_writeShingle_60 rfl (lv_at hl 2 rfl) ?_
          refine gx_disk_shingles hx hb hts hown hK hP fl_X2_27 dX2_writeShingle_61 ?_
          refine lv_imul hx hb dX2_writeShingle_64 ?_
          refine lv_iadd hx hb dX2_writeShingle_65 ?_
          refine sx_min hx hb (hml.trans hl.1.symm) hown hts lw_X2_9 lb_min_s lb_math lb_min_c (Nat.le_of_ble_eq_true rfl) (Nat.le_of_ble_eq_true rfl) dX2_writeShingle_66 ?_
          refine sx_istore (lv2 := [(5, .int v2), (4, .int v1), (0, .ref (a 1)), (1, .int o1), (2, .ref (a 18)), (3, .int o3)]) hx hb hF dX2_writeShingle_69 hl (by decide) rfl (fun v3 hF ls hl => ?_)
          refine lv_iload hx hb dX2_writeShingle_71 (lv_at hl 2 rfl) ?_
          refine lv_istore (lv' := [(7, .int v1), (6, .int v3), (5, .int v2), (4, .int v1), (0, .ref (a 1)), (1, .int o1), (2, .ref (a 18)), (3, .int o3)]) hx hb dX2_writeShingle_73 hl (by decide) rfl (fun ls hl => ?_)
          exact hB75 N o1 o3 v3 v1 u ls (lv_sub hl [4, 5, 6, 7, 1, 0] rfl) hF _ _ hP hS
        · refine lv_iconst (v := 0) hx hb dX2_writeShingle_26 (by decide) ?_
          exact sx_retz (Wd := (ax_W a cI L)) (σ := u) hx hb hr (by decide) hF hP hS hlocks dX2_writeShingle_27
set_option maxHeartbeats 4000000 in
set_option maxRecDepth 100000 in
theorem kt_X7_byteOf_8 {N : Nat} {l : Launch} {D : va_G} {a : Nat → Nat} {cI : Nat → ClassId} {L : Nat → Nat} (hD : ∀ σ, va_D (ax_A a) (ax_W a cI L σ)) {o1 : Int32} {u σ0 : q_St} {r0 : Int32} (hF : fX7_byteOf_8 L N o1 u = some (r0, σ0)) : Met l yX7_byteOf (Cond.code yX7_byteOf cX7_byteOf 2 (some .int) :: q_T) ({ frames := 0, cells := 0, slots := 0, locals := 0 } : Room) (q_P D vwCl (ax_T cI) (ax_W a cI L) [.ref (a 8), .int o1] u) (q_Qi D vwCl (ax_W a cI L) (ax_A a) r0 σ0) 0 0 (ax_A a) := by
  refine Met.ofW (cc := cX7_byteOf) (maxL := 2) (ret := (some .int)) (by decide) rfl ?_
  intro p e s m args below meth c s₁ B hml hv
  obtain ⟨rfl, hP, hK⟩ := hv
  have hx := B.exec
  have hb := B.bytes
  have hr := B.returns
  have hts := q_ts (atoms_spec (ws := Cond.code yX7_byteOf cX7_byteOf 2 (some .int) :: q_T) B.pre)
  have hown : s.vm.findClass RX7 = some m.cls := findClass_of_methodNamed B.named
  have hlocks := B.notSynchronized
  have hS : va_S (ax_A a) s.heap s.heap [] := va_S.rf
  have hl := lv_entry ([.ref (a 8), .int o1]) (n := 2) (Nat.le_of_ble_eq_true rfl)
  rw [lg_entry_eq]
  generalize (lg_sl ([.ref (a 8), .int o1]) ++ List.replicate (2 - (lg_sl ([.ref (a 8), .int o1])).length) Slot.unset).toArray = ls at hl ⊢
  have hl : lv_has ls 2 [(0, .ref (a 8)), (1, .int o1)] := hl
  unfold fX7_byteOf_8 at hF
  refine lv_iload_n hx hb dX7_byteOf_0 rfl (lv_at hl 1 rfl) ?_
  refine sx_if_lt (tgt := 30) hx hb hF dX7_byteOf_1 (by decide) (fun hF => ?_) (fun hF => ?_)
  · refine lv_iconst (v := 0) hx hb dX7_byteOf_30 (by decide) ?_
    exact sx_reti (Wd := (ax_W a cI L)) (σ := u) hx hb hr hF hP hS hlocks dX7_byteOf_31
  · refine lv_iload_n hx hb dX7_byteOf_4 rfl (lv_at hl 1 rfl) ?_
    refine lv_aload_n hx hb dX7_byteOf_5 rfl (lv_at hl 0 rfl) ?_
    refine gx_tape_length hx hb hts hown hK hP fl_X7_13 dX7_byteOf_6 ?_
    refine sx_icmp_ge (tgt := 30) hx hb hF dX7_byteOf_9 (by decide) (fun hF => ?_) (fun hF => ?_)
    · refine lv_iconst (v := 0) hx hb dX7_byteOf_30 (by decide) ?_
      exact sx_reti (Wd := (ax_W a cI L)) (σ := u) hx hb hr hF hP hS hlocks dX7_byteOf_31
    · refine lv_iload_n hx hb dX7_byteOf_12 rfl (lv_at hl 1 rfl) ?_
      refine lv_aload_n hx hb dX7_byteOf_13 rfl (lv_at hl 0 rfl) ?_
      refine gx_tape_bytes hx hb hts hown hK hP fl_X7_7 dX7_byteOf_14 ?_
      refine nx_tape_bytes hx hb hK hP dX7_byteOf_17 ?_
      refine sx_icmp_ge (tgt := 30) hx hb hF dX7_byteOf_18 (by decide) (fun hF => ?_) (fun hF => ?_)
      · refine lv_iconst (v := 0) hx hb dX7_byteOf_30 (by decide) ?_
        exact sx_reti (Wd := (ax_W a cI L)) (σ := u) hx hb hr hF hP hS hlocks dX7_byteOf_31
      · refine lv_aload_n hx hb dX7_byteOf_21 rfl (lv_at hl 0 rfl) ?_
        refine gx_tape_bytes hx hb hts hown hK hP fl_X7_7 dX7_byteOf_22 ?_
        refine lv_iload_n hx hb dX7_byteOf_25 rfl (lv_at hl 1 rfl) ?_
        refine lx_tape_bytes hx hb hK hP hF dX7_byteOf_26 (fun v1 hF => ?_)
        refine lv_goto (tgt := 31) hx hb dX7_byteOf_27 (by decide) ?_
        exact sx_reti (Wd := (ax_W a cI L)) (σ := u) hx hb hr hF hP hS hlocks dX7_byteOf_31
set_option maxHeartbeats 4000000 in
set_option maxRecDepth 100000 in
theorem kt_X8_fill_8 {N : Nat} {l : Launch} {D : va_G} {a : Nat → Nat} {cI : Nat → ClassId} {L : Nat → Nat} (hD : ∀ σ, va_D (ax_A a) (ax_W a cI L σ))  {u σ0 : q_St} {r0 : Int32} (hF : fX8_fill_8 L N u = some (r0, σ0)) : Met l yX8_fill (Cond.code yX8_fill cX8_fill 8 (some .boolean) :: q_T) ({ frames := 2, cells := 0, slots := 0, locals := 57 } : Room) (q_P D vwCl (ax_T cI) (ax_W a cI L) [.ref (a 2), .ref (a 8)] u) (q_Qi D vwCl (ax_W a cI L) (ax_A a) r0 σ0) 0 0 (ax_A a) := by
  refine Met.ofW (cc := cX8_fill) (maxL := 8) (ret := (some .boolean)) (by decide) rfl ?_
  intro p e s m args below meth c s₁ B hml hv
  obtain ⟨rfl, hP, hK⟩ := hv
  have hx := B.exec
  have hb := B.bytes
  have hr := B.returns
  have hts := q_ts (atoms_spec (ws := Cond.code yX8_fill cX8_fill 8 (some .boolean) :: q_T) B.pre)
  have hown : s.vm.findClass RX8 = some m.cls := findClass_of_methodNamed B.named
  have hlocks := B.notSynchronized
  have hS : va_S (ax_A a) s.heap s.heap [] := va_S.rf
  have hl := lv_entry ([.ref (a 2), .ref (a 8)]) (n := 8) (Nat.le_of_ble_eq_true rfl)
  rw [lg_entry_eq]
  generalize (lg_sl ([.ref (a 2), .ref (a 8)]) ++ List.replicate (8 - (lg_sl ([.ref (a 2), .ref (a 8)])).length) Slot.unset).toArray = ls at hl ⊢
  have hl : lv_has ls 8 [(0, .ref (a 2)), (1, .ref (a 8))] := hl
  have hB72 : ∀ (ih4 : Int32 → Int32 → q_St → Option (Int32 × q_St)) (hi4 : ∀ (x2 : Int32) (x3 : Int32) (u : q_St) (ls : Array Slot), lv_has ls 8 [(0, .ref (a 2)), (1, .ref (a 8)), (2, .int x2), (3, .int x3)] → ih4 x2 x3 u = some (r0, σ0) → ∀ (H : Heap) (locs : List Loc), va_P D vwCl (ax_W a cI L u) H → va_S (ax_A a) s.heap H locs → W p l e (headSpec (Cond.code yX8_fill cX8_fill 8 (some .boolean) :: q_T) ({ frames := 2, cells := 0, slots := 0, locals := 57 } : Room)).room s m ([.ref (a 2), .ref (a 8)] : List Value).toArray below meth c H locs 0 0 (MQ below (q_Qi D vwCl (ax_W a cI L) (ax_A a) r0 σ0) ([.ref (a 2), .ref (a 8)] : List Value).toArray s 0 0 (ax_A a)) (F0 m 4 ls [])), ∀ (ih18 : Int32 → Int32 → Int32 → q_St → Option (Int32 × q_St)) (hi18 : ∀ (x2 : Int32) (x3 : Int32) (x4 : Int32) (u : q_St) (ls : Array Slot), lv_has ls 8 [(0, .ref (a 2)), (1, .ref (a 8)), (2, .int x2), (3, .int x3), (4, .int x4)] → ih18 x2 x3 x4 u = some (r0, σ0) → ∀ (H : Heap) (locs : List Loc), va_P D vwCl (ax_W a cI L u) H → va_S (ax_A a) s.heap H locs → W p l e (headSpec (Cond.code yX8_fill cX8_fill 8 (some .boolean) :: q_T) ({ frames := 2, cells := 0, slots := 0, locals := 57 } : Room)).room s m ([.ref (a 2), .ref (a 8)] : List Value).toArray below meth c H locs 0 0 (MQ below (q_Qi D vwCl (ax_W a cI L) (ax_A a) r0 σ0) ([.ref (a 2), .ref (a 8)] : List Value).toArray s 0 0 (ax_A a)) (F0 m 18 ls [])), ∀ (ih31 : Int32 → Int32 → Int32 → Int64 → Int32 → q_St → Option (Int32 × q_St)) (hi31 : ∀ (x2 : Int32) (x3 : Int32) (x4 : Int32) (x5 : Int64) (x7 : Int32) (u : q_St) (ls : Array Slot), lv_has ls 8 [(0, .ref (a 2)), (1, .ref (a 8)), (2, .int x2), (3, .int x3), (4, .int x4), (5, .long x5), (7, .int x7)] → ih31 x2 x3 x4 x5 x7 u = some (r0, σ0) → ∀ (H : Heap) (locs : List Loc), va_P D vwCl (ax_W a cI L u) H → va_S (ax_A a) s.heap H locs → W p l e (headSpec (Cond.code yX8_fill cX8_fill 8 (some .boolean) :: q_T) ({ frames := 2, cells := 0, slots := 0, locals := 57 } : Room)).room s m ([.ref (a 2), .ref (a 8)] : List Value).toArray below meth c H locs 0 0 (MQ below (q_Qi D vwCl (ax_W a cI L) (ax_A a) r0 σ0) ([.ref (a 2), .ref (a 8)] : List Value).toArray s 0 0 (ax_A a)) (F0 m 31 ls [])), ∀ (x3 : Int32) (x4 : Int32) (x5 : Int64) (x7 : Int32) (y0 : Int32) (u : q_St) (ls : Array Slot), lv_has ls 8 [(0, .ref (a 2)), (1, .ref (a 8)), (3, .int x3), (4, .int x4), (5, .long x5), (7, .int x7)] → fX8_fill_8_b72 L N ih4 ih18 ih31 x3 x4 x5 x7 y0 u = some (r0, σ0) → ∀ (H : Heap) (locs : List Loc), va_P D vwCl (ax_W a cI L u) H → va_S (ax_A a) s.heap H locs → W p l e (headSpec (Cond.code yX8_fill cX8_fill 8 (some .boolean) :: q_T) ({ frames := 2, cells := 0, slots := 0, locals := 57 } : Room)).room s m ([.ref (a 2), .ref (a 8)] : List Value).toArray below meth c H locs 0 0 (MQ below (q_Qi D vwCl (ax_W a cI L) (ax_A a) r0 σ0) ([.ref (a 2), .ref (a 8)] : List Value).toArray s 0 0 (ax_A a)) (F0 m 72 ls [.int y0]) := by
    intro ih4 hi4 ih18 hi18 ih31 hi31 x3 x4 x5 x7 y0 u ls hl hF _ _ hP hS
    unfold fX8_fill_8_b72 at hF
    refine lv_istore_n (lv' := [(2, .int y0), (0, .ref (a 2)), (1, .ref (a 8)), (3, .int x3), (4, .int x4), (5, .long x5), (7, .int x7)]) hx hb dX8_fill_72 rfl hl (by decide) rfl (fun ls hl => ?_)
    refine sx_iinc (d := 1) (k := 6) (lv2 := [(2, .int y0), (0, .ref (a 2)), (1, .ref (a 8)), (3, .int x3), (4, .int x4), (5, .long x5)]) hx hb hF dX8_fill_73 hl rfl (by decide) (by decide) rfl (fun v11 hF ls hl => ?_)
    refine lv_goto (tgt := 31) hx hb dX8_fill_76 (by decide) ?_
    exact hi31 y0 x3 x4 x5 v11 u ls (lv_sub hl [2, 3, 1, 4, 5, 6, 0] rfl) hF _ _ hP hS
  have hB31 : ∀ (ih4 : Int32 → Int32 → q_St → Option (Int32 × q_St)) (hi4 : ∀ (x2 : Int32) (x3 : Int32) (u : q_St) (ls : Array Slot), lv_has ls 8 [(0, .ref (a 2)), (1, .ref (a 8)), (2, .int x2), (3, .int x3)] → ih4 x2 x3 u = some (r0, σ0) → ∀ (H : Heap) (locs : List Loc), va_P D vwCl (ax_W a cI L u) H → va_S (ax_A a) s.heap H locs → W p l e (headSpec (Cond.code yX8_fill cX8_fill 8 (some .boolean) :: q_T) ({ frames := 2, cells := 0, slots := 0, locals := 57 } : Room)).room s m ([.ref (a 2), .ref (a 8)] : List Value).toArray below meth c H locs 0 0 (MQ below (q_Qi D vwCl (ax_W a cI L) (ax_A a) r0 σ0) ([.ref (a 2), .ref (a 8)] : List Value).toArray s 0 0 (ax_A a)) (F0 m 4 ls [])), ∀ (ih18 : Int32 → Int32 → Int32 → q_St → Option (Int32 × q_St)) (hi18 : ∀ (x2 : Int32) (x3 : Int32) (x4 : Int32) (u : q_St) (ls : Array Slot), lv_has ls 8 [(0, .ref (a 2)), (1, .ref (a 8)), (2, .int x2), (3, .int x3), (4, .int x4)] → ih18 x2 x3 x4 u = some (r0, σ0) → ∀ (H : Heap) (locs : List Loc), va_P D vwCl (ax_W a cI L u) H → va_S (ax_A a) s.heap H locs → W p l e (headSpec (Cond.code yX8_fill cX8_fill 8 (some .boolean) :: q_T) ({ frames := 2, cells := 0, slots := 0, locals := 57 } : Room)).room s m ([.ref (a 2), .ref (a 8)] : List Value).toArray below meth c H locs 0 0 (MQ below (q_Qi D vwCl (ax_W a cI L) (ax_A a) r0 σ0) ([.ref (a 2), .ref (a 8)] : List Value).toArray s 0 0 (ax_A a)) (F0 m 18 ls [])), ∀ (n : Nat) (x2 : Int32) (x3 : Int32) (x4 : Int32) (x5 : Int64) (x7 : Int32) (u : q_St) (ls : Array Slot), lv_has ls 8 [(0, .ref (a 2)), (1, .ref (a 8)), (2, .int x2), (3, .int x3), (4, .int x4), (5, .long x5), (7, .int x7)] → q_lp (fX8_fill_8_b31 L N ih4 ih18) (fun _ _ _ _ _ _ => none) n x2 x3 x4 x5 x7 u = some (r0, σ0) → ∀ (H : Heap) (locs : List Loc), va_P D vwCl (ax_W a cI L u) H → va_S (ax_A a) s.heap H locs → W p l e (headSpec (Cond.code yX8_fill cX8_fill 8 (some .boolean) :: q_T) ({ frames := 2, cells := 0, slots := 0, locals := 57 } : Room)).room s m ([.ref (a 2), .ref (a 8)] : List Value).toArray below meth c H locs 0 0 (MQ below (q_Qi D vwCl (ax_W a cI L) (ax_A a) r0 σ0) ([.ref (a 2), .ref (a 8)] : List Value).toArray s 0 0 (ax_A a)) (F0 m 31 ls []) := by
    intro ih4 hi4 ih18 hi18 n
    induction n with
    | zero => intro x2 x3 x4 x5 x7 u ls hl hF; exact absurd (show (none : Option (Int32 × q_St)) = some _ from hF) (fun h => nomatch h)
    | succ n hi31 =>
      intro x2 x3 x4 x5 x7 u ls hl hF _ _ hP hS
      obtain ⟨ih31, hih⟩ : ∃ q, q = q_lp (fX8_fill_8_b31 L N ih4 ih18) (fun _ _ _ _ _ _ => none) n := ⟨_, rfl⟩
      rw [← hih] at hi31
      have hF : fX8_fill_8_b31 L N ih4 ih18 (q_lp (fX8_fill_8_b31 L N ih4 ih18) (fun _ _ _ _ _ _ => none) n) x2 x3 x4 x5 x7 u = some (r0, σ0) := hF
      rw [← hih] at hF
      clear hih
      unfold fX8_fill_8_b31 at hF
      refine lv_iload hx hb dX8_fill_31 (lv_at hl 6 rfl) ?_
      refine lv_bipush (v := 8) hx hb dX8_fill_33 (by decide) ?_
      refine sx_icmp_ge (tgt := 79) hx hb hF dX8_fill_35 (by decide) (fun hF => ?_) (fun hF => ?_)
      · refine lv_aload_n hx hb dX8_fill_79 rfl (lv_at hl 0 rfl) ?_
        refine gx_vol_page hx hb hts hown hK hP fl_X8_40 dX8_fill_80 ?_
        refine lv_iload hx hb dX8_fill_83 (lv_at hl 4 rfl) ?_
        refine lv_lload hx hb dX8_fill_85 (lv_at hl 5 rfl) ?_
        refine ux_vol_page hx hb hK hP hD hS hF dX8_fill_87 (fun u5 H locs hF hP hS => ?_)
        refine sx_iinc (d := 1) (k := 4) (lv2 := [(0, .ref (a 2)), (1, .ref (a 8)), (2, .int x2), (3, .int x3), (5, .long x5), (7, .int x7)]) hx hb hF dX8_fill_88 hl rfl (by decide) (by decide) rfl (fun v6 hF ls hl => ?_)
        refine lv_goto (tgt := 18) hx hb dX8_fill_91 (by decide) ?_
        exact hi18 x2 x3 v6 u5 ls (lv_sub hl [1, 2, 3, 4, 0] rfl) hF _ _ hP hS
      · refine lv_lload hx hb dX8_fill_38 (lv_at hl 5 rfl) ?_
        refine lv_aload_n hx hb dX8_fill_40 rfl (lv_at hl 1 rfl) ?_
        refine lv_iload_n hx hb dX8_fill_41 rfl (lv_at hl 2 rfl) ?_
        obtain ⟨r7, u8, hc9, hF⟩ := q_bnd_some hF
        refine sx_ci (Wd := (ax_W a cI L)) (σ1 := u8) (q_runV (Wd := (ax_W a cI L)) (σ := u) (q0 := 8) (ci := 7) (T := TX7) (N := 2) (As := [.int x2]) (rest := [.long x5]) hx hb hml hown hts hK hP (kt_X7_byteOf_8 hD hc9) cw_X8_156 rfl rfl ⟨Nat.le_of_ble_eq_true rfl, Nat.le_of_ble_eq_true rfl⟩ rfl rfl rfl hl.1 rfl (Nat.le_of_ble_eq_true rfl) dX8_fill_42) hS (fun H locs hP hS => ?_)
        refine lv_i2l (v := Int32.toInt64 r7) hx hb dX8_fill_45 rfl ?_
        refine lv_bipush (v := 8) hx hb dX8_fill_46 (by decide) ?_
        refine lv_iload hx hb dX8_fill_48 (lv_at hl 6 rfl) ?_
        refine lv_imul hx hb dX8_fill_50 ?_
        refine lv_lshl (v := q_lshl (Int32.toInt64 r7) (8 * x7)) hx hb dX8_fill_51 rfl ?_
        refine lv_lor hx hb dX8_fill_52 ?_
        refine sx_lstore (lv2 := [(0, .ref (a 2)), (1, .ref (a 8)), (2, .int x2), (3, .int x3), (4, .int x4), (7, .int x7)]) hx hb hF dX8_fill_53 hl (by decide) rfl (fun v10 hF ls hl => ?_)
        refine lv_iload_n hx hb dX8_fill_55 rfl (lv_at hl 3 rfl) ?_
        refine lv_iconst (v := 1) hx hb dX8_fill_56 (by decide) ?_
        refine lv_iadd hx hb dX8_fill_57 ?_
        refine lv_aload_n hx hb dX8_fill_58 rfl (lv_at hl 2 rfl) ?_
        refine gx_tape_length hx hb hts hown hK hP fl_X8_159 dX8_fill_59 ?_
        refine sx_icmp_ge (tgt := 71) hx hb hF dX8_fill_62 (by decide) (fun hF => ?_) (fun hF => ?_)
        · refine lv_iconst (v := 0) hx hb dX8_fill_71 (by decide) ?_
          exact hB72 ih4 hi4 ih18 hi18 ih31 hi31 x3 x4 v10 x7 0 u8 ls (lv_sub hl [1, 2, 4, 5, 0, 6] rfl) hF _ _ hP hS
        · refine lv_iload_n hx hb dX8_fill_65 rfl (lv_at hl 3 rfl) ?_
          refine lv_iconst (v := 1) hx hb dX8_fill_66 (by decide) ?_
          refine lv_iadd hx hb dX8_fill_67 ?_
          refine lv_goto (tgt := 72) hx hb dX8_fill_68 (by decide) ?_
          exact hB72 ih4 hi4 ih18 hi18 ih31 hi31 x3 x4 v10 x7 (x2 + 1) u8 ls (lv_sub hl [1, 2, 4, 5, 0, 6] rfl) hF _ _ hP hS
  have hB18 : ∀ (ih4 : Int32 → Int32 → q_St → Option (Int32 × q_St)) (hi4 : ∀ (x2 : Int32) (x3 : Int32) (u : q_St) (ls : Array Slot), lv_has ls 8 [(0, .ref (a 2)), (1, .ref (a 8)), (2, .int x2), (3, .int x3)] → ih4 x2 x3 u = some (r0, σ0) → ∀ (H : Heap) (locs : List Loc), va_P D vwCl (ax_W a cI L u) H → va_S (ax_A a) s.heap H locs → W p l e (headSpec (Cond.code yX8_fill cX8_fill 8 (some .boolean) :: q_T) ({ frames := 2, cells := 0, slots := 0, locals := 57 } : Room)).room s m ([.ref (a 2), .ref (a 8)] : List Value).toArray below meth c H locs 0 0 (MQ below (q_Qi D vwCl (ax_W a cI L) (ax_A a) r0 σ0) ([.ref (a 2), .ref (a 8)] : List Value).toArray s 0 0 (ax_A a)) (F0 m 4 ls [])), ∀ (n : Nat) (x2 : Int32) (x3 : Int32) (x4 : Int32) (u : q_St) (ls : Array Slot), lv_has ls 8 [(0, .ref (a 2)), (1, .ref (a 8)), (2, .int x2), (3, .int x3), (4, .int x4)] → q_lp (fX8_fill_8_b18 L N ih4) (fun _ _ _ _ => none) n x2 x3 x4 u = some (r0, σ0) → ∀ (H : Heap) (locs : List Loc), va_P D vwCl (ax_W a cI L u) H → va_S (ax_A a) s.heap H locs → W p l e (headSpec (Cond.code yX8_fill cX8_fill 8 (some .boolean) :: q_T) ({ frames := 2, cells := 0, slots := 0, locals := 57 } : Room)).room s m ([.ref (a 2), .ref (a 8)] : List Value).toArray below meth c H locs 0 0 (MQ below (q_Qi D vwCl (ax_W a cI L) (ax_A a) r0 σ0) ([.ref (a 2), .ref (a 8)] : List Value).toArray s 0 0 (ax_A a)) (F0 m 18 ls []) := by
    intro ih4 hi4 n
    induction n with
    | zero => intro x2 x3 x4 u ls hl hF; exact absurd (show (none : Option (Int32 × q_St)) = some _ from hF) (fun h => nomatch h)
    | succ n hi18 =>
      intro x2 x3 x4 u ls hl hF _ _ hP hS
      obtain ⟨ih18, hih⟩ : ∃ q, q = q_lp (fX8_fill_8_b18 L N ih4) (fun _ _ _ _ => none) n := ⟨_, rfl⟩
      rw [← hih] at hi18
      have hF : fX8_fill_8_b18 L N ih4 (q_lp (fX8_fill_8_b18 L N ih4) (fun _ _ _ _ => none) n) x2 x3 x4 u = some (r0, σ0) := hF
      rw [← hih] at hF
      clear hih
      unfold fX8_fill_8_b18 at hF
      refine lv_iload hx hb dX8_fill_18 (lv_at hl 4 rfl) ?_
      refine lv_bipush (v := 8) hx hb dX8_fill_20 (by decide) ?_
      refine sx_icmp_ge (tgt := 94) hx hb hF dX8_fill_22 (by decide) (fun hF => ?_) (fun hF => ?_)
      · refine lv_aload_n hx hb dX8_fill_94 rfl (lv_at hl 0 rfl) ?_
        refine gx_vol_disk hx hb hts hown hK hP fl_X8_9 dX8_fill_95 ?_
        refine lv_aload_n hx hb dX8_fill_98 rfl (lv_at hl 0 rfl) ?_
        refine gx_vol_streamed hx hb hts hown hK hP fl_X8_62 dX8_fill_99 ?_
        refine lv_aload_n hx hb dX8_fill_102 rfl (lv_at hl 0 rfl) ?_
        refine gx_vol_disk hx hb hts hown hK hP fl_X8_9 dX8_fill_103 ?_
        refine gx_disk_bandSize hx hb hts hown hK hP fl_X8_71 dX8_fill_106 ?_
        refine lv_imul hx hb dX8_fill_109 ?_
        refine lv_iload_n hx hb dX8_fill_110 rfl (lv_at hl 3 rfl) ?_
        refine lv_iadd hx hb dX8_fill_111 ?_
        refine lv_aload_n hx hb dX8_fill_112 rfl (lv_at hl 0 rfl) ?_
        refine gx_vol_page hx hb hts hown hK hP fl_X8_40 dX8_fill_113 ?_
        refine lv_iconst (v := 0) hx hb dX8_fill_116 (by decide) ?_
        obtain ⟨r1, u2, hc3, hF⟩ := q_bnd_some hF
        refine sx_ci (Wd := (ax_W a cI L)) (σ1 := u2) (q_runV (Wd := (ax_W a cI L)) (σ := u) (q0 := 1) (ci := 2) (T := TX2) (N := 15) (As := [.int (((q_i u 20) * (q_i u 4)) + x3), .ref (a 18), .int 0]) (rest := []) hx hb hml hown hts hK hP (kt_X2_writeShingle_18 hD hc3) cw_X8_144 rfl rfl ⟨Nat.le_of_ble_eq_true rfl, Nat.le_of_ble_eq_true rfl⟩ rfl rfl rfl hl.1 rfl (Nat.le_of_ble_eq_true rfl) dX8_fill_117) hS (fun H locs hP hS => ?_)
        refine sx_if_ne (tgt := 125) hx hb hF dX8_fill_120 (by decide) (fun hF => ?_) (fun hF => ?_)
        · refine sx_iinc (d := 1) (k := 3) (lv2 := [(0, .ref (a 2)), (1, .ref (a 8)), (2, .int x2), (4, .int x4)]) hx hb hF dX8_fill_125 hl rfl (by decide) (by decide) rfl (fun v4 hF ls hl => ?_)
          refine lv_goto (tgt := 4) hx hb dX8_fill_128 (by decide) ?_
          exact hi4 x2 v4 u2 ls (lv_sub hl [1, 2, 3, 0] rfl) hF _ _ hP hS
        · refine lv_iconst (v := 0) hx hb dX8_fill_123 (by decide) ?_
          exact sx_retz (Wd := (ax_W a cI L)) (σ := u2) hx hb hr (by decide) hF hP hS hlocks dX8_fill_124
      · refine lv_lconst (v := 0) hx hb dX8_fill_25 (by decide) ?_
        refine lv_lstore (lv' := [(5, .long 0), (0, .ref (a 2)), (1, .ref (a 8)), (2, .int x2), (3, .int x3), (4, .int x4)]) hx hb dX8_fill_26 hl (by decide) rfl (fun ls hl => ?_)
        refine lv_iconst (v := 0) hx hb dX8_fill_28 (by decide) ?_
        refine lv_istore (lv' := [(7, .int 0), (5, .long 0), (0, .ref (a 2)), (1, .ref (a 8)), (2, .int x2), (3, .int x3), (4, .int x4)]) hx hb dX8_fill_29 hl (by decide) rfl (fun ls hl => ?_)
        exact hB31 ih4 hi4 ih18 hi18 N x2 x3 x4 0 0 u ls (lv_sub hl [2, 3, 4, 5, 6, 1, 0] rfl) hF _ _ hP hS
  have hB4 : ∀ (n : Nat) (x2 : Int32) (x3 : Int32) (u : q_St) (ls : Array Slot), lv_has ls 8 [(0, .ref (a 2)), (1, .ref (a 8)), (2, .int x2), (3, .int x3)] → q_lp (fX8_fill_8_b4 L N) (fun _ _ _ => none) n x2 x3 u = some (r0, σ0) → ∀ (H : Heap) (locs : List Loc), va_P D vwCl (ax_W a cI L u) H → va_S (ax_A a) s.heap H locs → W p l e (headSpec (Cond.code yX8_fill cX8_fill 8 (some .boolean) :: q_T) ({ frames := 2, cells := 0, slots := 0, locals := 57 } : Room)).room s m ([.ref (a 2), .ref (a 8)] : List Value).toArray below meth c H locs 0 0 (MQ below (q_Qi D vwCl (ax_W a cI L) (ax_A a) r0 σ0) ([.ref (a 2), .ref (a 8)] : List Value).toArray s 0 0 (ax_A a)) (F0 m 4 ls []) := by
    intro n
    induction n with
    | zero => intro x2 x3 u ls hl hF; exact absurd (show (none : Option (Int32 × q_St)) = some _ from hF) (fun h => nomatch h)
    | succ n hi4 =>
      intro x2 x3 u ls hl hF _ _ hP hS
      obtain ⟨ih4, hih⟩ : ∃ q, q = q_lp (fX8_fill_8_b4 L N) (fun _ _ _ => none) n := ⟨_, rfl⟩
      rw [← hih] at hi4
      have hF : fX8_fill_8_b4 L N (q_lp (fX8_fill_8_b4 L N) (fun _ _ _ => none) n) x2 x3 u = some (r0, σ0) := hF
      rw [← hih] at hF
      clear hih
      unfold fX8_fill_8_b4 at hF
      refine lv_iload_n hx hb dX8_fill_4 rfl (lv_at hl 3 rfl) ?_
      refine lv_aload_n hx hb dX8_fill_5 rfl (lv_at hl 0 rfl) ?_
      refine gx_vol_disk hx hb hts hown hK hP fl_X8_9 dX8_fill_6 ?_
      refine gx_disk_bandSize hx hb hts hown hK hP fl_X8_71 dX8_fill_9 ?_
      refine sx_icmp_ge (tgt := 131) hx hb hF dX8_fill_12 (by decide) (fun hF => ?_) (fun hF => ?_)
      · refine lv_iconst (v := 1) hx hb dX8_fill_131 (by decide) ?_
        exact sx_retz (Wd := (ax_W a cI L)) (σ := u) hx hb hr (by decide) hF hP hS hlocks dX8_fill_132
      · refine lv_iconst (v := 0) hx hb dX8_fill_15 (by decide) ?_
        refine lv_istore (lv' := [(4, .int 0), (0, .ref (a 2)), (1, .ref (a 8)), (2, .int x2), (3, .int x3)]) hx hb dX8_fill_16 hl (by decide) rfl (fun ls hl => ?_)
        exact hB18 ih4 hi4 N x2 x3 0 u ls (lv_sub hl [1, 2, 3, 4, 0] rfl) hF _ _ hP hS
  unfold fX8_fill_8 at hF
  refine lv_iconst (v := 0) hx hb dX8_fill_0 (by decide) ?_
  refine lv_istore_n (lv' := [(2, .int 0), (0, .ref (a 2)), (1, .ref (a 8))]) hx hb dX8_fill_1 rfl hl (by decide) rfl (fun ls hl => ?_)
  refine lv_iconst (v := 0) hx hb dX8_fill_2 (by decide) ?_
  refine lv_istore_n (lv' := [(3, .int 0), (2, .int 0), (0, .ref (a 2)), (1, .ref (a 8))]) hx hb dX8_fill_3 rfl hl (by decide) rfl (fun ls hl => ?_)
  exact hB4 N 0 0 u ls (lv_sub hl [2, 3, 1, 0] rfl) hF _ _ hP hS
set_option maxHeartbeats 4000000 in
set_option maxRecDepth 100000 in
theorem kt_X8_endStream {N : Nat} {l : Launch} {D : va_G} {a : Nat → Nat} {cI : Nat → ClassId} {L : Nat → Nat} (hD : ∀ σ, va_D (ax_A a) (ax_W a cI L σ))  {u σ0 : q_St} {r0 : Int32} (hF : fX8_endStream L N u = some (r0, σ0)) : Met l yX8_endStream (Cond.code yX8_endStream cX8_endStream 1 (some .boolean) :: q_T) ({ frames := 2, cells := 0, slots := 0, locals := 45 } : Room) (q_P D vwCl (ax_T cI) (ax_W a cI L) [.ref (a 2)] u) (q_Qi D vwCl (ax_W a cI L) (ax_A a) r0 σ0) 0 0 (ax_A a) := by
  refine Met.ofW (cc := cX8_endStream) (maxL := 1) (ret := (some .boolean)) (by decide) rfl ?_
  intro p e s m args below meth c s₁ B hml hv
  obtain ⟨rfl, hP, hK⟩ := hv
  have hx := B.exec
  have hb := B.bytes
  have hr := B.returns
  have hts := q_ts (atoms_spec (ws := Cond.code yX8_endStream cX8_endStream 1 (some .boolean) :: q_T) B.pre)
  have hown : s.vm.findClass RX8 = some m.cls := findClass_of_methodNamed B.named
  have hlocks := B.notSynchronized
  have hS : va_S (ax_A a) s.heap s.heap [] := va_S.rf
  have hl := lv_entry ([.ref (a 2)]) (n := 1) (Nat.le_of_ble_eq_true rfl)
  rw [lg_entry_eq]
  generalize (lg_sl ([.ref (a 2)]) ++ List.replicate (1 - (lg_sl ([.ref (a 2)])).length) Slot.unset).toArray = ls at hl ⊢
  have hl : lv_has ls 1 [(0, .ref (a 2))] := hl
  unfold fX8_endStream at hF
  refine lv_aload_n hx hb dX8_endStream_0 rfl (lv_at hl 0 rfl) ?_
  refine gx_vol_disk hx hb hts hown hK hP fl_X8_9 dX8_endStream_1 ?_
  obtain ⟨r1, u2, hc3, hF⟩ := q_bnd_some hF
  refine sx_ci (Wd := (ax_W a cI L)) (σ1 := u2) (q_runV (Wd := (ax_W a cI L)) (σ := u) (q0 := 1) (ci := 2) (T := TX2) (N := 15) (As := []) (rest := []) hx hb hml hown hts hK hP (kt_X2_writeRecord hD hc3) cw_X8_131 rfl rfl ⟨Nat.le_of_ble_eq_true rfl, Nat.le_of_ble_eq_true rfl⟩ rfl rfl rfl hl.1 rfl (Nat.le_of_ble_eq_true rfl) dX8_endStream_4) hS (fun H locs hP hS => ?_)
  refine sx_if_ne (tgt := 12) hx hb hF dX8_endStream_7 (by decide) (fun hF => ?_) (fun hF => ?_)
  · refine lv_aload_n hx hb dX8_endStream_12 rfl (lv_at hl 0 rfl) ?_
    refine lv_iconst (v := (-1)) hx hb dX8_endStream_13 (by decide) ?_
    refine px_vol_streamed hx hb hts hown hK hP fl_X8_62 hD hS hF dX8_endStream_14 (fun u4 H locs hF hP hS => ?_)
    refine lv_aload_n hx hb dX8_endStream_17 rfl (lv_at hl 0 rfl) ?_
    refine lv_aload_n hx hb dX8_endStream_18 rfl (lv_at hl 0 rfl) ?_
    obtain ⟨r5, u6, hc7, hF⟩ := q_bnd_some hF
    refine sx_ci (Wd := (ax_W a cI L)) (σ1 := u6) (q_runV (Wd := (ax_W a cI L)) (σ := u4) (q0 := 2) (ci := 8) (T := TX8) (N := 15) (As := []) (rest := [.ref (a 2)]) hx hb hml hown hts hK hP (kt_X8_oldest hD hc7) cw_X8_100 rfl rfl ⟨Nat.le_of_ble_eq_true rfl, Nat.le_of_ble_eq_true rfl⟩ rfl rfl rfl hl.1 rfl (Nat.le_of_ble_eq_true rfl) dX8_endStream_19) hS (fun H locs hP hS => ?_)
    refine px_vol_tail hx hb hts hown hK hP fl_X8_68 hD hS hF dX8_endStream_22 (fun u8 H locs hF hP hS => ?_)
    refine lv_iconst (v := 1) hx hb dX8_endStream_25 (by decide) ?_
    exact sx_retz (Wd := (ax_W a cI L)) (σ := u8) hx hb hr (by decide) hF hP hS hlocks dX8_endStream_26
  · refine lv_iconst (v := 0) hx hb dX8_endStream_10 (by decide) ?_
    exact sx_retz (Wd := (ax_W a cI L)) (σ := u2) hx hb hr (by decide) hF hP hS hlocks dX8_endStream_11
set_option maxHeartbeats 4000000 in
set_option maxRecDepth 100000 in
theorem kt_X8_stream_8 {N : Nat} {l : Launch} {D : va_G} {a : Nat → Nat} {cI : Nat → ClassId} {L : Nat → Nat} (hD : ∀ σ, va_D (ax_A a) (ax_W a cI L σ)) {o1 : Int32} {u σ0 : q_St} {r0 : Int32} (hF : fX8_stream_8 L N o1 u = some (r0, σ0)) : Met l yX8_stream (Cond.code yX8_stream cX8_stream 3 (some .boolean) :: q_T) ({ frames := 3, cells := 0, slots := 0, locals := 84 } : Room) (q_P D vwCl (ax_T cI) (ax_W a cI L) [.ref (a 2), .int o1, .ref (a 8)] u) (q_Qi D vwCl (ax_W a cI L) (ax_A a) r0 σ0) 0 0 (ax_A a) := by
  refine Met.ofW (cc := cX8_stream) (maxL := 3) (ret := (some .boolean)) (by decide) rfl ?_
  intro p e s m args below meth c s₁ B hml hv
  obtain ⟨rfl, hP, hK⟩ := hv
  have hx := B.exec
  have hb := B.bytes
  have hr := B.returns
  have hts := q_ts (atoms_spec (ws := Cond.code yX8_stream cX8_stream 3 (some .boolean) :: q_T) B.pre)
  have hown : s.vm.findClass RX8 = some m.cls := findClass_of_methodNamed B.named
  have hlocks := B.notSynchronized
  have hS : va_S (ax_A a) s.heap s.heap [] := va_S.rf
  have hl := lv_entry ([.ref (a 2), .int o1, .ref (a 8)]) (n := 3) (Nat.le_of_ble_eq_true rfl)
  rw [lg_entry_eq]
  generalize (lg_sl ([.ref (a 2), .int o1, .ref (a 8)]) ++ List.replicate (3 - (lg_sl ([.ref (a 2), .int o1, .ref (a 8)])).length) Slot.unset).toArray = ls at hl ⊢
  have hl : lv_has ls 3 [(0, .ref (a 2)), (1, .int o1), (2, .ref (a 8))] := hl
  unfold fX8_stream_8 at hF
  refine lv_iload_n hx hb dX8_stream_0 rfl (lv_at hl 1 rfl) ?_
  refine sx_if_lt (tgt := 23) hx hb hF dX8_stream_1 (by decide) (fun hF => ?_) (fun hF => ?_)
  · refine lv_iconst (v := 0) hx hb dX8_stream_23 (by decide) ?_
    exact sx_retz (Wd := (ax_W a cI L)) (σ := u) hx hb hr (by decide) hF hP hS hlocks dX8_stream_24
  · refine lv_iload_n hx hb dX8_stream_4 rfl (lv_at hl 1 rfl) ?_
    refine lv_aload_n hx hb dX8_stream_5 rfl (lv_at hl 0 rfl) ?_
    refine gx_vol_marks hx hb hts hown hK hP fl_X8_21 dX8_stream_6 ?_
    refine nx_vol_marks hx hb hK hP dX8_stream_9 ?_
    refine sx_icmp_ge (tgt := 23) hx hb hF dX8_stream_10 (by decide) (fun hF => ?_) (fun hF => ?_)
    · refine lv_iconst (v := 0) hx hb dX8_stream_23 (by decide) ?_
      exact sx_retz (Wd := (ax_W a cI L)) (σ := u) hx hb hr (by decide) hF hP hS hlocks dX8_stream_24
    · refine lv_aload_n hx hb dX8_stream_13 rfl (lv_at hl 0 rfl) ?_
      refine gx_vol_disk hx hb hts hown hK hP fl_X8_9 dX8_stream_14 ?_
      obtain ⟨r1, u2, hc3, hF⟩ := q_bnd_some hF
      refine sx_ci (Wd := (ax_W a cI L)) (σ1 := u2) (q_runV (Wd := (ax_W a cI L)) (σ := u) (q0 := 1) (ci := 2) (T := TX2) (N := 15) (As := []) (rest := []) hx hb hml hown hts hK hP (kt_X2_writeRecord hD hc3) cw_X8_131 rfl rfl ⟨Nat.le_of_ble_eq_true rfl, Nat.le_of_ble_eq_true rfl⟩ rfl rfl rfl hl.1 rfl (Nat.le_of_ble_eq_true rfl) dX8_stream_17) hS (fun H locs hP hS => ?_)
      refine sx_if_ne (tgt := 25) hx hb hF dX8_stream_20 (by decide) (fun hF => ?_) (fun hF => ?_)
      · refine lv_aload_n hx hb dX8_stream_25 rfl (lv_at hl 0 rfl) ?_
        refine gx_vol_marks hx hb hts hown hK hP fl_X8_21 dX8_stream_26 ?_
        refine lv_iload_n hx hb dX8_stream_29 rfl (lv_at hl 1 rfl) ?_
        refine lv_aload_n hx hb dX8_stream_30 rfl (lv_at hl 0 rfl) ?_
        refine gx_vol_head hx hb hts hown hK hP fl_X8_65 dX8_stream_31 ?_
        refine ux_vol_marks hx hb hK hP hD hS hF dX8_stream_34 (fun u4 H locs hF hP hS => ?_)
        refine lv_aload_n hx hb dX8_stream_35 rfl (lv_at hl 0 rfl) ?_
        refine lv_iload_n hx hb dX8_stream_36 rfl (lv_at hl 1 rfl) ?_
        refine px_vol_streamed hx hb hts hown hK hP fl_X8_62 hD hS hF dX8_stream_37 (fun u5 H locs hF hP hS => ?_)
        refine lv_aload_n hx hb dX8_stream_40 rfl (lv_at hl 0 rfl) ?_
        refine lv_aload_n hx hb dX8_stream_41 rfl (lv_at hl 2 rfl) ?_
        obtain ⟨r6, u7, hc8, hF⟩ := q_bnd_some hF
        refine sx_ci (Wd := (ax_W a cI L)) (σ1 := u7) (q_runV (Wd := (ax_W a cI L)) (σ := u5) (q0 := 2) (ci := 8) (T := TX8) (N := 15) (As := [.ref (a 8)]) (rest := []) hx hb hml hown hts hK hP (kt_X8_fill_8 hD hc8) cw_X8_150 rfl rfl ⟨Nat.le_of_ble_eq_true rfl, Nat.le_of_ble_eq_true rfl⟩ rfl rfl rfl hl.1 rfl (Nat.le_of_ble_eq_true rfl) dX8_stream_42) hS (fun H locs hP hS => ?_)
        refine sx_if_eq (tgt := 59) hx hb hF dX8_stream_45 (by decide) (fun hF => ?_) (fun hF => ?_)
        · refine lv_iconst (v := 0) hx hb dX8_stream_59 (by decide) ?_
          exact sx_retz (Wd := (ax_W a cI L)) (σ := u7) hx hb hr (by decide) hF hP hS hlocks dX8_stream_60
        · refine lv_aload_n hx hb dX8_stream_48 rfl (lv_at hl 0 rfl) ?_
          obtain ⟨r9, u10, hc11, hF⟩ := q_bnd_some hF
          refine sx_ci (Wd := (ax_W a cI L)) (σ1 := u10) (q_runV (Wd := (ax_W a cI L)) (σ := u7) (q0 := 2) (ci := 8) (T := TX8) (N := 15) (As := []) (rest := []) hx hb hml hown hts hK hP (kt_X8_endStream hD hc11) cw_X8_153 rfl rfl ⟨Nat.le_of_ble_eq_true rfl, Nat.le_of_ble_eq_true rfl⟩ rfl rfl rfl hl.1 rfl (Nat.le_of_ble_eq_true rfl) dX8_stream_49) hS (fun H locs hP hS => ?_)
          refine sx_if_eq (tgt := 59) hx hb hF dX8_stream_52 (by decide) (fun hF => ?_) (fun hF => ?_)
          · refine lv_iconst (v := 0) hx hb dX8_stream_59 (by decide) ?_
            exact sx_retz (Wd := (ax_W a cI L)) (σ := u10) hx hb hr (by decide) hF hP hS hlocks dX8_stream_60
          · refine lv_iconst (v := 1) hx hb dX8_stream_55 (by decide) ?_
            refine lv_goto (tgt := 60) hx hb dX8_stream_56 (by decide) ?_
            exact sx_retz (Wd := (ax_W a cI L)) (σ := u10) hx hb hr (by decide) hF hP hS hlocks dX8_stream_60
      · refine lv_iconst (v := 0) hx hb dX8_stream_23 (by decide) ?_
        exact sx_retz (Wd := (ax_W a cI L)) (σ := u2) hx hb hr (by decide) hF hP hS hlocks dX8_stream_24
set_option maxHeartbeats 4000000 in
set_option maxRecDepth 100000 in
theorem kt_X5_takeBand {N : Nat} {l : Launch} {D : va_G} {a : Nat → Nat} {cI : Nat → ClassId} {L : Nat → Nat} (hD : ∀ σ, va_D (ax_A a) (ax_W a cI L σ)) {o1 : Int32} {u σ0 : q_St} {r0 : Unit} (hF : fX5_takeBand L N o1 u = some (r0, σ0)) : Met l yX5_takeBand (Cond.code yX5_takeBand cX5_takeBand 7 none :: q_T) ({ frames := 2, cells := 0, slots := 0, locals := 54 } : Room) (q_P D vwCl (ax_T cI) (ax_W a cI L) [.ref (a 4), .int o1] u) (q_Qv D vwCl (ax_W a cI L) (ax_A a) σ0) 0 0 (ax_A a) := by
  refine Met.ofW (cc := cX5_takeBand) (maxL := 7) (ret := none) (by decide) rfl ?_
  intro p e s m args below meth c s₁ B hml hv
  obtain ⟨rfl, hP, hK⟩ := hv
  have hx := B.exec
  have hb := B.bytes
  have hr := B.returns
  have hts := q_ts (atoms_spec (ws := Cond.code yX5_takeBand cX5_takeBand 7 none :: q_T) B.pre)
  have hown : s.vm.findClass RX5 = some m.cls := findClass_of_methodNamed B.named
  have hlocks := B.notSynchronized
  have hS : va_S (ax_A a) s.heap s.heap [] := va_S.rf
  have hl := lv_entry ([.ref (a 4), .int o1]) (n := 7) (Nat.le_of_ble_eq_true rfl)
  rw [lg_entry_eq]
  generalize (lg_sl ([.ref (a 4), .int o1]) ++ List.replicate (7 - (lg_sl ([.ref (a 4), .int o1])).length) Slot.unset).toArray = ls at hl ⊢
  have hl : lv_has ls 7 [(0, .ref (a 4)), (1, .int o1)] := hl
  have hB9 : ∀ (n : Nat) (x2 : Int32) (x3 : Int32) (u : q_St) (ls : Array Slot), lv_has ls 7 [(0, .ref (a 4)), (2, .int x2), (3, .int x3)] → q_lp (fX5_takeBand_b9 L N) (fun _ _ _ => none) n x2 x3 u = some (r0, σ0) → ∀ (H : Heap) (locs : List Loc), va_P D vwCl (ax_W a cI L u) H → va_S (ax_A a) s.heap H locs → W p l e (headSpec (Cond.code yX5_takeBand cX5_takeBand 7 none :: q_T) ({ frames := 2, cells := 0, slots := 0, locals := 54 } : Room)).room s m ([.ref (a 4), .int o1] : List Value).toArray below meth c H locs 0 0 (MQ below (q_Qv D vwCl (ax_W a cI L) (ax_A a) σ0) ([.ref (a 4), .int o1] : List Value).toArray s 0 0 (ax_A a)) (F0 m 9 ls []) := by
    intro n
    induction n with
    | zero => intro x2 x3 u ls hl hF; exact absurd (show (none : Option (Unit × q_St)) = some _ from hF) (fun h => nomatch h)
    | succ n hi9 =>
      intro x2 x3 u ls hl hF _ _ hP hS
      obtain ⟨ih9, hih⟩ : ∃ q, q = q_lp (fX5_takeBand_b9 L N) (fun _ _ _ => none) n := ⟨_, rfl⟩
      rw [← hih] at hi9
      have hF : fX5_takeBand_b9 L N (q_lp (fX5_takeBand_b9 L N) (fun _ _ _ => none) n) x2 x3 u = some (r0, σ0) := hF
      rw [← hih] at hF
      clear hih
      unfold fX5_takeBand_b9 at hF
      refine lv_iload_n hx hb dX5_takeBand_9 rfl (lv_at hl 2 rfl) ?_
      refine lv_iload_n hx hb dX5_takeBand_10 rfl (lv_at hl 1 rfl) ?_
      refine lv_aload_n hx hb dX5_takeBand_11 rfl (lv_at hl 0 rfl) ?_
      refine gx_space_bandSize hx hb hts hown hK hP fl_X5_25 dX5_takeBand_12 ?_
      refine lv_iadd hx hb dX5_takeBand_15 ?_
      refine sx_icmp_ge (tgt := 80) hx hb hF dX5_takeBand_16 (by decide) (fun hF => ?_) (fun hF => ?_)
      · exact sx_retv (Wd := (ax_W a cI L)) (σ := u) hx hb hr hF hP hS hlocks dX5_takeBand_80
      · refine lv_iload_n hx hb dX5_takeBand_19 rfl (lv_at hl 2 rfl) ?_
        refine lv_sipush (v := 512) hx hb dX5_takeBand_20 (by decide) ?_
        refine lv_irem hx hb dX5_takeBand_23 (by decide) ?_
        refine lv_bipush (v := 64) hx hb dX5_takeBand_24 (by decide) ?_
        refine lv_idiv hx hb dX5_takeBand_26 (by decide) ?_
        refine sx_istore (lv2 := [(0, .ref (a 4)), (2, .int x2), (3, .int x3)]) hx hb hF dX5_takeBand_27 hl (by decide) rfl (fun v2 hF ls hl => ?_)
        refine lv_aload_n hx hb dX5_takeBand_29 rfl (lv_at hl 1 rfl) ?_
        refine gx_space_store hx hb hts hown hK hP fl_X5_9 dX5_takeBand_30 ?_
        refine lv_bipush (v := 80) hx hb dX5_takeBand_33 (by decide) ?_
        refine lv_iload_n hx hb dX5_takeBand_35 rfl (lv_at hl 3 rfl) ?_
        refine lv_sipush (v := 512) hx hb dX5_takeBand_36 (by decide) ?_
        refine lv_idiv hx hb dX5_takeBand_39 (by decide) ?_
        refine lv_iadd hx hb dX5_takeBand_40 ?_
        refine lv_iload hx hb dX5_takeBand_41 (lv_at hl 0 rfl) ?_
        obtain ⟨r3, u4, hc5, hF⟩ := q_bnd_some hF
        refine sx_cl (Wd := (ax_W a cI L)) (σ1 := u4) (q_runV (Wd := (ax_W a cI L)) (σ := u) (q0 := 3) (ci := 6) (T := TX6) (N := 9) (As := [.int (80 + (x3 / 512)), .int v2]) (rest := []) hx hb hml hown hts hK hP (kt_X6_word hD hc5) cw_X5_35 rfl rfl ⟨Nat.le_of_ble_eq_true rfl, Nat.le_of_ble_eq_true rfl⟩ rfl rfl rfl hl.1 rfl (Nat.le_of_ble_eq_true rfl) dX5_takeBand_43) hS (fun H locs hP hS => ?_)
        refine lv_lstore (lv' := [(5, .long r3), (4, .int v2), (0, .ref (a 4)), (2, .int x2), (3, .int x3)]) hx hb dX5_takeBand_46 hl (by decide) rfl (fun ls hl => ?_)
        refine lv_aload_n hx hb dX5_takeBand_48 rfl (lv_at hl 2 rfl) ?_
        refine gx_space_store hx hb hts hown hK hP fl_X5_9 dX5_takeBand_49 ?_
        refine lv_bipush (v := 80) hx hb dX5_takeBand_52 (by decide) ?_
        refine lv_iload_n hx hb dX5_takeBand_54 rfl (lv_at hl 4 rfl) ?_
        refine lv_sipush (v := 512) hx hb dX5_takeBand_55 (by decide) ?_
        refine lv_idiv hx hb dX5_takeBand_58 (by decide) ?_
        refine lv_iadd hx hb dX5_takeBand_59 ?_
        refine lv_iload hx hb dX5_takeBand_60 (lv_at hl 1 rfl) ?_
        refine lv_lload hx hb dX5_takeBand_62 (lv_at hl 0 rfl) ?_
        refine lv_lconst (v := 1) hx hb dX5_takeBand_64 (by decide) ?_
        refine lv_iload_n hx hb dX5_takeBand_65 rfl (lv_at hl 4 rfl) ?_
        refine lv_bipush (v := 64) hx hb dX5_takeBand_66 (by decide) ?_
        refine lv_irem hx hb dX5_takeBand_68 (by decide) ?_
        refine lv_lshl (v := q_lshl 1 (x3 - x3 / 64 * 64)) hx hb dX5_takeBand_69 rfl ?_
        refine lv_lor hx hb dX5_takeBand_70 ?_
        obtain ⟨r6, u7, hc8, hF⟩ := q_bnd_some hF
        refine sx_cv (Wd := (ax_W a cI L)) (σ1 := u7) (q_runV (Wd := (ax_W a cI L)) (σ := u4) (q0 := 3) (ci := 6) (T := TX6) (N := 9) (As := [.int (80 + (x3 / 512)), .int v2, .long (r3 ||| (q_lshl 1 (x3 - x3 / 64 * 64)))]) (rest := []) hx hb hml hown hts hK hP (kt_X6_setWord hD hc8) cw_X5_56 rfl rfl ⟨Nat.le_of_ble_eq_true rfl, Nat.le_of_ble_eq_true rfl⟩ rfl rfl rfl hl.1 rfl (Nat.le_of_ble_eq_true rfl) dX5_takeBand_71) hS (fun H locs hP hS => ?_)
        refine sx_iinc (d := 1) (k := 4) (lv2 := [(5, .long r3), (4, .int v2), (0, .ref (a 4)), (2, .int x2)]) hx hb hF dX5_takeBand_74 hl rfl (by decide) (by decide) rfl (fun v9 hF ls hl => ?_)
        refine lv_goto (tgt := 9) hx hb dX5_takeBand_77 (by decide) ?_
        exact hi9 x2 v9 u7 ls (lv_sub hl [3, 4, 0] rfl) hF _ _ hP hS
  unfold fX5_takeBand at hF
  refine lv_iload_n hx hb dX5_takeBand_0 rfl (lv_at hl 1 rfl) ?_
  refine lv_aload_n hx hb dX5_takeBand_1 rfl (lv_at hl 0 rfl) ?_
  refine gx_space_bandSize hx hb hts hown hK hP fl_X5_25 dX5_takeBand_2 ?_
  refine lv_imul hx hb dX5_takeBand_5 ?_
  refine sx_istore_n (lv2 := [(0, .ref (a 4)), (1, .int o1)]) hx hb hF dX5_takeBand_6 rfl hl (by decide) rfl (fun v1 hF ls hl => ?_)
  refine lv_iload_n hx hb dX5_takeBand_7 rfl (lv_at hl 0 rfl) ?_
  refine lv_istore_n (lv' := [(3, .int v1), (2, .int v1), (0, .ref (a 4)), (1, .int o1)]) hx hb dX5_takeBand_8 rfl hl (by decide) rfl (fun ls hl => ?_)
  exact hB9 N v1 v1 u ls (lv_sub hl [2, 1, 0] rfl) hF _ _ hP hS
set_option maxHeartbeats 4000000 in
set_option maxRecDepth 100000 in
theorem kt_X10_enterLaid {N : Nat} {l : Launch} {D : va_G} {a : Nat → Nat} {cI : Nat → ClassId} {L : Nat → Nat} (hD : ∀ σ, va_D (ax_A a) (ax_W a cI L σ)) {o1 : Int32} {o2 : Int64} {u σ0 : q_St} {r0 : Int32} (hF : fX10_enterLaid L N o1 o2 u = some (r0, σ0)) : Met l yX10_enterLaid (Cond.code yX10_enterLaid cX10_enterLaid 7 (some .int) :: q_T) ({ frames := 6, cells := 0, slots := 0, locals := 143 } : Room) (q_P D vwCl (ax_T cI) (ax_W a cI L) [.ref (a 0), .int o1, .long o2] u) (q_Qi D vwCl (ax_W a cI L) (ax_A a) r0 σ0) 0 0 (ax_A a) := by
  refine Met.ofW (cc := cX10_enterLaid) (maxL := 7) (ret := (some .int)) (by decide) rfl ?_
  intro p e s m args below meth c s₁ B hml hv
  obtain ⟨rfl, hP, hK⟩ := hv
  have hx := B.exec
  have hb := B.bytes
  have hr := B.returns
  have hts := q_ts (atoms_spec (ws := Cond.code yX10_enterLaid cX10_enterLaid 7 (some .int) :: q_T) B.pre)
  have hown : s.vm.findClass RX10 = some m.cls := findClass_of_methodNamed B.named
  have hlocks := B.notSynchronized
  have hS : va_S (ax_A a) s.heap s.heap [] := va_S.rf
  have hl := lv_entry ([.ref (a 0), .int o1, .long o2]) (n := 7) (Nat.le_of_ble_eq_true rfl)
  rw [lg_entry_eq]
  generalize (lg_sl ([.ref (a 0), .int o1, .long o2]) ++ List.replicate (7 - (lg_sl ([.ref (a 0), .int o1, .long o2])).length) Slot.unset).toArray = ls at hl ⊢
  have hl : lv_has ls 7 [(0, .ref (a 0)), (1, .int o1), (2, .long o2)] := hl
  unfold fX10_enterLaid at hF
  refine lv_aload_n hx hb dX10_enterLaid_0 rfl (lv_at hl 0 rfl) ?_
  refine lv_iload_n hx hb dX10_enterLaid_1 rfl (lv_at hl 1 rfl) ?_
  refine lv_lload_n hx hb dX10_enterLaid_2 rfl (lv_at hl 2 rfl) ?_
  obtain ⟨r1, u2, hc3, hF⟩ := q_bnd_some hF
  refine sx_ci (Wd := (ax_W a cI L)) (σ1 := u2) (q_runV (Wd := (ax_W a cI L)) (σ := u) (q0 := 0) (ci := 10) (T := TX10) (N := 11) (As := [.int o1, .long o2]) (rest := []) hx hb hml hown hts hK hP (kt_X10_refusalToAdd hD hc3) cw_X10_345 rfl rfl ⟨Nat.le_of_ble_eq_true rfl, Nat.le_of_ble_eq_true rfl⟩ rfl rfl rfl hl.1 rfl (Nat.le_of_ble_eq_true rfl) dX10_enterLaid_3) hS (fun H locs hP hS => ?_)
  refine lv_istore (lv' := [(4, .int r1), (0, .ref (a 0)), (1, .int o1), (2, .long o2)]) hx hb dX10_enterLaid_6 hl (by decide) rfl (fun ls hl => ?_)
  refine lv_iload hx hb dX10_enterLaid_8 (lv_at hl 0 rfl) ?_
  refine sx_if_eq (tgt := 16) hx hb hF dX10_enterLaid_10 (by decide) (fun hF => ?_) (fun hF => ?_)
  · refine lv_aload_n hx hb dX10_enterLaid_16 rfl (lv_at hl 1 rfl) ?_
    refine gx_h_tape hx hb hts hown hK hP fl_X10_79 dX10_enterLaid_17 ?_
    refine gx_tape_length hx hb hts hown hK hP fl_X10_116 dX10_enterLaid_20 ?_
    refine sx_if_ne (tgt := 29) hx hb hF dX10_enterLaid_23 (by decide) (fun hF => ?_) (fun hF => ?_)
    · refine lv_aload_n hx hb dX10_enterLaid_29 rfl (lv_at hl 1 rfl) ?_
      refine gx_h_nodes hx hb hts hown hK hP fl_X10_71 dX10_enterLaid_30 ?_
      obtain ⟨r4, u5, hc6, hF⟩ := q_bnd_some hF
      refine sx_ci (Wd := (ax_W a cI L)) (σ1 := u5) (q_runV (Wd := (ax_W a cI L)) (σ := u2) (q0 := 5) (ci := 4) (T := TX4) (N := 2) (As := []) (rest := []) hx hb hml hown hts hK hP (kt_X4_lowestFree hD hc6) cw_X10_348 rfl rfl ⟨Nat.le_of_ble_eq_true rfl, Nat.le_of_ble_eq_true rfl⟩ rfl rfl rfl hl.1 rfl (Nat.le_of_ble_eq_true rfl) dX10_enterLaid_33) hS (fun H locs hP hS => ?_)
      refine lv_istore (lv' := [(5, .int r4), (4, .int r1), (0, .ref (a 0)), (1, .int o1), (2, .long o2)]) hx hb dX10_enterLaid_36 hl (by decide) rfl (fun ls hl => ?_)
      refine lv_aload_n hx hb dX10_enterLaid_38 rfl (lv_at hl 2 rfl) ?_
      obtain ⟨r7, u8, hc9, hF⟩ := q_bnd_some hF
      refine sx_ci (Wd := (ax_W a cI L)) (σ1 := u8) (q_runV (Wd := (ax_W a cI L)) (σ := u5) (q0 := 0) (ci := 10) (T := TX10) (N := 11) (As := []) (rest := []) hx hb hml hown hts hK hP (kt_X10_bandToLay hD hc9) cw_X10_354 rfl rfl ⟨Nat.le_of_ble_eq_true rfl, Nat.le_of_ble_eq_true rfl⟩ rfl rfl rfl hl.1 rfl (Nat.le_of_ble_eq_true rfl) dX10_enterLaid_39) hS (fun H locs hP hS => ?_)
      refine lv_istore (lv' := [(6, .int r7), (5, .int r4), (4, .int r1), (0, .ref (a 0)), (1, .int o1), (2, .long o2)]) hx hb dX10_enterLaid_42 hl (by decide) rfl (fun ls hl => ?_)
      refine lv_iload hx hb dX10_enterLaid_44 (lv_at hl 1 rfl) ?_
      refine lv_iconst (v := (-1)) hx hb dX10_enterLaid_46 (by decide) ?_
      refine sx_icmp_eq (tgt := 74) hx hb hF dX10_enterLaid_47 (by decide) (fun hF => ?_) (fun hF => ?_)
      · refine lv_bipush (v := (-16)) hx hb dX10_enterLaid_74 (by decide) ?_
        exact sx_reti (Wd := (ax_W a cI L)) (σ := u8) hx hb hr hF hP hS hlocks dX10_enterLaid_76
      · refine lv_iload hx hb dX10_enterLaid_50 (lv_at hl 0 rfl) ?_
        refine lv_iconst (v := (-1)) hx hb dX10_enterLaid_52 (by decide) ?_
        refine sx_icmp_eq (tgt := 74) hx hb hF dX10_enterLaid_53 (by decide) (fun hF => ?_) (fun hF => ?_)
        · refine lv_bipush (v := (-16)) hx hb dX10_enterLaid_74 (by decide) ?_
          exact sx_reti (Wd := (ax_W a cI L)) (σ := u8) hx hb hr hF hP hS hlocks dX10_enterLaid_76
        · refine lv_aload_n hx hb dX10_enterLaid_56 rfl (lv_at hl 3 rfl) ?_
          refine gx_h_folders hx hb hts hown hK hP fl_X10_75 dX10_enterLaid_57 ?_
          refine lv_iload_n hx hb dX10_enterLaid_60 rfl (lv_at hl 4 rfl) ?_
          refine lv_aload_n hx hb dX10_enterLaid_61 rfl (lv_at hl 3 rfl) ?_
          refine gx_h_disk hx hb hts hown hK hP fl_X10_53 dX10_enterLaid_62 ?_
          refine gx_disk_bandSize hx hb hts hown hK hP fl_X10_85 dX10_enterLaid_65 ?_
          obtain ⟨r10, u11, hc12, hF⟩ := q_bnd_some hF
          refine sx_ci (Wd := (ax_W a cI L)) (σ1 := u11) (q_runV (Wd := (ax_W a cI L)) (σ := u8) (q0 := 6) (ci := 3) (T := TX3) (N := 5) (As := [.int o1, .int (q_i u8 4)]) (rest := []) hx hb hml hown hts hK hP (kt_X3_hasRoom hD hc12) cw_X10_158 rfl rfl ⟨Nat.le_of_ble_eq_true rfl, Nat.le_of_ble_eq_true rfl⟩ rfl rfl rfl hl.1 rfl (Nat.le_of_ble_eq_true rfl) dX10_enterLaid_68) hS (fun H locs hP hS => ?_)
          refine sx_if_ne (tgt := 77) hx hb hF dX10_enterLaid_71 (by decide) (fun hF => ?_) (fun hF => ?_)
          · refine lv_aload_n hx hb dX10_enterLaid_77 rfl (lv_at hl 3 rfl) ?_
            refine gx_h_volume hx hb hts hown hK hP fl_X10_59 dX10_enterLaid_78 ?_
            refine lv_iload hx hb dX10_enterLaid_81 (lv_at hl 0 rfl) ?_
            refine lv_aload_n hx hb dX10_enterLaid_83 rfl (lv_at hl 3 rfl) ?_
            refine gx_h_tape hx hb hts hown hK hP fl_X10_79 dX10_enterLaid_84 ?_
            obtain ⟨r13, u14, hc15, hF⟩ := q_bnd_some hF
            refine sx_ci (Wd := (ax_W a cI L)) (σ1 := u14) (q_runV (Wd := (ax_W a cI L)) (σ := u11) (q0 := 2) (ci := 8) (T := TX8) (N := 15) (As := [.int r7, .ref (a 8)]) (rest := []) hx hb hml hown hts hK hP (kt_X8_stream_8 hD hc15) cw_X10_357 rfl rfl ⟨Nat.le_of_ble_eq_true rfl, Nat.le_of_ble_eq_true rfl⟩ rfl rfl rfl hl.1 rfl (Nat.le_of_ble_eq_true rfl) dX10_enterLaid_87) hS (fun H locs hP hS => ?_)
            refine sx_if_ne (tgt := 96) hx hb hF dX10_enterLaid_90 (by decide) (fun hF => ?_) (fun hF => ?_)
            · refine lv_aload_n hx hb dX10_enterLaid_96 rfl (lv_at hl 3 rfl) ?_
              refine gx_h_space hx hb hts hown hK hP fl_X10_67 dX10_enterLaid_97 ?_
              refine lv_iload hx hb dX10_enterLaid_100 (lv_at hl 0 rfl) ?_
              obtain ⟨r16, u17, hc18, hF⟩ := q_bnd_some hF
              refine sx_cv (Wd := (ax_W a cI L)) (σ1 := u17) (q_runV (Wd := (ax_W a cI L)) (σ := u14) (q0 := 4) (ci := 5) (T := TX5) (N := 6) (As := [.int r7]) (rest := []) hx hb hml hown hts hK hP (kt_X5_takeBand hD hc18) cw_X10_361 rfl rfl ⟨Nat.le_of_ble_eq_true rfl, Nat.le_of_ble_eq_true rfl⟩ rfl rfl rfl hl.1 rfl (Nat.le_of_ble_eq_true rfl) dX10_enterLaid_102) hS (fun H locs hP hS => ?_)
              refine lv_aload_n hx hb dX10_enterLaid_105 rfl (lv_at hl 3 rfl) ?_
              refine gx_h_nodes hx hb hts hown hK hP fl_X10_71 dX10_enterLaid_106 ?_
              refine lv_iload hx hb dX10_enterLaid_109 (lv_at hl 1 rfl) ?_
              refine lv_iconst (v := 3) hx hb dX10_enterLaid_111 (by decide) ?_
              refine lv_aload_n hx hb dX10_enterLaid_112 rfl (lv_at hl 3 rfl) ?_
              refine gx_h_who hx hb hts hown hK hP fl_X10_113 dX10_enterLaid_113 ?_
              refine lv_bipush (v := 52) hx hb dX10_enterLaid_116 (by decide) ?_
              obtain ⟨r19, u20, hc21, hF⟩ := q_bnd_some hF
              refine sx_cv (Wd := (ax_W a cI L)) (σ1 := u20) (q_runV (Wd := (ax_W a cI L)) (σ := u17) (q0 := 5) (ci := 4) (T := TX4) (N := 2) (As := [.int r4, .int 3, .int (q_i u17 0), .int 52]) (rest := []) hx hb hml hown hts hK hP (kt_X4_begin hD hc21) cw_X10_351 rfl rfl ⟨Nat.le_of_ble_eq_true rfl, Nat.le_of_ble_eq_true rfl⟩ rfl rfl rfl hl.1 rfl (Nat.le_of_ble_eq_true rfl) dX10_enterLaid_118) hS (fun H locs hP hS => ?_)
              refine lv_aload_n hx hb dX10_enterLaid_121 rfl (lv_at hl 3 rfl) ?_
              refine gx_h_nodes hx hb hts hown hK hP fl_X10_71 dX10_enterLaid_122 ?_
              refine lv_iload hx hb dX10_enterLaid_125 (lv_at hl 1 rfl) ?_
              refine lv_iload hx hb dX10_enterLaid_127 (lv_at hl 0 rfl) ?_
              obtain ⟨r22, u23, hc24, hF⟩ := q_bnd_some hF
              refine sx_cv (Wd := (ax_W a cI L)) (σ1 := u23) (q_runV (Wd := (ax_W a cI L)) (σ := u20) (q0 := 5) (ci := 4) (T := TX4) (N := 2) (As := [.int r4, .int r7]) (rest := []) hx hb hml hown hts hK hP (kt_X4_setHolder hD hc24) cw_X10_134 rfl rfl ⟨Nat.le_of_ble_eq_true rfl, Nat.le_of_ble_eq_true rfl⟩ rfl rfl rfl hl.1 rfl (Nat.le_of_ble_eq_true rfl) dX10_enterLaid_129) hS (fun H locs hP hS => ?_)
              refine lv_aload_n hx hb dX10_enterLaid_132 rfl (lv_at hl 3 rfl) ?_
              refine gx_h_folders hx hb hts hown hK hP fl_X10_75 dX10_enterLaid_133 ?_
              refine lv_iload_n hx hb dX10_enterLaid_136 rfl (lv_at hl 4 rfl) ?_
              refine lv_lload_n hx hb dX10_enterLaid_137 rfl (lv_at hl 5 rfl) ?_
              refine lv_iload hx hb dX10_enterLaid_138 (lv_at hl 1 rfl) ?_
              obtain ⟨r25, u26, hc27, hF⟩ := q_bnd_some hF
              refine sx_cv (Wd := (ax_W a cI L)) (σ1 := u26) (q_runV (Wd := (ax_W a cI L)) (σ := u23) (q0 := 6) (ci := 3) (T := TX3) (N := 5) (As := [.int o1, .long o2, .int r4]) (rest := []) hx hb hml hown hts hK hP (kt_X3_add hD hc27) cw_X10_165 rfl rfl ⟨Nat.le_of_ble_eq_true rfl, Nat.le_of_ble_eq_true rfl⟩ rfl rfl rfl hl.1 rfl (Nat.le_of_ble_eq_true rfl) dX10_enterLaid_140) hS (fun H locs hP hS => ?_)
              refine lv_iload hx hb dX10_enterLaid_143 (lv_at hl 1 rfl) ?_
              exact sx_reti (Wd := (ax_W a cI L)) (σ := u26) hx hb hr hF hP hS hlocks dX10_enterLaid_145
            · refine lv_bipush (v := (-99)) hx hb dX10_enterLaid_93 (by decide) ?_
              exact sx_reti (Wd := (ax_W a cI L)) (σ := u14) hx hb hr hF hP hS hlocks dX10_enterLaid_95
          · refine lv_bipush (v := (-16)) hx hb dX10_enterLaid_74 (by decide) ?_
            exact sx_reti (Wd := (ax_W a cI L)) (σ := u11) hx hb hr hF hP hS hlocks dX10_enterLaid_76
    · refine lv_bipush (v := (-15)) hx hb dX10_enterLaid_26 (by decide) ?_
      exact sx_reti (Wd := (ax_W a cI L)) (σ := u2) hx hb hr hF hP hS hlocks dX10_enterLaid_28
  · refine lv_iload hx hb dX10_enterLaid_13 (lv_at hl 0 rfl) ?_
    exact sx_reti (Wd := (ax_W a cI L)) (σ := u2) hx hb hr hF hP hS hlocks dX10_enterLaid_15
set_option maxHeartbeats 4000000 in
set_option maxRecDepth 100000 in
theorem kt_X10_lay {N : Nat} {l : Launch} {D : va_G} {a : Nat → Nat} {cI : Nat → ClassId} {L : Nat → Nat} (hD : ∀ σ, va_D (ax_A a) (ax_W a cI L σ)) {o1 : Int32} {o2 : Int64} {u σ0 : q_St} {r0 : Int32} (hF : fX10_lay L N o1 o2 u = some (r0, σ0)) : Met l yX10_lay (Cond.code yX10_lay cX10_lay 5 (some .int) :: q_T) ({ frames := 7, cells := 0, slots := 0, locals := 172 } : Room) (q_P D vwCl (ax_T cI) (ax_W a cI L) [.ref (a 0), .int o1, .long o2] u) (q_Qi D vwCl (ax_W a cI L) (ax_A a) r0 σ0) 0 0 (ax_A a) := by
  refine Met.ofW (cc := cX10_lay) (maxL := 5) (ret := (some .int)) (by decide) rfl ?_
  intro p e s m args below meth c s₁ B hml hv
  obtain ⟨rfl, hP, hK⟩ := hv
  have hx := B.exec
  have hb := B.bytes
  have hr := B.returns
  have hts := q_ts (atoms_spec (ws := Cond.code yX10_lay cX10_lay 5 (some .int) :: q_T) B.pre)
  have hown : s.vm.findClass RX10 = some m.cls := findClass_of_methodNamed B.named
  have hlocks := B.notSynchronized
  have hS : va_S (ax_A a) s.heap s.heap [] := va_S.rf
  have hl := lv_entry ([.ref (a 0), .int o1, .long o2]) (n := 5) (Nat.le_of_ble_eq_true rfl)
  rw [lg_entry_eq]
  generalize (lg_sl ([.ref (a 0), .int o1, .long o2]) ++ List.replicate (5 - (lg_sl ([.ref (a 0), .int o1, .long o2])).length) Slot.unset).toArray = ls at hl ⊢
  have hl : lv_has ls 5 [(0, .ref (a 0)), (1, .int o1), (2, .long o2)] := hl
  have hB23 : ∀ (y0 : Int32) (u : q_St) (ls : Array Slot), lv_has ls 5 [(0, .ref (a 0))] → fX10_lay_b23 L N y0 u = some (r0, σ0) → ∀ (H : Heap) (locs : List Loc), va_P D vwCl (ax_W a cI L u) H → va_S (ax_A a) s.heap H locs → W p l e (headSpec (Cond.code yX10_lay cX10_lay 5 (some .int) :: q_T) ({ frames := 7, cells := 0, slots := 0, locals := 172 } : Room)).room s m ([.ref (a 0), .int o1, .long o2] : List Value).toArray below meth c H locs 0 0 (MQ below (q_Qi D vwCl (ax_W a cI L) (ax_A a) r0 σ0) ([.ref (a 0), .int o1, .long o2] : List Value).toArray s 0 0 (ax_A a)) (F0 m 23 ls [.int y0]) := by
    intro y0 u ls hl hF _ _ hP hS
    unfold fX10_lay_b23 at hF
    refine lv_istore (lv' := [(4, .int y0), (0, .ref (a 0))]) hx hb dX10_lay_23 hl (by decide) rfl (fun ls hl => ?_)
    refine lv_aload_n hx hb dX10_lay_25 rfl (lv_at hl 1 rfl) ?_
    refine gx_h_tape hx hb hts hown hK hP fl_X10_79 dX10_lay_26 ?_
    refine lv_iconst (v := 0) hx hb dX10_lay_29 (by decide) ?_
    refine px_tape_length hx hb hts hown hK hP fl_X10_116 hD hS hF dX10_lay_30 (fun u4 H locs hF hP hS => ?_)
    refine lv_iload hx hb dX10_lay_33 (lv_at hl 0 rfl) ?_
    exact sx_reti (Wd := (ax_W a cI L)) (σ := u4) hx hb hr hF hP hS hlocks dX10_lay_35
  unfold fX10_lay at hF
  refine lv_aload_n hx hb dX10_lay_0 rfl (lv_at hl 0 rfl) ?_
  refine gx_h_store hx hb hts hown hK hP fl_X10_63 dX10_lay_1 ?_
  refine lv_bipush (v := 40) hx hb dX10_lay_4 (by decide) ?_
  obtain ⟨r1, u2, hc3, hF⟩ := q_bnd_some hF
  refine sx_ci (Wd := (ax_W a cI L)) (σ1 := u2) (q_runV (Wd := (ax_W a cI L)) (σ := u) (q0 := 3) (ci := 6) (T := TX6) (N := 9) (As := [.int 40]) (rest := []) hx hb hml hown hts hK hP (kt_X6_commitOver hD hc3) cw_X10_126 rfl rfl ⟨Nat.le_of_ble_eq_true rfl, Nat.le_of_ble_eq_true rfl⟩ rfl rfl rfl hl.1 rfl (Nat.le_of_ble_eq_true rfl) dX10_lay_6) hS (fun H locs hP hS => ?_)
  refine sx_if_eq (tgt := 21) hx hb hF dX10_lay_9 (by decide) (fun hF => ?_) (fun hF => ?_)
  · refine lv_bipush (v := (-99)) hx hb dX10_lay_21 (by decide) ?_
    exact hB23 (-99) u2 ls (lv_sub hl [0] rfl) hF _ _ hP hS
  · refine lv_aload_n hx hb dX10_lay_12 rfl (lv_at hl 0 rfl) ?_
    refine lv_iload_n hx hb dX10_lay_13 rfl (lv_at hl 1 rfl) ?_
    refine lv_lload_n hx hb dX10_lay_14 rfl (lv_at hl 2 rfl) ?_
    obtain ⟨r5, u6, hc7, hF⟩ := q_bnd_some hF
    refine sx_ci (Wd := (ax_W a cI L)) (σ1 := u6) (q_runV (Wd := (ax_W a cI L)) (σ := u2) (q0 := 0) (ci := 10) (T := TX10) (N := 11) (As := [.int o1, .long o2]) (rest := []) hx hb hml hown hts hK hP (kt_X10_enterLaid hD hc7) cw_X10_137 rfl rfl ⟨Nat.le_of_ble_eq_true rfl, Nat.le_of_ble_eq_true rfl⟩ rfl rfl rfl hl.1 rfl (Nat.le_of_ble_eq_true rfl) dX10_lay_15) hS (fun H locs hP hS => ?_)
    refine lv_goto (tgt := 23) hx hb dX10_lay_18 (by decide) ?_
    exact hB23 r5 u6 ls (lv_sub hl [0] rfl) hF _ _ hP hS
set_option maxHeartbeats 4000000 in
set_option maxRecDepth 100000 in
theorem kt_X4_setLength {N : Nat} {l : Launch} {D : va_G} {a : Nat → Nat} {cI : Nat → ClassId} {L : Nat → Nat} (hD : ∀ σ, va_D (ax_A a) (ax_W a cI L σ)) {o1 : Int32} {o2 : Int32} {u σ0 : q_St} {r0 : Unit} (hF : fX4_setLength L N o1 o2 u = some (r0, σ0)) : Met l yX4_setLength (Cond.code yX4_setLength cX4_setLength 5 none :: q_T) ({ frames := 2, cells := 0, slots := 0, locals := 54 } : Room) (q_P D vwCl (ax_T cI) (ax_W a cI L) [.ref (a 5), .int o1, .int o2] u) (q_Qv D vwCl (ax_W a cI L) (ax_A a) σ0) 0 0 (ax_A a) := by
  refine Met.ofW (cc := cX4_setLength) (maxL := 5) (ret := none) (by decide) rfl ?_
  intro p e s m args below meth c s₁ B hml hv
  obtain ⟨rfl, hP, hK⟩ := hv
  have hx := B.exec
  have hb := B.bytes
  have hr := B.returns
  have hts := q_ts (atoms_spec (ws := Cond.code yX4_setLength cX4_setLength 5 none :: q_T) B.pre)
  have hown : s.vm.findClass RX4 = some m.cls := findClass_of_methodNamed B.named
  have hlocks := B.notSynchronized
  have hS : va_S (ax_A a) s.heap s.heap [] := va_S.rf
  have hl := lv_entry ([.ref (a 5), .int o1, .int o2]) (n := 5) (Nat.le_of_ble_eq_true rfl)
  rw [lg_entry_eq]
  generalize (lg_sl ([.ref (a 5), .int o1, .int o2]) ++ List.replicate (5 - (lg_sl ([.ref (a 5), .int o1, .int o2])).length) Slot.unset).toArray = ls at hl ⊢
  have hl : lv_has ls 5 [(0, .ref (a 5)), (1, .int o1), (2, .int o2)] := hl
  unfold fX4_setLength at hF
  refine lv_aload_n hx hb dX4_setLength_0 rfl (lv_at hl 0 rfl) ?_
  refine gx_nodes_store hx hb hts hown hK hP fl_X4_9 dX4_setLength_1 ?_
  refine lv_aload_n hx hb dX4_setLength_4 rfl (lv_at hl 0 rfl) ?_
  refine gx_nodes_firstNode hx hb hts hown hK hP fl_X4_15 dX4_setLength_5 ?_
  refine lv_iload_n hx hb dX4_setLength_8 rfl (lv_at hl 1 rfl) ?_
  refine lv_iadd hx hb dX4_setLength_9 ?_
  refine lv_iconst (v := 0) hx hb dX4_setLength_10 (by decide) ?_
  obtain ⟨r1, u2, hc3, hF⟩ := q_bnd_some hF
  refine sx_cl (Wd := (ax_W a cI L)) (σ1 := u2) (q_runV (Wd := (ax_W a cI L)) (σ := u) (q0 := 3) (ci := 6) (T := TX6) (N := 9) (As := [.int ((q_i u 30) + o1), .int 0]) (rest := []) hx hb hml hown hts hK hP (kt_X6_word hD hc3) cw_X4_37 rfl rfl ⟨Nat.le_of_ble_eq_true rfl, Nat.le_of_ble_eq_true rfl⟩ rfl rfl rfl hl.1 rfl (Nat.le_of_ble_eq_true rfl) dX4_setLength_11) hS (fun H locs hP hS => ?_)
  refine lv_ldc2 (v := 4294967295) hx hb hown (hts _ kc_X4_41) dX4_setLength_14 ?_
  refine lv_land hx hb dX4_setLength_17 ?_
  refine sx_lstore_n (lv2 := [(0, .ref (a 5)), (1, .int o1), (2, .int o2)]) hx hb hF dX4_setLength_18 rfl hl (by decide) rfl (fun v4 hF ls hl => ?_)
  refine lv_aload_n hx hb dX4_setLength_19 rfl (lv_at hl 1 rfl) ?_
  refine gx_nodes_store hx hb hts hown hK hP fl_X4_9 dX4_setLength_20 ?_
  refine lv_aload_n hx hb dX4_setLength_23 rfl (lv_at hl 1 rfl) ?_
  refine gx_nodes_firstNode hx hb hts hown hK hP fl_X4_15 dX4_setLength_24 ?_
  refine lv_iload_n hx hb dX4_setLength_27 rfl (lv_at hl 2 rfl) ?_
  refine lv_iadd hx hb dX4_setLength_28 ?_
  refine lv_iconst (v := 0) hx hb dX4_setLength_29 (by decide) ?_
  refine lv_lload_n hx hb dX4_setLength_30 rfl (lv_at hl 0 rfl) ?_
  refine lv_iload_n hx hb dX4_setLength_31 rfl (lv_at hl 3 rfl) ?_
  refine lv_i2l (v := Int32.toInt64 o2) hx hb dX4_setLength_32 rfl ?_
  refine lv_bipush (v := 32) hx hb dX4_setLength_33 (by decide) ?_
  refine lv_lshl (v := q_lshl (Int32.toInt64 o2) 32) hx hb dX4_setLength_35 rfl ?_
  refine lv_lor hx hb dX4_setLength_36 ?_
  obtain ⟨r5, u6, hc7, hF⟩ := q_bnd_some hF
  refine sx_cv (Wd := (ax_W a cI L)) (σ1 := u6) (q_runV (Wd := (ax_W a cI L)) (σ := u2) (q0 := 3) (ci := 6) (T := TX6) (N := 9) (As := [.int ((q_i u2 30) + o1), .int 0, .long (v4 ||| (q_lshl (Int32.toInt64 o2) 32))]) (rest := []) hx hb hml hown hts hK hP (kt_X6_setWord hD hc7) cw_X4_43 rfl rfl ⟨Nat.le_of_ble_eq_true rfl, Nat.le_of_ble_eq_true rfl⟩ rfl rfl rfl hl.1 rfl (Nat.le_of_ble_eq_true rfl) dX4_setLength_37) hS (fun H locs hP hS => ?_)
  exact sx_retv (Wd := (ax_W a cI L)) (σ := u6) hx hb hr hF hP hS hlocks dX4_setLength_40
set_option maxHeartbeats 4000000 in
set_option maxRecDepth 100000 in
theorem kt_X6_setOctet {N : Nat} {l : Launch} {D : va_G} {a : Nat → Nat} {cI : Nat → ClassId} {L : Nat → Nat} (hD : ∀ σ, va_D (ax_A a) (ax_W a cI L σ)) {o1 : Int32} {o2 : Int32} {o3 : Int32} {u σ0 : q_St} {r0 : Unit} (hF : fX6_setOctet L N o1 o2 o3 u = some (r0, σ0)) : Met l yX6_setOctet (Cond.code yX6_setOctet cX6_setOctet 7 none :: q_T) ({ frames := 2, cells := 0, slots := 0, locals := 54 } : Room) (q_P D vwCl (ax_T cI) (ax_W a cI L) [.ref (a 3), .int o1, .int o2, .int o3] u) (q_Qv D vwCl (ax_W a cI L) (ax_A a) σ0) 0 0 (ax_A a) := by
  refine Met.ofW (cc := cX6_setOctet) (maxL := 7) (ret := none) (by decide) rfl ?_
  intro p e s m args below meth c s₁ B hml hv
  obtain ⟨rfl, hP, hK⟩ := hv
  have hx := B.exec
  have hb := B.bytes
  have hr := B.returns
  have hts := q_ts (atoms_spec (ws := Cond.code yX6_setOctet cX6_setOctet 7 none :: q_T) B.pre)
  have hown : s.vm.findClass RX6 = some m.cls := findClass_of_methodNamed B.named
  have hlocks := B.notSynchronized
  have hS : va_S (ax_A a) s.heap s.heap [] := va_S.rf
  have hl := lv_entry ([.ref (a 3), .int o1, .int o2, .int o3]) (n := 7) (Nat.le_of_ble_eq_true rfl)
  rw [lg_entry_eq]
  generalize (lg_sl ([.ref (a 3), .int o1, .int o2, .int o3]) ++ List.replicate (7 - (lg_sl ([.ref (a 3), .int o1, .int o2, .int o3])).length) Slot.unset).toArray = ls at hl ⊢
  have hl : lv_has ls 7 [(0, .ref (a 3)), (1, .int o1), (2, .int o2), (3, .int o3)] := hl
  unfold fX6_setOctet at hF
  refine lv_bipush (v := 8) hx hb dX6_setOctet_0 (by decide) ?_
  refine lv_iload_n hx hb dX6_setOctet_2 rfl (lv_at hl 2 rfl) ?_
  refine lv_bipush (v := 8) hx hb dX6_setOctet_3 (by decide) ?_
  refine lv_irem hx hb dX6_setOctet_5 (by decide) ?_
  refine lv_imul hx hb dX6_setOctet_6 ?_
  refine sx_istore (lv2 := [(0, .ref (a 3)), (1, .int o1), (2, .int o2), (3, .int o3)]) hx hb hF dX6_setOctet_7 hl (by decide) rfl (fun v1 hF ls hl => ?_)
  refine lv_aload_n hx hb dX6_setOctet_9 rfl (lv_at hl 1 rfl) ?_
  refine lv_iload_n hx hb dX6_setOctet_10 rfl (lv_at hl 2 rfl) ?_
  refine lv_iload_n hx hb dX6_setOctet_11 rfl (lv_at hl 3 rfl) ?_
  refine lv_bipush (v := 8) hx hb dX6_setOctet_12 (by decide) ?_
  refine lv_idiv hx hb dX6_setOctet_14 (by decide) ?_
  obtain ⟨r2, u3, hc4, hF⟩ := q_bnd_some hF
  refine sx_cl (Wd := (ax_W a cI L)) (σ1 := u3) (q_runV (Wd := (ax_W a cI L)) (σ := u) (q0 := 3) (ci := 6) (T := TX6) (N := 9) (As := [.int o1, .int (o2 / 8)]) (rest := []) hx hb hml hown hts hK hP (kt_X6_word hD hc4) cw_X6_58 rfl rfl ⟨Nat.le_of_ble_eq_true rfl, Nat.le_of_ble_eq_true rfl⟩ rfl rfl rfl hl.1 rfl (Nat.le_of_ble_eq_true rfl) dX6_setOctet_15) hS (fun H locs hP hS => ?_)
  refine lv_ldc2 (v := 255) hx hb hown (hts _ kc_X6_71) dX6_setOctet_18 ?_
  refine lv_iload hx hb dX6_setOctet_21 (lv_at hl 0 rfl) ?_
  refine lv_lshl (v := q_lshl 255 v1) hx hb dX6_setOctet_23 rfl ?_
  refine lv_ldc2 (v := (-1)) hx hb hown (hts _ kc_X6_65) dX6_setOctet_24 ?_
  refine lv_lxor hx hb dX6_setOctet_27 ?_
  refine lv_land hx hb dX6_setOctet_28 ?_
  refine sx_lstore (lv2 := [(4, .int v1), (0, .ref (a 3)), (1, .int o1), (2, .int o2), (3, .int o3)]) hx hb hF dX6_setOctet_29 hl (by decide) rfl (fun v5 hF ls hl => ?_)
  refine lv_aload_n hx hb dX6_setOctet_31 rfl (lv_at hl 2 rfl) ?_
  refine lv_iload_n hx hb dX6_setOctet_32 rfl (lv_at hl 3 rfl) ?_
  refine lv_iload_n hx hb dX6_setOctet_33 rfl (lv_at hl 4 rfl) ?_
  refine lv_bipush (v := 8) hx hb dX6_setOctet_34 (by decide) ?_
  refine lv_idiv hx hb dX6_setOctet_36 (by decide) ?_
  refine lv_lload hx hb dX6_setOctet_37 (lv_at hl 0 rfl) ?_
  refine lv_iload_n hx hb dX6_setOctet_39 rfl (lv_at hl 5 rfl) ?_
  refine lv_i2l (v := Int32.toInt64 o3) hx hb dX6_setOctet_40 rfl ?_
  refine lv_ldc2 (v := 255) hx hb hown (hts _ kc_X6_71) dX6_setOctet_41 ?_
  refine lv_land hx hb dX6_setOctet_44 ?_
  refine lv_iload hx hb dX6_setOctet_45 (lv_at hl 1 rfl) ?_
  refine lv_lshl (v := q_lshl ((Int32.toInt64 o3) &&& 255) v1) hx hb dX6_setOctet_47 rfl ?_
  refine lv_lor hx hb dX6_setOctet_48 ?_
  obtain ⟨r6, u7, hc8, hF⟩ := q_bnd_some hF
  refine sx_cv (Wd := (ax_W a cI L)) (σ1 := u7) (q_runV (Wd := (ax_W a cI L)) (σ := u3) (q0 := 3) (ci := 6) (T := TX6) (N := 9) (As := [.int o1, .int (o2 / 8), .long (v5 ||| (q_lshl ((Int32.toInt64 o3) &&& 255) v1))]) (rest := []) hx hb hml hown hts hK hP (kt_X6_setWord hD hc8) cw_X6_67 rfl rfl ⟨Nat.le_of_ble_eq_true rfl, Nat.le_of_ble_eq_true rfl⟩ rfl rfl rfl hl.1 rfl (Nat.le_of_ble_eq_true rfl) dX6_setOctet_49) hS (fun H locs hP hS => ?_)
  exact sx_retv (Wd := (ax_W a cI L)) (σ := u7) hx hb hr hF hP hS hlocks dX6_setOctet_52
set_option maxHeartbeats 4000000 in
set_option maxRecDepth 100000 in
theorem kt_X4_setText_8 {N : Nat} {l : Launch} {D : va_G} {a : Nat → Nat} {cI : Nat → ClassId} {L : Nat → Nat} (hD : ∀ σ, va_D (ax_A a) (ax_W a cI L σ)) {o1 : Int32} {u σ0 : q_St} {r0 : Unit} (hF : fX4_setText_8 L N o1 u = some (r0, σ0)) : Met l yX4_setText (Cond.code yX4_setText cX4_setText 5 none :: q_T) ({ frames := 3, cells := 0, slots := 0, locals := 80 } : Room) (q_P D vwCl (ax_T cI) (ax_W a cI L) [.ref (a 5), .int o1, .ref (a 8)] u) (q_Qv D vwCl (ax_W a cI L) (ax_A a) σ0) 0 0 (ax_A a) := by
  refine Met.ofW (cc := cX4_setText) (maxL := 5) (ret := none) (by decide) rfl ?_
  intro p e s m args below meth c s₁ B hml hv
  obtain ⟨rfl, hP, hK⟩ := hv
  have hx := B.exec
  have hb := B.bytes
  have hr := B.returns
  have hts := q_ts (atoms_spec (ws := Cond.code yX4_setText cX4_setText 5 none :: q_T) B.pre)
  have hown : s.vm.findClass RX4 = some m.cls := findClass_of_methodNamed B.named
  have hlocks := B.notSynchronized
  have hS : va_S (ax_A a) s.heap s.heap [] := va_S.rf
  have hl := lv_entry ([.ref (a 5), .int o1, .ref (a 8)]) (n := 5) (Nat.le_of_ble_eq_true rfl)
  rw [lg_entry_eq]
  generalize (lg_sl ([.ref (a 5), .int o1, .ref (a 8)]) ++ List.replicate (5 - (lg_sl ([.ref (a 5), .int o1, .ref (a 8)])).length) Slot.unset).toArray = ls at hl ⊢
  have hl : lv_has ls 5 [(0, .ref (a 5)), (1, .int o1), (2, .ref (a 8))] := hl
  have hB13 : ∀ (n : Nat) (x1 : Int32) (x3 : Int32) (x4 : Int32) (u : q_St) (ls : Array Slot), lv_has ls 5 [(0, .ref (a 5)), (1, .int x1), (2, .ref (a 8)), (3, .int x3), (4, .int x4)] → q_lp (fX4_setText_8_b13 L N) (fun _ _ _ _ => none) n x1 x3 x4 u = some (r0, σ0) → ∀ (H : Heap) (locs : List Loc), va_P D vwCl (ax_W a cI L u) H → va_S (ax_A a) s.heap H locs → W p l e (headSpec (Cond.code yX4_setText cX4_setText 5 none :: q_T) ({ frames := 3, cells := 0, slots := 0, locals := 80 } : Room)).room s m ([.ref (a 5), .int o1, .ref (a 8)] : List Value).toArray below meth c H locs 0 0 (MQ below (q_Qv D vwCl (ax_W a cI L) (ax_A a) σ0) ([.ref (a 5), .int o1, .ref (a 8)] : List Value).toArray s 0 0 (ax_A a)) (F0 m 13 ls []) := by
    intro n
    induction n with
    | zero => intro x1 x3 x4 u ls hl hF; exact absurd (show (none : Option (Unit × q_St)) = some _ from hF) (fun h => nomatch h)
    | succ n hi13 =>
      intro x1 x3 x4 u ls hl hF _ _ hP hS
      obtain ⟨ih13, hih⟩ : ∃ q, q = q_lp (fX4_setText_8_b13 L N) (fun _ _ _ _ => none) n := ⟨_, rfl⟩
      rw [← hih] at hi13
      have hF : fX4_setText_8_b13 L N (q_lp (fX4_setText_8_b13 L N) (fun _ _ _ _ => none) n) x1 x3 x4 u = some (r0, σ0) := hF
      rw [← hih] at hF
      clear hih
      unfold fX4_setText_8_b13 at hF
      refine lv_iload hx hb dX4_setText_13 (lv_at hl 4 rfl) ?_
      refine lv_iload_n hx hb dX4_setText_15 rfl (lv_at hl 3 rfl) ?_
      refine sx_icmp_ge (tgt := 49) hx hb hF dX4_setText_16 (by decide) (fun hF => ?_) (fun hF => ?_)
      · refine lv_aload_n hx hb dX4_setText_49 rfl (lv_at hl 0 rfl) ?_
        refine lv_iload_n hx hb dX4_setText_50 rfl (lv_at hl 1 rfl) ?_
        refine lv_iload_n hx hb dX4_setText_51 rfl (lv_at hl 3 rfl) ?_
        obtain ⟨r2, u3, hc4, hF⟩ := q_bnd_some hF
        refine sx_cv (Wd := (ax_W a cI L)) (σ1 := u3) (q_runV (Wd := (ax_W a cI L)) (σ := u) (q0 := 5) (ci := 4) (T := TX4) (N := 2) (As := [.int x1, .int x3]) (rest := []) hx hb hml hown hts hK hP (kt_X4_setLength hD hc4) cw_X4_66 rfl rfl ⟨Nat.le_of_ble_eq_true rfl, Nat.le_of_ble_eq_true rfl⟩ rfl rfl rfl hl.1 rfl (Nat.le_of_ble_eq_true rfl) dX4_setText_52) hS (fun H locs hP hS => ?_)
        exact sx_retv (Wd := (ax_W a cI L)) (σ := u3) hx hb hr hF hP hS hlocks dX4_setText_55
      · refine lv_aload_n hx hb dX4_setText_19 rfl (lv_at hl 0 rfl) ?_
        refine gx_nodes_store hx hb hts hown hK hP fl_X4_9 dX4_setText_20 ?_
        refine lv_aload_n hx hb dX4_setText_23 rfl (lv_at hl 0 rfl) ?_
        refine gx_nodes_firstNode hx hb hts hown hK hP fl_X4_15 dX4_setText_24 ?_
        refine lv_iload_n hx hb dX4_setText_27 rfl (lv_at hl 1 rfl) ?_
        refine lv_iadd hx hb dX4_setText_28 ?_
        refine lv_bipush (v := 24) hx hb dX4_setText_29 (by decide) ?_
        refine lv_iload hx hb dX4_setText_31 (lv_at hl 4 rfl) ?_
        refine lv_iadd hx hb dX4_setText_33 ?_
        refine lv_aload_n hx hb dX4_setText_34 rfl (lv_at hl 2 rfl) ?_
        refine lv_iload hx hb dX4_setText_35 (lv_at hl 4 rfl) ?_
        obtain ⟨r5, u6, hc7, hF⟩ := q_bnd_some hF
        refine sx_ci (Wd := (ax_W a cI L)) (σ1 := u6) (q_runV (Wd := (ax_W a cI L)) (σ := u) (q0 := 8) (ci := 7) (T := TX7) (N := 2) (As := [.int x4]) (rest := [.int (24 + x4), .int ((q_i u 30) + x1), .ref (a 3)]) hx hb hml hown hts hK hP (kt_X7_byteOf_8 hD hc7) cw_X4_63 rfl rfl ⟨Nat.le_of_ble_eq_true rfl, Nat.le_of_ble_eq_true rfl⟩ rfl rfl rfl hl.1 rfl (Nat.le_of_ble_eq_true rfl) dX4_setText_37) hS (fun H locs hP hS => ?_)
        obtain ⟨r8, u9, hc10, hF⟩ := q_bnd_some hF
        refine sx_cv (Wd := (ax_W a cI L)) (σ1 := u9) (q_runV (Wd := (ax_W a cI L)) (σ := u6) (q0 := 3) (ci := 6) (T := TX6) (N := 9) (As := [.int ((q_i u 30) + x1), .int (24 + x4), .int r5]) (rest := []) hx hb hml hown hts hK hP (kt_X6_setOctet hD hc10) cw_X4_33 rfl rfl ⟨Nat.le_of_ble_eq_true rfl, Nat.le_of_ble_eq_true rfl⟩ rfl rfl rfl hl.1 rfl (Nat.le_of_ble_eq_true rfl) dX4_setText_40) hS (fun H locs hP hS => ?_)
        refine sx_iinc (d := 1) (k := 4) (lv2 := [(0, .ref (a 5)), (1, .int x1), (2, .ref (a 8)), (3, .int x3)]) hx hb hF dX4_setText_43 hl rfl (by decide) (by decide) rfl (fun v11 hF ls hl => ?_)
        refine lv_goto (tgt := 13) hx hb dX4_setText_46 (by decide) ?_
        exact hi13 x1 x3 v11 u9 ls (lv_sub hl [1, 2, 3, 4, 0] rfl) hF _ _ hP hS
  unfold fX4_setText_8 at hF
  refine lv_aload_n hx hb dX4_setText_0 rfl (lv_at hl 2 rfl) ?_
  refine gx_tape_length hx hb hts hown hK hP fl_X4_53 dX4_setText_1 ?_
  refine lv_bipush (v := 40) hx hb dX4_setText_4 (by decide) ?_
  refine sx_min hx hb (hml.trans hl.1.symm) hown hts lw_X4_58 lb_min_s lb_math lb_min_c (Nat.le_of_ble_eq_true rfl) (Nat.le_of_ble_eq_true rfl) dX4_setText_6 ?_
  refine sx_istore_n (lv2 := [(0, .ref (a 5)), (1, .int o1), (2, .ref (a 8))]) hx hb hF dX4_setText_9 rfl hl (by decide) rfl (fun v1 hF ls hl => ?_)
  refine lv_iconst (v := 0) hx hb dX4_setText_10 (by decide) ?_
  refine lv_istore (lv' := [(4, .int 0), (3, .int v1), (0, .ref (a 5)), (1, .int o1), (2, .ref (a 8))]) hx hb dX4_setText_11 hl (by decide) rfl (fun ls hl => ?_)
  exact hB13 N o1 v1 0 u ls (lv_sub hl [2, 3, 4, 1, 0] rfl) hF _ _ hP hS
set_option maxHeartbeats 4000000 in
set_option maxRecDepth 100000 in
theorem kt_X10_point {N : Nat} {l : Launch} {D : va_G} {a : Nat → Nat} {cI : Nat → ClassId} {L : Nat → Nat} (hD : ∀ σ, va_D (ax_A a) (ax_W a cI L σ)) {o1 : Int32} {o2 : Int64} {u σ0 : q_St} {r0 : Int32} (hF : fX10_point L N o1 o2 u = some (r0, σ0)) : Met l yX10_point (Cond.code yX10_point cX10_point 5 (some .int) :: q_T) ({ frames := 7, cells := 0, slots := 0, locals := 172 } : Room) (q_P D vwCl (ax_T cI) (ax_W a cI L) [.ref (a 0), .int o1, .long o2] u) (q_Qi D vwCl (ax_W a cI L) (ax_A a) r0 σ0) 0 0 (ax_A a) := by
  refine Met.ofW (cc := cX10_point) (maxL := 5) (ret := (some .int)) (by decide) rfl ?_
  intro p e s m args below meth c s₁ B hml hv
  obtain ⟨rfl, hP, hK⟩ := hv
  have hx := B.exec
  have hb := B.bytes
  have hr := B.returns
  have hts := q_ts (atoms_spec (ws := Cond.code yX10_point cX10_point 5 (some .int) :: q_T) B.pre)
  have hown : s.vm.findClass RX10 = some m.cls := findClass_of_methodNamed B.named
  have hlocks := B.notSynchronized
  have hS : va_S (ax_A a) s.heap s.heap [] := va_S.rf
  have hl := lv_entry ([.ref (a 0), .int o1, .long o2]) (n := 5) (Nat.le_of_ble_eq_true rfl)
  rw [lg_entry_eq]
  generalize (lg_sl ([.ref (a 0), .int o1, .long o2]) ++ List.replicate (5 - (lg_sl ([.ref (a 0), .int o1, .long o2])).length) Slot.unset).toArray = ls at hl ⊢
  have hl : lv_has ls 5 [(0, .ref (a 0)), (1, .int o1), (2, .long o2)] := hl
  have hB45 : ∀ (x4 : Int32) (u : q_St) (ls : Array Slot), lv_has ls 5 [(0, .ref (a 0)), (4, .int x4)] → fX10_point_b45 L N x4 u = some (r0, σ0) → ∀ (H : Heap) (locs : List Loc), va_P D vwCl (ax_W a cI L u) H → va_S (ax_A a) s.heap H locs → W p l e (headSpec (Cond.code yX10_point cX10_point 5 (some .int) :: q_T) ({ frames := 7, cells := 0, slots := 0, locals := 172 } : Room)).room s m ([.ref (a 0), .int o1, .long o2] : List Value).toArray below meth c H locs 0 0 (MQ below (q_Qi D vwCl (ax_W a cI L) (ax_A a) r0 σ0) ([.ref (a 0), .int o1, .long o2] : List Value).toArray s 0 0 (ax_A a)) (F0 m 45 ls []) := by
    intro x4 u ls hl hF _ _ hP hS
    unfold fX10_point_b45 at hF
    refine lv_aload_n hx hb dX10_point_45 rfl (lv_at hl 0 rfl) ?_
    refine gx_h_tape hx hb hts hown hK hP fl_X10_79 dX10_point_46 ?_
    refine lv_iconst (v := 0) hx hb dX10_point_49 (by decide) ?_
    refine px_tape_length hx hb hts hown hK hP fl_X10_116 hD hS hF dX10_point_50 (fun u4 H locs hF hP hS => ?_)
    refine lv_iload hx hb dX10_point_53 (lv_at hl 1 rfl) ?_
    exact sx_reti (Wd := (ax_W a cI L)) (σ := u4) hx hb hr hF hP hS hlocks dX10_point_55
  have hB25 : ∀ (y0 : Int32) (u : q_St) (ls : Array Slot), lv_has ls 5 [(0, .ref (a 0))] → fX10_point_b25 L N y0 u = some (r0, σ0) → ∀ (H : Heap) (locs : List Loc), va_P D vwCl (ax_W a cI L u) H → va_S (ax_A a) s.heap H locs → W p l e (headSpec (Cond.code yX10_point cX10_point 5 (some .int) :: q_T) ({ frames := 7, cells := 0, slots := 0, locals := 172 } : Room)).room s m ([.ref (a 0), .int o1, .long o2] : List Value).toArray below meth c H locs 0 0 (MQ below (q_Qi D vwCl (ax_W a cI L) (ax_A a) r0 σ0) ([.ref (a 0), .int o1, .long o2] : List Value).toArray s 0 0 (ax_A a)) (F0 m 25 ls [.int y0]) := by
    intro y0 u ls hl hF _ _ hP hS
    unfold fX10_point_b25 at hF
    refine lv_istore (lv' := [(4, .int y0), (0, .ref (a 0))]) hx hb dX10_point_25 hl (by decide) rfl (fun ls hl => ?_)
    refine lv_iload hx hb dX10_point_27 (lv_at hl 0 rfl) ?_
    refine sx_if_lt (tgt := 45) hx hb hF dX10_point_29 (by decide) (fun hF => ?_) (fun hF => ?_)
    · exact hB45 y0 u ls (lv_sub hl [1, 0] rfl) hF _ _ hP hS
    · refine lv_aload_n hx hb dX10_point_32 rfl (lv_at hl 1 rfl) ?_
      refine gx_h_nodes hx hb hts hown hK hP fl_X10_71 dX10_point_33 ?_
      refine lv_iload hx hb dX10_point_36 (lv_at hl 0 rfl) ?_
      refine lv_aload_n hx hb dX10_point_38 rfl (lv_at hl 1 rfl) ?_
      refine gx_h_tape hx hb hts hown hK hP fl_X10_79 dX10_point_39 ?_
      obtain ⟨r5, u6, hc7, hF⟩ := q_bnd_some hF
      refine sx_cv (Wd := (ax_W a cI L)) (σ1 := u6) (q_runV (Wd := (ax_W a cI L)) (σ := u) (q0 := 5) (ci := 4) (T := TX4) (N := 2) (As := [.int y0, .ref (a 8)]) (rest := []) hx hb hml hown hts hK hP (kt_X4_setText_8 hD hc7) cw_X10_141 rfl rfl ⟨Nat.le_of_ble_eq_true rfl, Nat.le_of_ble_eq_true rfl⟩ rfl rfl rfl hl.1 rfl (Nat.le_of_ble_eq_true rfl) dX10_point_42) hS (fun H locs hP hS => ?_)
      exact hB45 y0 u6 ls (lv_sub hl [1, 0] rfl) hF _ _ hP hS
  unfold fX10_point at hF
  refine lv_aload_n hx hb dX10_point_0 rfl (lv_at hl 0 rfl) ?_
  refine gx_h_store hx hb hts hown hK hP fl_X10_63 dX10_point_1 ?_
  refine lv_bipush (v := 40) hx hb dX10_point_4 (by decide) ?_
  obtain ⟨r1, u2, hc3, hF⟩ := q_bnd_some hF
  refine sx_ci (Wd := (ax_W a cI L)) (σ1 := u2) (q_runV (Wd := (ax_W a cI L)) (σ := u) (q0 := 3) (ci := 6) (T := TX6) (N := 9) (As := [.int 40]) (rest := []) hx hb hml hown hts hK hP (kt_X6_commitOver hD hc3) cw_X10_126 rfl rfl ⟨Nat.le_of_ble_eq_true rfl, Nat.le_of_ble_eq_true rfl⟩ rfl rfl rfl hl.1 rfl (Nat.le_of_ble_eq_true rfl) dX10_point_6) hS (fun H locs hP hS => ?_)
  refine sx_if_eq (tgt := 23) hx hb hF dX10_point_9 (by decide) (fun hF => ?_) (fun hF => ?_)
  · refine lv_bipush (v := (-99)) hx hb dX10_point_23 (by decide) ?_
    exact hB25 (-99) u2 ls (lv_sub hl [0] rfl) hF _ _ hP hS
  · refine lv_aload_n hx hb dX10_point_12 rfl (lv_at hl 0 rfl) ?_
    refine lv_iload_n hx hb dX10_point_13 rfl (lv_at hl 1 rfl) ?_
    refine lv_lload_n hx hb dX10_point_14 rfl (lv_at hl 2 rfl) ?_
    refine lv_iconst (v := 4) hx hb dX10_point_15 (by decide) ?_
    refine lv_iconst (v := 0) hx hb dX10_point_16 (by decide) ?_
    obtain ⟨r8, u9, hc10, hF⟩ := q_bnd_some hF
    refine sx_ci (Wd := (ax_W a cI L)) (σ1 := u9) (q_runV (Wd := (ax_W a cI L)) (σ := u2) (q0 := 0) (ci := 10) (T := TX10) (N := 11) (As := [.int o1, .long o2, .int 4, .int 0]) (rest := []) hx hb hml hown hts hK hP (kt_X10_enter hD hc10) cw_X10_130 rfl rfl ⟨Nat.le_of_ble_eq_true rfl, Nat.le_of_ble_eq_true rfl⟩ rfl rfl rfl hl.1 rfl (Nat.le_of_ble_eq_true rfl) dX10_point_17) hS (fun H locs hP hS => ?_)
    refine lv_goto (tgt := 25) hx hb dX10_point_20 (by decide) ?_
    exact hB25 r8 u9 ls (lv_sub hl [0] rfl) hF _ _ hP hS
set_option maxHeartbeats 4000000 in
set_option maxRecDepth 100000 in
theorem kt_X4_hasLinks {N : Nat} {l : Launch} {D : va_G} {a : Nat → Nat} {cI : Nat → ClassId} {L : Nat → Nat} (hD : ∀ σ, va_D (ax_A a) (ax_W a cI L σ)) {o1 : Int32} {u σ0 : q_St} {r0 : Int32} (hF : fX4_hasLinks L N o1 u = some (r0, σ0)) : Met l yX4_hasLinks (Cond.code yX4_hasLinks cX4_hasLinks 3 (some .boolean) :: q_T) ({ frames := 4, cells := 0, slots := 0, locals := 89 } : Room) (q_P D vwCl (ax_T cI) (ax_W a cI L) [.ref (a 5), .int o1] u) (q_Qi D vwCl (ax_W a cI L) (ax_A a) r0 σ0) 0 0 (ax_A a) := by
  refine Met.ofW (cc := cX4_hasLinks) (maxL := 3) (ret := (some .boolean)) (by decide) rfl ?_
  intro p e s m args below meth c s₁ B hml hv
  obtain ⟨rfl, hP, hK⟩ := hv
  have hx := B.exec
  have hb := B.bytes
  have hr := B.returns
  have hts := q_ts (atoms_spec (ws := Cond.code yX4_hasLinks cX4_hasLinks 3 (some .boolean) :: q_T) B.pre)
  have hown : s.vm.findClass RX4 = some m.cls := findClass_of_methodNamed B.named
  have hlocks := B.notSynchronized
  have hS : va_S (ax_A a) s.heap s.heap [] := va_S.rf
  have hl := lv_entry ([.ref (a 5), .int o1]) (n := 3) (Nat.le_of_ble_eq_true rfl)
  rw [lg_entry_eq]
  generalize (lg_sl ([.ref (a 5), .int o1]) ++ List.replicate (3 - (lg_sl ([.ref (a 5), .int o1])).length) Slot.unset).toArray = ls at hl ⊢
  have hl : lv_has ls 3 [(0, .ref (a 5)), (1, .int o1)] := hl
  have hB16 : ∀ (u : q_St) (ls : Array Slot), lv_has ls 3 [] → fX4_hasLinks_b16 L N u = some (r0, σ0) → ∀ (H : Heap) (locs : List Loc), va_P D vwCl (ax_W a cI L u) H → va_S (ax_A a) s.heap H locs → W p l e (headSpec (Cond.code yX4_hasLinks cX4_hasLinks 3 (some .boolean) :: q_T) ({ frames := 4, cells := 0, slots := 0, locals := 89 } : Room)).room s m ([.ref (a 5), .int o1] : List Value).toArray below meth c H locs 0 0 (MQ below (q_Qi D vwCl (ax_W a cI L) (ax_A a) r0 σ0) ([.ref (a 5), .int o1] : List Value).toArray s 0 0 (ax_A a)) (F0 m 16 ls []) := by
    intro u ls hl hF _ _ hP hS
    unfold fX4_hasLinks_b16 at hF
    refine lv_iconst (v := 1) hx hb dX4_hasLinks_16 (by decide) ?_
    refine lv_goto (tgt := 21) hx hb dX4_hasLinks_17 (by decide) ?_
    exact sx_retz (Wd := (ax_W a cI L)) (σ := u) hx hb hr (by decide) hF hP hS hlocks dX4_hasLinks_21
  unfold fX4_hasLinks at hF
  refine lv_aload_n hx hb dX4_hasLinks_0 rfl (lv_at hl 0 rfl) ?_
  refine lv_iload_n hx hb dX4_hasLinks_1 rfl (lv_at hl 1 rfl) ?_
  obtain ⟨r1, u2, hc3, hF⟩ := q_bnd_some hF
  refine sx_ci (Wd := (ax_W a cI L)) (σ1 := u2) (q_runV (Wd := (ax_W a cI L)) (σ := u) (q0 := 5) (ci := 4) (T := TX4) (N := 2) (As := [.int o1]) (rest := []) hx hb hml hown hts hK hP (kt_X4_kindOf hD hc3) cw_X4_29 rfl rfl ⟨Nat.le_of_ble_eq_true rfl, Nat.le_of_ble_eq_true rfl⟩ rfl rfl rfl hl.1 rfl (Nat.le_of_ble_eq_true rfl) dX4_hasLinks_2) hS (fun H locs hP hS => ?_)
  refine lv_istore_n (lv' := [(2, .int r1), (0, .ref (a 5)), (1, .int o1)]) hx hb dX4_hasLinks_5 rfl hl (by decide) rfl (fun ls hl => ?_)
  refine lv_iload_n hx hb dX4_hasLinks_6 rfl (lv_at hl 0 rfl) ?_
  refine lv_iconst (v := 1) hx hb dX4_hasLinks_7 (by decide) ?_
  refine sx_icmp_eq (tgt := 16) hx hb hF dX4_hasLinks_8 (by decide) (fun hF => ?_) (fun hF => ?_)
  · exact hB16 u2 ls (lv_sub hl [] rfl) hF _ _ hP hS
  · refine lv_iload_n hx hb dX4_hasLinks_11 rfl (lv_at hl 0 rfl) ?_
    refine lv_iconst (v := 3) hx hb dX4_hasLinks_12 (by decide) ?_
    refine sx_icmp_ne (tgt := 20) hx hb hF dX4_hasLinks_13 (by decide) (fun hF => ?_) (fun hF => ?_)
    · refine lv_iconst (v := 0) hx hb dX4_hasLinks_20 (by decide) ?_
      exact sx_retz (Wd := (ax_W a cI L)) (σ := u2) hx hb hr (by decide) hF hP hS hlocks dX4_hasLinks_21
    · exact hB16 u2 ls (lv_sub hl [] rfl) hF _ _ hP hS
set_option maxHeartbeats 4000000 in
set_option maxRecDepth 100000 in
theorem kt_X4_linksOf {N : Nat} {l : Launch} {D : va_G} {a : Nat → Nat} {cI : Nat → ClassId} {L : Nat → Nat} (hD : ∀ σ, va_D (ax_A a) (ax_W a cI L σ)) {o1 : Int32} {u σ0 : q_St} {r0 : Int32} (hF : fX4_linksOf L N o1 u = some (r0, σ0)) : Met l yX4_linksOf (Cond.code yX4_linksOf cX4_linksOf 2 (some .int) :: q_T) ({ frames := 3, cells := 0, slots := 0, locals := 68 } : Room) (q_P D vwCl (ax_T cI) (ax_W a cI L) [.ref (a 5), .int o1] u) (q_Qi D vwCl (ax_W a cI L) (ax_A a) r0 σ0) 0 0 (ax_A a) := by
  refine Met.ofW (cc := cX4_linksOf) (maxL := 2) (ret := (some .int)) (by decide) rfl ?_
  intro p e s m args below meth c s₁ B hml hv
  obtain ⟨rfl, hP, hK⟩ := hv
  have hx := B.exec
  have hb := B.bytes
  have hr := B.returns
  have hts := q_ts (atoms_spec (ws := Cond.code yX4_linksOf cX4_linksOf 2 (some .int) :: q_T) B.pre)
  have hown : s.vm.findClass RX4 = some m.cls := findClass_of_methodNamed B.named
  have hlocks := B.notSynchronized
  have hS : va_S (ax_A a) s.heap s.heap [] := va_S.rf
  have hl := lv_entry ([.ref (a 5), .int o1]) (n := 2) (Nat.le_of_ble_eq_true rfl)
  rw [lg_entry_eq]
  generalize (lg_sl ([.ref (a 5), .int o1]) ++ List.replicate (2 - (lg_sl ([.ref (a 5), .int o1])).length) Slot.unset).toArray = ls at hl ⊢
  have hl : lv_has ls 2 [(0, .ref (a 5)), (1, .int o1)] := hl
  unfold fX4_linksOf at hF
  refine lv_aload_n hx hb dX4_linksOf_0 rfl (lv_at hl 0 rfl) ?_
  refine gx_nodes_store hx hb hts hown hK hP fl_X4_9 dX4_linksOf_1 ?_
  refine lv_aload_n hx hb dX4_linksOf_4 rfl (lv_at hl 0 rfl) ?_
  refine gx_nodes_firstNode hx hb hts hown hK hP fl_X4_15 dX4_linksOf_5 ?_
  refine lv_iload_n hx hb dX4_linksOf_8 rfl (lv_at hl 1 rfl) ?_
  refine lv_iadd hx hb dX4_linksOf_9 ?_
  refine lv_iconst (v := 3) hx hb dX4_linksOf_10 (by decide) ?_
  obtain ⟨r1, u2, hc3, hF⟩ := q_bnd_some hF
  refine sx_ci (Wd := (ax_W a cI L)) (σ1 := u2) (q_runV (Wd := (ax_W a cI L)) (σ := u) (q0 := 3) (ci := 6) (T := TX6) (N := 9) (As := [.int ((q_i u 30) + o1), .int 3]) (rest := []) hx hb hml hown hts hK hP (kt_X6_octet hD hc3) cw_X4_23 rfl rfl ⟨Nat.le_of_ble_eq_true rfl, Nat.le_of_ble_eq_true rfl⟩ rfl rfl rfl hl.1 rfl (Nat.le_of_ble_eq_true rfl) dX4_linksOf_11) hS (fun H locs hP hS => ?_)
  exact sx_reti (Wd := (ax_W a cI L)) (σ := u2) hx hb hr hF hP hS hlocks dX4_linksOf_14
set_option maxHeartbeats 4000000 in
set_option maxRecDepth 100000 in
theorem kt_X4_setLinks {N : Nat} {l : Launch} {D : va_G} {a : Nat → Nat} {cI : Nat → ClassId} {L : Nat → Nat} (hD : ∀ σ, va_D (ax_A a) (ax_W a cI L σ)) {o1 : Int32} {o2 : Int32} {u σ0 : q_St} {r0 : Unit} (hF : fX4_setLinks L N o1 o2 u = some (r0, σ0)) : Met l yX4_setLinks (Cond.code yX4_setLinks cX4_setLinks 3 none :: q_T) ({ frames := 3, cells := 0, slots := 0, locals := 80 } : Room) (q_P D vwCl (ax_T cI) (ax_W a cI L) [.ref (a 5), .int o1, .int o2] u) (q_Qv D vwCl (ax_W a cI L) (ax_A a) σ0) 0 0 (ax_A a) := by
  refine Met.ofW (cc := cX4_setLinks) (maxL := 3) (ret := none) (by decide) rfl ?_
  intro p e s m args below meth c s₁ B hml hv
  obtain ⟨rfl, hP, hK⟩ := hv
  have hx := B.exec
  have hb := B.bytes
  have hr := B.returns
  have hts := q_ts (atoms_spec (ws := Cond.code yX4_setLinks cX4_setLinks 3 none :: q_T) B.pre)
  have hown : s.vm.findClass RX4 = some m.cls := findClass_of_methodNamed B.named
  have hlocks := B.notSynchronized
  have hS : va_S (ax_A a) s.heap s.heap [] := va_S.rf
  have hl := lv_entry ([.ref (a 5), .int o1, .int o2]) (n := 3) (Nat.le_of_ble_eq_true rfl)
  rw [lg_entry_eq]
  generalize (lg_sl ([.ref (a 5), .int o1, .int o2]) ++ List.replicate (3 - (lg_sl ([.ref (a 5), .int o1, .int o2])).length) Slot.unset).toArray = ls at hl ⊢
  have hl : lv_has ls 3 [(0, .ref (a 5)), (1, .int o1), (2, .int o2)] := hl
  unfold fX4_setLinks at hF
  refine lv_aload_n hx hb dX4_setLinks_0 rfl (lv_at hl 0 rfl) ?_
  refine gx_nodes_store hx hb hts hown hK hP fl_X4_9 dX4_setLinks_1 ?_
  refine lv_aload_n hx hb dX4_setLinks_4 rfl (lv_at hl 0 rfl) ?_
  refine gx_nodes_firstNode hx hb hts hown hK hP fl_X4_15 dX4_setLinks_5 ?_
  refine lv_iload_n hx hb dX4_setLinks_8 rfl (lv_at hl 1 rfl) ?_
  refine lv_iadd hx hb dX4_setLinks_9 ?_
  refine lv_iconst (v := 3) hx hb dX4_setLinks_10 (by decide) ?_
  refine lv_iload_n hx hb dX4_setLinks_11 rfl (lv_at hl 2 rfl) ?_
  obtain ⟨r1, u2, hc3, hF⟩ := q_bnd_some hF
  refine sx_cv (Wd := (ax_W a cI L)) (σ1 := u2) (q_runV (Wd := (ax_W a cI L)) (σ := u) (q0 := 3) (ci := 6) (T := TX6) (N := 9) (As := [.int ((q_i u 30) + o1), .int 3, .int o2]) (rest := []) hx hb hml hown hts hK hP (kt_X6_setOctet hD hc3) cw_X4_33 rfl rfl ⟨Nat.le_of_ble_eq_true rfl, Nat.le_of_ble_eq_true rfl⟩ rfl rfl rfl hl.1 rfl (Nat.le_of_ble_eq_true rfl) dX4_setLinks_12) hS (fun H locs hP hS => ?_)
  exact sx_retv (Wd := (ax_W a cI L)) (σ := u2) hx hb hr hF hP hS hlocks dX4_setLinks_15
set_option maxHeartbeats 4000000 in
set_option maxRecDepth 100000 in
theorem kt_X10_link {N : Nat} {l : Launch} {D : va_G} {a : Nat → Nat} {cI : Nat → ClassId} {L : Nat → Nat} (hD : ∀ σ, va_D (ax_A a) (ax_W a cI L σ)) {o1 : Int32} {o2 : Int64} {o4 : Int32} {u σ0 : q_St} {r0 : Int32} (hF : fX10_link L N o1 o2 o4 u = some (r0, σ0)) : Met l yX10_link (Cond.code yX10_link cX10_link 7 (some .int) :: q_T) ({ frames := 7, cells := 0, slots := 0, locals := 172 } : Room) (q_P D vwCl (ax_T cI) (ax_W a cI L) [.ref (a 0), .int o1, .long o2, .int o4] u) (q_Qi D vwCl (ax_W a cI L) (ax_A a) r0 σ0) 0 0 (ax_A a) := by
  refine Met.ofW (cc := cX10_link) (maxL := 7) (ret := (some .int)) (by decide) rfl ?_
  intro p e s m args below meth c s₁ B hml hv
  obtain ⟨rfl, hP, hK⟩ := hv
  have hx := B.exec
  have hb := B.bytes
  have hr := B.returns
  have hts := q_ts (atoms_spec (ws := Cond.code yX10_link cX10_link 7 (some .int) :: q_T) B.pre)
  have hown : s.vm.findClass RX10 = some m.cls := findClass_of_methodNamed B.named
  have hlocks := B.notSynchronized
  have hS : va_S (ax_A a) s.heap s.heap [] := va_S.rf
  have hl := lv_entry ([.ref (a 0), .int o1, .long o2, .int o4]) (n := 7) (Nat.le_of_ble_eq_true rfl)
  rw [lg_entry_eq]
  generalize (lg_sl ([.ref (a 0), .int o1, .long o2, .int o4]) ++ List.replicate (7 - (lg_sl ([.ref (a 0), .int o1, .long o2, .int o4])).length) Slot.unset).toArray = ls at hl ⊢
  have hl : lv_has ls 7 [(0, .ref (a 0)), (1, .int o1), (2, .long o2), (4, .int o4)] := hl
  unfold fX10_link at hF
  refine lv_aload_n hx hb dX10_link_0 rfl (lv_at hl 0 rfl) ?_
  refine gx_h_store hx hb hts hown hK hP fl_X10_63 dX10_link_1 ?_
  refine lv_bipush (v := 40) hx hb dX10_link_4 (by decide) ?_
  obtain ⟨r1, u2, hc3, hF⟩ := q_bnd_some hF
  refine sx_ci (Wd := (ax_W a cI L)) (σ1 := u2) (q_runV (Wd := (ax_W a cI L)) (σ := u) (q0 := 3) (ci := 6) (T := TX6) (N := 9) (As := [.int 40]) (rest := []) hx hb hml hown hts hK hP (kt_X6_commitOver hD hc3) cw_X10_126 rfl rfl ⟨Nat.le_of_ble_eq_true rfl, Nat.le_of_ble_eq_true rfl⟩ rfl rfl rfl hl.1 rfl (Nat.le_of_ble_eq_true rfl) dX10_link_6) hS (fun H locs hP hS => ?_)
  refine sx_if_ne (tgt := 15) hx hb hF dX10_link_9 (by decide) (fun hF => ?_) (fun hF => ?_)
  · refine lv_aload_n hx hb dX10_link_15 rfl (lv_at hl 0 rfl) ?_
    refine lv_iload_n hx hb dX10_link_16 rfl (lv_at hl 1 rfl) ?_
    refine lv_lload_n hx hb dX10_link_17 rfl (lv_at hl 2 rfl) ?_
    obtain ⟨r4, u5, hc6, hF⟩ := q_bnd_some hF
    refine sx_ci (Wd := (ax_W a cI L)) (σ1 := u5) (q_runV (Wd := (ax_W a cI L)) (σ := u2) (q0 := 0) (ci := 10) (T := TX10) (N := 11) (As := [.int o1, .long o2]) (rest := []) hx hb hml hown hts hK hP (kt_X10_refusalToGoBy hD hc6) cw_X10_145 rfl rfl ⟨Nat.le_of_ble_eq_true rfl, Nat.le_of_ble_eq_true rfl⟩ rfl rfl rfl hl.1 rfl (Nat.le_of_ble_eq_true rfl) dX10_link_18) hS (fun H locs hP hS => ?_)
    refine lv_istore (lv' := [(5, .int r4), (0, .ref (a 0)), (1, .int o1), (2, .long o2), (4, .int o4)]) hx hb dX10_link_21 hl (by decide) rfl (fun ls hl => ?_)
    refine lv_iload hx hb dX10_link_23 (lv_at hl 0 rfl) ?_
    refine sx_if_eq (tgt := 31) hx hb hF dX10_link_25 (by decide) (fun hF => ?_) (fun hF => ?_)
    · refine lv_aload_n hx hb dX10_link_31 rfl (lv_at hl 1 rfl) ?_
      refine gx_h_nodes hx hb hts hown hK hP fl_X10_71 dX10_link_32 ?_
      refine lv_iload hx hb dX10_link_35 (lv_at hl 4 rfl) ?_
      obtain ⟨r7, u8, hc9, hF⟩ := q_bnd_some hF
      refine sx_ci (Wd := (ax_W a cI L)) (σ1 := u8) (q_runV (Wd := (ax_W a cI L)) (σ := u5) (q0 := 5) (ci := 4) (T := TX4) (N := 2) (As := [.int o4]) (rest := []) hx hb hml hown hts hK hP (kt_X4_hasLinks hD hc9) cw_X10_148 rfl rfl ⟨Nat.le_of_ble_eq_true rfl, Nat.le_of_ble_eq_true rfl⟩ rfl rfl rfl hl.1 rfl (Nat.le_of_ble_eq_true rfl) dX10_link_37) hS (fun H locs hP hS => ?_)
      refine sx_if_ne (tgt := 46) hx hb hF dX10_link_40 (by decide) (fun hF => ?_) (fun hF => ?_)
      · refine lv_aload_n hx hb dX10_link_46 rfl (lv_at hl 1 rfl) ?_
        refine gx_h_folders hx hb hts hown hK hP fl_X10_75 dX10_link_47 ?_
        refine lv_iload_n hx hb dX10_link_50 rfl (lv_at hl 2 rfl) ?_
        refine lv_lload_n hx hb dX10_link_51 rfl (lv_at hl 3 rfl) ?_
        obtain ⟨r10, u11, hc12, hF⟩ := q_bnd_some hF
        refine sx_ci (Wd := (ax_W a cI L)) (σ1 := u11) (q_runV (Wd := (ax_W a cI L)) (σ := u8) (q0 := 6) (ci := 3) (T := TX3) (N := 5) (As := [.int o1, .long o2]) (rest := []) hx hb hml hown hts hK hP (kt_X3_seek hD hc12) cw_X10_151 rfl rfl ⟨Nat.le_of_ble_eq_true rfl, Nat.le_of_ble_eq_true rfl⟩ rfl rfl rfl hl.1 rfl (Nat.le_of_ble_eq_true rfl) dX10_link_52) hS (fun H locs hP hS => ?_)
        refine lv_iconst (v := (-1)) hx hb dX10_link_55 (by decide) ?_
        refine sx_icmp_eq (tgt := 62) hx hb hF dX10_link_56 (by decide) (fun hF => ?_) (fun hF => ?_)
        · refine lv_aload_n hx hb dX10_link_62 rfl (lv_at hl 1 rfl) ?_
          refine gx_h_nodes hx hb hts hown hK hP fl_X10_71 dX10_link_63 ?_
          refine lv_iload hx hb dX10_link_66 (lv_at hl 4 rfl) ?_
          obtain ⟨r13, u14, hc15, hF⟩ := q_bnd_some hF
          refine sx_ci (Wd := (ax_W a cI L)) (σ1 := u14) (q_runV (Wd := (ax_W a cI L)) (σ := u11) (q0 := 5) (ci := 4) (T := TX4) (N := 2) (As := [.int o4]) (rest := []) hx hb hml hown hts hK hP (kt_X4_linksOf hD hc15) cw_X10_154 rfl rfl ⟨Nat.le_of_ble_eq_true rfl, Nat.le_of_ble_eq_true rfl⟩ rfl rfl rfl hl.1 rfl (Nat.le_of_ble_eq_true rfl) dX10_link_68) hS (fun H locs hP hS => ?_)
          refine lv_iconst (v := 1) hx hb dX10_link_71 (by decide) ?_
          refine lv_iadd hx hb dX10_link_72 ?_
          refine sx_istore (lv2 := [(5, .int r4), (0, .ref (a 0)), (1, .int o1), (2, .long o2), (4, .int o4)]) hx hb hF dX10_link_73 hl (by decide) rfl (fun v16 hF ls hl => ?_)
          refine lv_iload hx hb dX10_link_75 (lv_at hl 0 rfl) ?_
          refine lv_sipush (v := 255) hx hb dX10_link_77 (by decide) ?_
          refine sx_icmp_le (tgt := 86) hx hb hF dX10_link_80 (by decide) (fun hF => ?_) (fun hF => ?_)
          · refine lv_aload_n hx hb dX10_link_86 rfl (lv_at hl 2 rfl) ?_
            refine gx_h_folders hx hb hts hown hK hP fl_X10_75 dX10_link_87 ?_
            refine lv_iload_n hx hb dX10_link_90 rfl (lv_at hl 3 rfl) ?_
            refine lv_iconst (v := 0) hx hb dX10_link_91 (by decide) ?_
            obtain ⟨r17, u18, hc19, hF⟩ := q_bnd_some hF
            refine sx_ci (Wd := (ax_W a cI L)) (σ1 := u18) (q_runV (Wd := (ax_W a cI L)) (σ := u14) (q0 := 6) (ci := 3) (T := TX3) (N := 5) (As := [.int o1, .int 0]) (rest := []) hx hb hml hown hts hK hP (kt_X3_hasRoom hD hc19) cw_X10_158 rfl rfl ⟨Nat.le_of_ble_eq_true rfl, Nat.le_of_ble_eq_true rfl⟩ rfl rfl rfl hl.1 rfl (Nat.le_of_ble_eq_true rfl) dX10_link_92) hS (fun H locs hP hS => ?_)
            refine sx_if_ne (tgt := 101) hx hb hF dX10_link_95 (by decide) (fun hF => ?_) (fun hF => ?_)
            · refine lv_aload_n hx hb dX10_link_101 rfl (lv_at hl 2 rfl) ?_
              refine gx_h_nodes hx hb hts hown hK hP fl_X10_71 dX10_link_102 ?_
              refine lv_iload hx hb dX10_link_105 (lv_at hl 5 rfl) ?_
              refine lv_iload hx hb dX10_link_107 (lv_at hl 0 rfl) ?_
              obtain ⟨r20, u21, hc22, hF⟩ := q_bnd_some hF
              refine sx_cv (Wd := (ax_W a cI L)) (σ1 := u21) (q_runV (Wd := (ax_W a cI L)) (σ := u18) (q0 := 5) (ci := 4) (T := TX4) (N := 2) (As := [.int o4, .int v16]) (rest := []) hx hb hml hown hts hK hP (kt_X4_setLinks hD hc22) cw_X10_162 rfl rfl ⟨Nat.le_of_ble_eq_true rfl, Nat.le_of_ble_eq_true rfl⟩ rfl rfl rfl hl.1 rfl (Nat.le_of_ble_eq_true rfl) dX10_link_109) hS (fun H locs hP hS => ?_)
              refine lv_aload_n hx hb dX10_link_112 rfl (lv_at hl 2 rfl) ?_
              refine gx_h_folders hx hb hts hown hK hP fl_X10_75 dX10_link_113 ?_
              refine lv_iload_n hx hb dX10_link_116 rfl (lv_at hl 3 rfl) ?_
              refine lv_lload_n hx hb dX10_link_117 rfl (lv_at hl 4 rfl) ?_
              refine lv_iload hx hb dX10_link_118 (lv_at hl 5 rfl) ?_
              obtain ⟨r23, u24, hc25, hF⟩ := q_bnd_some hF
              refine sx_cv (Wd := (ax_W a cI L)) (σ1 := u24) (q_runV (Wd := (ax_W a cI L)) (σ := u21) (q0 := 6) (ci := 3) (T := TX3) (N := 5) (As := [.int o1, .long o2, .int o4]) (rest := []) hx hb hml hown hts hK hP (kt_X3_add hD hc25) cw_X10_165 rfl rfl ⟨Nat.le_of_ble_eq_true rfl, Nat.le_of_ble_eq_true rfl⟩ rfl rfl rfl hl.1 rfl (Nat.le_of_ble_eq_true rfl) dX10_link_120) hS (fun H locs hP hS => ?_)
              refine lv_iload hx hb dX10_link_123 (lv_at hl 0 rfl) ?_
              exact sx_reti (Wd := (ax_W a cI L)) (σ := u24) hx hb hr hF hP hS hlocks dX10_link_125
            · refine lv_bipush (v := (-16)) hx hb dX10_link_98 (by decide) ?_
              exact sx_reti (Wd := (ax_W a cI L)) (σ := u18) hx hb hr hF hP hS hlocks dX10_link_100
          · refine lv_bipush (v := (-15)) hx hb dX10_link_83 (by decide) ?_
            exact sx_reti (Wd := (ax_W a cI L)) (σ := u14) hx hb hr hF hP hS hlocks dX10_link_85
        · refine lv_bipush (v := (-13)) hx hb dX10_link_59 (by decide) ?_
          exact sx_reti (Wd := (ax_W a cI L)) (σ := u11) hx hb hr hF hP hS hlocks dX10_link_61
      · refine lv_bipush (v := (-14)) hx hb dX10_link_43 (by decide) ?_
        exact sx_reti (Wd := (ax_W a cI L)) (σ := u8) hx hb hr hF hP hS hlocks dX10_link_45
    · refine lv_iload hx hb dX10_link_28 (lv_at hl 0 rfl) ?_
      exact sx_reti (Wd := (ax_W a cI L)) (σ := u5) hx hb hr hF hP hS hlocks dX10_link_30
  · refine lv_bipush (v := (-99)) hx hb dX10_link_12 (by decide) ?_
    exact sx_reti (Wd := (ax_W a cI L)) (σ := u2) hx hb hr hF hP hS hlocks dX10_link_14
set_option maxHeartbeats 4000000 in
set_option maxRecDepth 100000 in
theorem kt_X4_lengthOf {N : Nat} {l : Launch} {D : va_G} {a : Nat → Nat} {cI : Nat → ClassId} {L : Nat → Nat} (hD : ∀ σ, va_D (ax_A a) (ax_W a cI L σ)) {o1 : Int32} {u σ0 : q_St} {r0 : Int32} (hF : fX4_lengthOf L N o1 u = some (r0, σ0)) : Met l yX4_lengthOf (Cond.code yX4_lengthOf cX4_lengthOf 2 (some .int) :: q_T) ({ frames := 2, cells := 0, slots := 0, locals := 46 } : Room) (q_P D vwCl (ax_T cI) (ax_W a cI L) [.ref (a 5), .int o1] u) (q_Qi D vwCl (ax_W a cI L) (ax_A a) r0 σ0) 0 0 (ax_A a) := by
  refine Met.ofW (cc := cX4_lengthOf) (maxL := 2) (ret := (some .int)) (by decide) rfl ?_
  intro p e s m args below meth c s₁ B hml hv
  obtain ⟨rfl, hP, hK⟩ := hv
  have hx := B.exec
  have hb := B.bytes
  have hr := B.returns
  have hts := q_ts (atoms_spec (ws := Cond.code yX4_lengthOf cX4_lengthOf 2 (some .int) :: q_T) B.pre)
  have hown : s.vm.findClass RX4 = some m.cls := findClass_of_methodNamed B.named
  have hlocks := B.notSynchronized
  have hS : va_S (ax_A a) s.heap s.heap [] := va_S.rf
  have hl := lv_entry ([.ref (a 5), .int o1]) (n := 2) (Nat.le_of_ble_eq_true rfl)
  rw [lg_entry_eq]
  generalize (lg_sl ([.ref (a 5), .int o1]) ++ List.replicate (2 - (lg_sl ([.ref (a 5), .int o1])).length) Slot.unset).toArray = ls at hl ⊢
  have hl : lv_has ls 2 [(0, .ref (a 5)), (1, .int o1)] := hl
  unfold fX4_lengthOf at hF
  refine lv_aload_n hx hb dX4_lengthOf_0 rfl (lv_at hl 0 rfl) ?_
  refine gx_nodes_store hx hb hts hown hK hP fl_X4_9 dX4_lengthOf_1 ?_
  refine lv_aload_n hx hb dX4_lengthOf_4 rfl (lv_at hl 0 rfl) ?_
  refine gx_nodes_firstNode hx hb hts hown hK hP fl_X4_15 dX4_lengthOf_5 ?_
  refine lv_iload_n hx hb dX4_lengthOf_8 rfl (lv_at hl 1 rfl) ?_
  refine lv_iadd hx hb dX4_lengthOf_9 ?_
  refine lv_iconst (v := 0) hx hb dX4_lengthOf_10 (by decide) ?_
  obtain ⟨r1, u2, hc3, hF⟩ := q_bnd_some hF
  refine sx_cl (Wd := (ax_W a cI L)) (σ1 := u2) (q_runV (Wd := (ax_W a cI L)) (σ := u) (q0 := 3) (ci := 6) (T := TX6) (N := 9) (As := [.int ((q_i u 30) + o1), .int 0]) (rest := []) hx hb hml hown hts hK hP (kt_X6_word hD hc3) cw_X4_37 rfl rfl ⟨Nat.le_of_ble_eq_true rfl, Nat.le_of_ble_eq_true rfl⟩ rfl rfl rfl hl.1 rfl (Nat.le_of_ble_eq_true rfl) dX4_lengthOf_11) hS (fun H locs hP hS => ?_)
  refine lv_bipush (v := 32) hx hb dX4_lengthOf_14 (by decide) ?_
  refine lv_lushr (v := q_lush r1 32) hx hb dX4_lengthOf_16 rfl ?_
  refine lv_l2i (v := Int64.toInt32 (q_lush r1 32)) hx hb dX4_lengthOf_17 rfl ?_
  exact sx_reti (Wd := (ax_W a cI L)) (σ := u2) hx hb hr hF hP hS hlocks dX4_lengthOf_18
set_option maxHeartbeats 4000000 in
set_option maxRecDepth 100000 in
theorem kt_X0_byteCount {N : Nat} {l : Launch} {D : va_G} {a : Nat → Nat} {cI : Nat → ClassId} {L : Nat → Nat} (hD : ∀ σ, va_D (ax_A a) (ax_W a cI L σ)) {o1 : Int32} {u σ0 : q_St} {r0 : Int32} (hF : fX0_byteCount L N o1 u = some (r0, σ0)) : Met l yX0_byteCount (Cond.code yX0_byteCount cX0_byteCount 2 (some .int) :: q_T) ({ frames := 4, cells := 0, slots := 0, locals := 89 } : Room) (q_P D vwCl (ax_T cI) (ax_W a cI L) [.ref (a 7), .int o1] u) (q_Qi D vwCl (ax_W a cI L) (ax_A a) r0 σ0) 0 0 (ax_A a) := by
  refine Met.ofW (cc := cX0_byteCount) (maxL := 2) (ret := (some .int)) (by decide) rfl ?_
  intro p e s m args below meth c s₁ B hml hv
  obtain ⟨rfl, hP, hK⟩ := hv
  have hx := B.exec
  have hb := B.bytes
  have hr := B.returns
  have hts := q_ts (atoms_spec (ws := Cond.code yX0_byteCount cX0_byteCount 2 (some .int) :: q_T) B.pre)
  have hown : s.vm.findClass RX0 = some m.cls := findClass_of_methodNamed B.named
  have hlocks := B.notSynchronized
  have hS : va_S (ax_A a) s.heap s.heap [] := va_S.rf
  have hl := lv_entry ([.ref (a 7), .int o1]) (n := 2) (Nat.le_of_ble_eq_true rfl)
  rw [lg_entry_eq]
  generalize (lg_sl ([.ref (a 7), .int o1]) ++ List.replicate (2 - (lg_sl ([.ref (a 7), .int o1])).length) Slot.unset).toArray = ls at hl ⊢
  have hl : lv_has ls 2 [(0, .ref (a 7)), (1, .int o1)] := hl
  unfold fX0_byteCount at hF
  refine lv_aload_n hx hb dX0_byteCount_0 rfl (lv_at hl 0 rfl) ?_
  refine gx_bodies_nodes hx hb hts hown hK hP fl_X0_19 dX0_byteCount_1 ?_
  refine lv_iload_n hx hb dX0_byteCount_4 rfl (lv_at hl 1 rfl) ?_
  obtain ⟨r1, u2, hc3, hF⟩ := q_bnd_some hF
  refine sx_ci (Wd := (ax_W a cI L)) (σ1 := u2) (q_runV (Wd := (ax_W a cI L)) (σ := u) (q0 := 5) (ci := 4) (T := TX4) (N := 2) (As := [.int o1]) (rest := []) hx hb hml hown hts hK hP (kt_X4_kindOf hD hc3) cw_X0_27 rfl rfl ⟨Nat.le_of_ble_eq_true rfl, Nat.le_of_ble_eq_true rfl⟩ rfl rfl rfl hl.1 rfl (Nat.le_of_ble_eq_true rfl) dX0_byteCount_5) hS (fun H locs hP hS => ?_)
  refine lv_iconst (v := 3) hx hb dX0_byteCount_8 (by decide) ?_
  refine sx_icmp_ne (tgt := 22) hx hb hF dX0_byteCount_9 (by decide) (fun hF => ?_) (fun hF => ?_)
  · refine lv_aload_n hx hb dX0_byteCount_22 rfl (lv_at hl 0 rfl) ?_
    refine gx_bodies_nodes hx hb hts hown hK hP fl_X0_19 dX0_byteCount_23 ?_
    refine lv_iload_n hx hb dX0_byteCount_26 rfl (lv_at hl 1 rfl) ?_
    obtain ⟨r4, u5, hc6, hF⟩ := q_bnd_some hF
    refine sx_ci (Wd := (ax_W a cI L)) (σ1 := u5) (q_runV (Wd := (ax_W a cI L)) (σ := u2) (q0 := 5) (ci := 4) (T := TX4) (N := 2) (As := [.int o1]) (rest := []) hx hb hml hown hts hK hP (kt_X4_lengthOf hD hc6) cw_X0_33 rfl rfl ⟨Nat.le_of_ble_eq_true rfl, Nat.le_of_ble_eq_true rfl⟩ rfl rfl rfl hl.1 rfl (Nat.le_of_ble_eq_true rfl) dX0_byteCount_27) hS (fun H locs hP hS => ?_)
    exact sx_reti (Wd := (ax_W a cI L)) (σ := u5) hx hb hr hF hP hS hlocks dX0_byteCount_30
  · refine lv_bipush (v := 64) hx hb dX0_byteCount_12 (by decide) ?_
    refine lv_aload_n hx hb dX0_byteCount_14 rfl (lv_at hl 0 rfl) ?_
    refine gx_bodies_bandSize hx hb hts hown hK hP fl_X0_23 dX0_byteCount_15 ?_
    refine lv_imul hx hb dX0_byteCount_18 ?_
    refine lv_goto (tgt := 30) hx hb dX0_byteCount_19 (by decide) ?_
    exact sx_reti (Wd := (ax_W a cI L)) (σ := u2) hx hb hr hF hP hS hlocks dX0_byteCount_30
set_option maxHeartbeats 4000000 in
set_option maxRecDepth 100000 in
theorem kt_X0_takeTold {N : Nat} {l : Launch} {D : va_G} {a : Nat → Nat} {cI : Nat → ClassId} {L : Nat → Nat} (hD : ∀ σ, va_D (ax_A a) (ax_W a cI L σ)) {o1 : Int32} {o2 : Int32} {u σ0 : q_St} {r0 : Int32} (hF : fX0_takeTold L N o1 o2 u = some (r0, σ0)) : Met l yX0_takeTold (Cond.code yX0_takeTold cX0_takeTold 4 (some .int) :: q_T) ({ frames := 3, cells := 0, slots := 0, locals := 80 } : Room) (q_P D vwCl (ax_T cI) (ax_W a cI L) [.ref (a 7), .int o1, .int o2] u) (q_Qi D vwCl (ax_W a cI L) (ax_A a) r0 σ0) 0 0 (ax_A a) := by
  refine Met.ofW (cc := cX0_takeTold) (maxL := 4) (ret := (some .int)) (by decide) rfl ?_
  intro p e s m args below meth c s₁ B hml hv
  obtain ⟨rfl, hP, hK⟩ := hv
  have hx := B.exec
  have hb := B.bytes
  have hr := B.returns
  have hts := q_ts (atoms_spec (ws := Cond.code yX0_takeTold cX0_takeTold 4 (some .int) :: q_T) B.pre)
  have hown : s.vm.findClass RX0 = some m.cls := findClass_of_methodNamed B.named
  have hlocks := B.notSynchronized
  have hS : va_S (ax_A a) s.heap s.heap [] := va_S.rf
  have hl := lv_entry ([.ref (a 7), .int o1, .int o2]) (n := 4) (Nat.le_of_ble_eq_true rfl)
  rw [lg_entry_eq]
  generalize (lg_sl ([.ref (a 7), .int o1, .int o2]) ++ List.replicate (4 - (lg_sl ([.ref (a 7), .int o1, .int o2])).length) Slot.unset).toArray = ls at hl ⊢
  have hl : lv_has ls 4 [(0, .ref (a 7)), (1, .int o1), (2, .int o2)] := hl
  unfold fX0_takeTold at hF
  refine lv_aload_n hx hb dX0_takeTold_0 rfl (lv_at hl 0 rfl) ?_
  refine gx_bodies_store hx hb hts hown hK hP fl_X0_11 dX0_takeTold_1 ?_
  refine lv_iload_n hx hb dX0_takeTold_4 rfl (lv_at hl 1 rfl) ?_
  refine lv_iload_n hx hb dX0_takeTold_5 rfl (lv_at hl 2 rfl) ?_
  obtain ⟨r1, u2, hc3, hF⟩ := q_bnd_some hF
  refine sx_ci (Wd := (ax_W a cI L)) (σ1 := u2) (q_runV (Wd := (ax_W a cI L)) (σ := u) (q0 := 3) (ci := 6) (T := TX6) (N := 9) (As := [.int o1, .int o2]) (rest := []) hx hb hml hown hts hK hP (kt_X6_half hD hc3) cw_X0_54 rfl rfl ⟨Nat.le_of_ble_eq_true rfl, Nat.le_of_ble_eq_true rfl⟩ rfl rfl rfl hl.1 rfl (Nat.le_of_ble_eq_true rfl) dX0_takeTold_6) hS (fun H locs hP hS => ?_)
  refine lv_istore_n (lv' := [(3, .int r1), (0, .ref (a 7)), (1, .int o1), (2, .int o2)]) hx hb dX0_takeTold_9 rfl hl (by decide) rfl (fun ls hl => ?_)
  refine lv_iload_n hx hb dX0_takeTold_10 rfl (lv_at hl 0 rfl) ?_
  refine sx_if_ne (tgt := 32) hx hb hF dX0_takeTold_11 (by decide) (fun hF => ?_) (fun hF => ?_)
  · refine lv_iload_n hx hb dX0_takeTold_32 rfl (lv_at hl 0 rfl) ?_
    exact sx_reti (Wd := (ax_W a cI L)) (σ := u2) hx hb hr hF hP hS hlocks dX0_takeTold_33
  · refine lv_aload_n hx hb dX0_takeTold_14 rfl (lv_at hl 1 rfl) ?_
    refine gx_bodies_space hx hb hts hown hK hP fl_X0_15 dX0_takeTold_15 ?_
    obtain ⟨r4, u5, hc6, hF⟩ := q_bnd_some hF
    refine sx_ci (Wd := (ax_W a cI L)) (σ1 := u5) (q_runV (Wd := (ax_W a cI L)) (σ := u2) (q0 := 4) (ci := 5) (T := TX5) (N := 6) (As := []) (rest := []) hx hb hml hown hts hK hP (kt_X5_takeBlank hD hc6) cw_X0_82 rfl rfl ⟨Nat.le_of_ble_eq_true rfl, Nat.le_of_ble_eq_true rfl⟩ rfl rfl rfl hl.1 rfl (Nat.le_of_ble_eq_true rfl) dX0_takeTold_18) hS (fun H locs hP hS => ?_)
    refine lv_istore_n (lv' := [(3, .int r4), (0, .ref (a 7)), (1, .int o1), (2, .int o2)]) hx hb dX0_takeTold_21 rfl hl (by decide) rfl (fun ls hl => ?_)
    refine lv_aload_n hx hb dX0_takeTold_22 rfl (lv_at hl 1 rfl) ?_
    refine gx_bodies_store hx hb hts hown hK hP fl_X0_11 dX0_takeTold_23 ?_
    refine lv_iload_n hx hb dX0_takeTold_26 rfl (lv_at hl 2 rfl) ?_
    refine lv_iload_n hx hb dX0_takeTold_27 rfl (lv_at hl 3 rfl) ?_
    refine lv_iload_n hx hb dX0_takeTold_28 rfl (lv_at hl 0 rfl) ?_
    obtain ⟨r7, u8, hc9, hF⟩ := q_bnd_some hF
    refine sx_cv (Wd := (ax_W a cI L)) (σ1 := u8) (q_runV (Wd := (ax_W a cI L)) (σ := u5) (q0 := 3) (ci := 6) (T := TX6) (N := 9) (As := [.int o1, .int o2, .int r4]) (rest := []) hx hb hml hown hts hK hP (kt_X6_setHalf hD hc9) cw_X0_88 rfl rfl ⟨Nat.le_of_ble_eq_true rfl, Nat.le_of_ble_eq_true rfl⟩ rfl rfl rfl hl.1 rfl (Nat.le_of_ble_eq_true rfl) dX0_takeTold_29) hS (fun H locs hP hS => ?_)
    refine lv_iload_n hx hb dX0_takeTold_32 rfl (lv_at hl 0 rfl) ?_
    exact sx_reti (Wd := (ax_W a cI L)) (σ := u8) hx hb hr hF hP hS hlocks dX0_takeTold_33
set_option maxHeartbeats 4000000 in
set_option maxRecDepth 100000 in
theorem kt_X0_takePiece {N : Nat} {l : Launch} {D : va_G} {a : Nat → Nat} {cI : Nat → ClassId} {L : Nat → Nat} (hD : ∀ σ, va_D (ax_A a) (ax_W a cI L σ)) {o1 : Int32} {o2 : Int32} {u σ0 : q_St} {r0 : Int32} (hF : fX0_takePiece L N o1 o2 u = some (r0, σ0)) : Met l yX0_takePiece (Cond.code yX0_takePiece cX0_takePiece 5 (some .int) :: q_T) ({ frames := 4, cells := 0, slots := 0, locals := 103 } : Room) (q_P D vwCl (ax_T cI) (ax_W a cI L) [.ref (a 7), .int o1, .int o2] u) (q_Qi D vwCl (ax_W a cI L) (ax_A a) r0 σ0) 0 0 (ax_A a) := by
  refine Met.ofW (cc := cX0_takePiece) (maxL := 5) (ret := (some .int)) (by decide) rfl ?_
  intro p e s m args below meth c s₁ B hml hv
  obtain ⟨rfl, hP, hK⟩ := hv
  have hx := B.exec
  have hb := B.bytes
  have hr := B.returns
  have hts := q_ts (atoms_spec (ws := Cond.code yX0_takePiece cX0_takePiece 5 (some .int) :: q_T) B.pre)
  have hown : s.vm.findClass RX0 = some m.cls := findClass_of_methodNamed B.named
  have hlocks := B.notSynchronized
  have hS : va_S (ax_A a) s.heap s.heap [] := va_S.rf
  have hl := lv_entry ([.ref (a 7), .int o1, .int o2]) (n := 5) (Nat.le_of_ble_eq_true rfl)
  rw [lg_entry_eq]
  generalize (lg_sl ([.ref (a 7), .int o1, .int o2]) ++ List.replicate (5 - (lg_sl ([.ref (a 7), .int o1, .int o2])).length) Slot.unset).toArray = ls at hl ⊢
  have hl : lv_has ls 5 [(0, .ref (a 7)), (1, .int o1), (2, .int o2)] := hl
  unfold fX0_takePiece at hF
  refine lv_aload_n hx hb dX0_takePiece_0 rfl (lv_at hl 0 rfl) ?_
  refine gx_bodies_nodes hx hb hts hown hK hP fl_X0_19 dX0_takePiece_1 ?_
  refine lv_iload_n hx hb dX0_takePiece_4 rfl (lv_at hl 1 rfl) ?_
  obtain ⟨r1, u2, hc3, hF⟩ := q_bnd_some hF
  refine sx_ci (Wd := (ax_W a cI L)) (σ1 := u2) (q_runV (Wd := (ax_W a cI L)) (σ := u) (q0 := 5) (ci := 4) (T := TX4) (N := 2) (As := [.int o1]) (rest := []) hx hb hml hown hts hK hP (kt_X4_sectorOf hD hc3) cw_X0_36 rfl rfl ⟨Nat.le_of_ble_eq_true rfl, Nat.le_of_ble_eq_true rfl⟩ rfl rfl rfl hl.1 rfl (Nat.le_of_ble_eq_true rfl) dX0_takePiece_5) hS (fun H locs hP hS => ?_)
  refine lv_istore_n (lv' := [(3, .int r1), (0, .ref (a 7)), (1, .int o1), (2, .int o2)]) hx hb dX0_takePiece_8 rfl hl (by decide) rfl (fun ls hl => ?_)
  refine lv_iload_n hx hb dX0_takePiece_9 rfl (lv_at hl 3 rfl) ?_
  refine lv_bipush (v := 12) hx hb dX0_takePiece_10 (by decide) ?_
  refine sx_icmp_ge (tgt := 24) hx hb hF dX0_takePiece_12 (by decide) (fun hF => ?_) (fun hF => ?_)
  · refine lv_iload_n hx hb dX0_takePiece_24 rfl (lv_at hl 3 rfl) ?_
    refine lv_bipush (v := 44) hx hb dX0_takePiece_25 (by decide) ?_
    refine sx_icmp_ge (tgt := 46) hx hb hF dX0_takePiece_27 (by decide) (fun hF => ?_) (fun hF => ?_)
    · refine lv_iload_n hx hb dX0_takePiece_46 rfl (lv_at hl 3 rfl) ?_
      refine lv_bipush (v := 44) hx hb dX0_takePiece_47 (by decide) ?_
      refine lv_isub hx hb dX0_takePiece_49 ?_
      refine sx_istore (lv2 := [(3, .int r1), (0, .ref (a 7)), (1, .int o1), (2, .int o2)]) hx hb hF dX0_takePiece_50 hl (by decide) rfl (fun v4 hF ls hl => ?_)
      refine lv_aload_n hx hb dX0_takePiece_52 rfl (lv_at hl 2 rfl) ?_
      refine lv_aload_n hx hb dX0_takePiece_53 rfl (lv_at hl 2 rfl) ?_
      refine lv_aload_n hx hb dX0_takePiece_54 rfl (lv_at hl 2 rfl) ?_
      refine lv_iload_n hx hb dX0_takePiece_55 rfl (lv_at hl 1 rfl) ?_
      refine lv_bipush (v := 17) hx hb dX0_takePiece_56 (by decide) ?_
      obtain ⟨r5, u6, hc7, hF⟩ := q_bnd_some hF
      refine sx_ci (Wd := (ax_W a cI L)) (σ1 := u6) (q_runV (Wd := (ax_W a cI L)) (σ := u2) (q0 := 7) (ci := 0) (T := TX0) (N := 4) (As := [.int r1, .int 17]) (rest := [.ref (a 7), .ref (a 7)]) hx hb hml hown hts hK hP (kt_X0_takeTold hD hc7) cw_X0_79 rfl rfl ⟨Nat.le_of_ble_eq_true rfl, Nat.le_of_ble_eq_true rfl⟩ rfl rfl rfl hl.1 rfl (Nat.le_of_ble_eq_true rfl) dX0_takePiece_58) hS (fun H locs hP hS => ?_)
      refine lv_iload hx hb dX0_takePiece_61 (lv_at hl 0 rfl) ?_
      refine lv_bipush (v := 32) hx hb dX0_takePiece_63 (by decide) ?_
      refine lv_idiv hx hb dX0_takePiece_65 (by decide) ?_
      obtain ⟨r8, u9, hc10, hF⟩ := q_bnd_some hF
      refine sx_ci (Wd := (ax_W a cI L)) (σ1 := u9) (q_runV (Wd := (ax_W a cI L)) (σ := u6) (q0 := 7) (ci := 0) (T := TX0) (N := 4) (As := [.int r5, .int (v4 / 32)]) (rest := [.ref (a 7)]) hx hb hml hown hts hK hP (kt_X0_takeTold hD hc10) cw_X0_79 rfl rfl ⟨Nat.le_of_ble_eq_true rfl, Nat.le_of_ble_eq_true rfl⟩ rfl rfl rfl hl.1 rfl (Nat.le_of_ble_eq_true rfl) dX0_takePiece_66) hS (fun H locs hP hS => ?_)
      refine lv_iload hx hb dX0_takePiece_69 (lv_at hl 0 rfl) ?_
      refine lv_bipush (v := 32) hx hb dX0_takePiece_71 (by decide) ?_
      refine lv_irem hx hb dX0_takePiece_73 (by decide) ?_
      obtain ⟨r11, u12, hc13, hF⟩ := q_bnd_some hF
      refine sx_ci (Wd := (ax_W a cI L)) (σ1 := u12) (q_runV (Wd := (ax_W a cI L)) (σ := u9) (q0 := 7) (ci := 0) (T := TX0) (N := 4) (As := [.int r8, .int (v4 - v4 / 32 * 32)]) (rest := []) hx hb hml hown hts hK hP (kt_X0_takeTold hD hc13) cw_X0_79 rfl rfl ⟨Nat.le_of_ble_eq_true rfl, Nat.le_of_ble_eq_true rfl⟩ rfl rfl rfl hl.1 rfl (Nat.le_of_ble_eq_true rfl) dX0_takePiece_74) hS (fun H locs hP hS => ?_)
      exact sx_reti (Wd := (ax_W a cI L)) (σ := u12) hx hb hr hF hP hS hlocks dX0_takePiece_77
    · refine lv_aload_n hx hb dX0_takePiece_30 rfl (lv_at hl 1 rfl) ?_
      refine lv_aload_n hx hb dX0_takePiece_31 rfl (lv_at hl 1 rfl) ?_
      refine lv_iload_n hx hb dX0_takePiece_32 rfl (lv_at hl 0 rfl) ?_
      refine lv_bipush (v := 16) hx hb dX0_takePiece_33 (by decide) ?_
      obtain ⟨r14, u15, hc16, hF⟩ := q_bnd_some hF
      refine sx_ci (Wd := (ax_W a cI L)) (σ1 := u15) (q_runV (Wd := (ax_W a cI L)) (σ := u2) (q0 := 7) (ci := 0) (T := TX0) (N := 4) (As := [.int r1, .int 16]) (rest := [.ref (a 7)]) hx hb hml hown hts hK hP (kt_X0_takeTold hD hc16) cw_X0_79 rfl rfl ⟨Nat.le_of_ble_eq_true rfl, Nat.le_of_ble_eq_true rfl⟩ rfl rfl rfl hl.1 rfl (Nat.le_of_ble_eq_true rfl) dX0_takePiece_35) hS (fun H locs hP hS => ?_)
      refine lv_iload_n hx hb dX0_takePiece_38 rfl (lv_at hl 3 rfl) ?_
      refine lv_bipush (v := 12) hx hb dX0_takePiece_39 (by decide) ?_
      refine lv_isub hx hb dX0_takePiece_41 ?_
      obtain ⟨r17, u18, hc19, hF⟩ := q_bnd_some hF
      refine sx_ci (Wd := (ax_W a cI L)) (σ1 := u18) (q_runV (Wd := (ax_W a cI L)) (σ := u15) (q0 := 7) (ci := 0) (T := TX0) (N := 4) (As := [.int r14, .int (o2 - 12)]) (rest := []) hx hb hml hown hts hK hP (kt_X0_takeTold hD hc19) cw_X0_79 rfl rfl ⟨Nat.le_of_ble_eq_true rfl, Nat.le_of_ble_eq_true rfl⟩ rfl rfl rfl hl.1 rfl (Nat.le_of_ble_eq_true rfl) dX0_takePiece_42) hS (fun H locs hP hS => ?_)
      exact sx_reti (Wd := (ax_W a cI L)) (σ := u18) hx hb hr hF hP hS hlocks dX0_takePiece_45
  · refine lv_aload_n hx hb dX0_takePiece_15 rfl (lv_at hl 1 rfl) ?_
    refine lv_iload_n hx hb dX0_takePiece_16 rfl (lv_at hl 0 rfl) ?_
    refine lv_iconst (v := 4) hx hb dX0_takePiece_17 (by decide) ?_
    refine lv_iload_n hx hb dX0_takePiece_18 rfl (lv_at hl 3 rfl) ?_
    refine lv_iadd hx hb dX0_takePiece_19 ?_
    obtain ⟨r20, u21, hc22, hF⟩ := q_bnd_some hF
    refine sx_ci (Wd := (ax_W a cI L)) (σ1 := u21) (q_runV (Wd := (ax_W a cI L)) (σ := u2) (q0 := 7) (ci := 0) (T := TX0) (N := 4) (As := [.int r1, .int (4 + o2)]) (rest := []) hx hb hml hown hts hK hP (kt_X0_takeTold hD hc22) cw_X0_79 rfl rfl ⟨Nat.le_of_ble_eq_true rfl, Nat.le_of_ble_eq_true rfl⟩ rfl rfl rfl hl.1 rfl (Nat.le_of_ble_eq_true rfl) dX0_takePiece_20) hS (fun H locs hP hS => ?_)
    exact sx_reti (Wd := (ax_W a cI L)) (σ := u21) hx hb hr hF hP hS hlocks dX0_takePiece_23
