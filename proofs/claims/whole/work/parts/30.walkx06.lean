set_option maxHeartbeats 4000000 in
set_option maxRecDepth 100000 in
theorem kt_X9_follow {N : Nat} {l : Launch} {D : va_G} {a : Nat → Nat} {cI : Nat → ClassId} {L : Nat → Nat} (hD : ∀ σ, va_D (ax_A a) (ax_W a cI L σ)) {o1 : Int32} {o2 : Int32} {u σ0 : q_St} {r0 : Int32} (hF : fX9_follow L N o1 o2 u = some (r0, σ0)) : Met l yX9_follow (Cond.code yX9_follow cX9_follow 5 (some .int) :: q_T) ({ frames := 6, cells := 0, slots := 0, locals := 142 } : Room) (q_P D vwCl (ax_T cI) (ax_W a cI L) [.ref (a 10), .int o1, .int o2] u) (q_Qi D vwCl (ax_W a cI L) (ax_A a) r0 σ0) 0 0 (ax_A a) := by
  refine Met.ofW (cc := cX9_follow) (maxL := 5) (ret := (some .int)) (by decide) rfl ?_
  intro p e s m args below meth c s₁ B hml hv
  obtain ⟨rfl, hP, hK⟩ := hv
  have hx := B.exec
  have hb := B.bytes
  have hr := B.returns
  have hts := q_ts (atoms_spec (ws := Cond.code yX9_follow cX9_follow 5 (some .int) :: q_T) B.pre)
  have hown : s.vm.findClass RX9 = some m.cls := findClass_of_methodNamed B.named
  have hlocks := B.notSynchronized
  have hS : va_S (ax_A a) s.heap s.heap [] := va_S.rf
  have hl := lv_entry ([.ref (a 10), .int o1, .int o2]) (n := 5) (Nat.le_of_ble_eq_true rfl)
  rw [lg_entry_eq]
  generalize (lg_sl ([.ref (a 10), .int o1, .int o2]) ++ List.replicate (5 - (lg_sl ([.ref (a 10), .int o1, .int o2])).length) Slot.unset).toArray = ls at hl ⊢
  have hl : lv_has ls 5 [(0, .ref (a 10)), (1, .int o1), (2, .int o2)] := hl
  have hB61 : ∀ (u : q_St) (ls : Array Slot), lv_has ls 5 [(0, .ref (a 10))] → fX9_follow_b61 L N u = some (r0, σ0) → ∀ (H : Heap) (locs : List Loc), va_P D vwCl (ax_W a cI L u) H → va_S (ax_A a) s.heap H locs → W p l e (headSpec (Cond.code yX9_follow cX9_follow 5 (some .int) :: q_T) ({ frames := 6, cells := 0, slots := 0, locals := 142 } : Room)).room s m ([.ref (a 10), .int o1, .int o2] : List Value).toArray below meth c H locs 0 0 (MQ below (q_Qi D vwCl (ax_W a cI L) (ax_A a) r0 σ0) ([.ref (a 10), .int o1, .int o2] : List Value).toArray s 0 0 (ax_A a)) (F0 m 61 ls []) := by
    intro u ls hl hF _ _ hP hS
    unfold fX9_follow_b61 at hF
    refine lv_aload_n hx hb dX9_follow_61 rfl (lv_at hl 0 rfl) ?_
    refine gx_walker_here hx hb hts hown hK hP fl_X9_41 dX9_follow_62 ?_
    exact sx_reti (Wd := (ax_W a cI L)) (σ := u) hx hb hr hF hP hS hlocks dX9_follow_65
  have hB22 : ∀ (n : Nat) (x2 : Int32) (x3 : Int32) (u : q_St) (ls : Array Slot), lv_has ls 5 [(0, .ref (a 10)), (2, .int x2), (3, .int x3)] → q_lp (fX9_follow_b22 L N) (fun _ _ _ => none) n x2 x3 u = some (r0, σ0) → ∀ (H : Heap) (locs : List Loc), va_P D vwCl (ax_W a cI L u) H → va_S (ax_A a) s.heap H locs → W p l e (headSpec (Cond.code yX9_follow cX9_follow 5 (some .int) :: q_T) ({ frames := 6, cells := 0, slots := 0, locals := 142 } : Room)).room s m ([.ref (a 10), .int o1, .int o2] : List Value).toArray below meth c H locs 0 0 (MQ below (q_Qi D vwCl (ax_W a cI L) (ax_A a) r0 σ0) ([.ref (a 10), .int o1, .int o2] : List Value).toArray s 0 0 (ax_A a)) (F0 m 22 ls []) := by
    intro n
    induction n with
    | zero => intro x2 x3 u ls hl hF; exact absurd (show (none : Option (Int32 × q_St)) = some _ from hF) (fun h => nomatch h)
    | succ n hi22 =>
      intro x2 x3 u ls hl hF _ _ hP hS
      obtain ⟨ih22, hih⟩ : ∃ q, q = q_lp (fX9_follow_b22 L N) (fun _ _ _ => none) n := ⟨_, rfl⟩
      rw [← hih] at hi22
      have hF : fX9_follow_b22 L N (q_lp (fX9_follow_b22 L N) (fun _ _ _ => none) n) x2 x3 u = some (r0, σ0) := hF
      rw [← hih] at hF
      clear hih
      unfold fX9_follow_b22 at hF
      refine lv_iload_n hx hb dX9_follow_22 rfl (lv_at hl 2 rfl) ?_
      refine lv_sipush (v := 4096) hx hb dX9_follow_23 (by decide) ?_
      refine sx_icmp_ge (tgt := 61) hx hb hF dX9_follow_26 (by decide) (fun hF => ?_) (fun hF => ?_)
      · exact hB61 u ls (lv_sub hl [0] rfl) hF _ _ hP hS
      · refine lv_aload_n hx hb dX9_follow_29 rfl (lv_at hl 0 rfl) ?_
        refine gx_walker_depth hx hb hts hown hK hP fl_X9_34 dX9_follow_30 ?_
        refine sx_if_le (tgt := 61) hx hb hF dX9_follow_33 (by decide) (fun hF => ?_) (fun hF => ?_)
        · exact hB61 u ls (lv_sub hl [0] rfl) hF _ _ hP hS
        · refine lv_aload_n hx hb dX9_follow_36 rfl (lv_at hl 0 rfl) ?_
          obtain ⟨r7, u8, hc9, hF⟩ := q_bnd_some hF
          refine sx_cv (Wd := (ax_W a cI L)) (σ1 := u8) (q_runV (Wd := (ax_W a cI L)) (σ := u) (q0 := 10) (ci := 9) (T := TX9) (N := 12) (As := []) (rest := []) hx hb hml hown hts hK hP (kt_X9_nextPart hD hc9) cw_X9_48 rfl rfl ⟨Nat.le_of_ble_eq_true rfl, Nat.le_of_ble_eq_true rfl⟩ rfl rfl rfl hl.1 rfl (Nat.le_of_ble_eq_true rfl) dX9_follow_37) hS (fun H locs hP hS => ?_)
          refine lv_aload_n hx hb dX9_follow_40 rfl (lv_at hl 0 rfl) ?_
          refine lv_iload_n hx hb dX9_follow_41 rfl (lv_at hl 1 rfl) ?_
          obtain ⟨r10, u11, hc12, hF⟩ := q_bnd_some hF
          refine sx_ci (Wd := (ax_W a cI L)) (σ1 := u11) (q_runV (Wd := (ax_W a cI L)) (σ := u8) (q0 := 10) (ci := 9) (T := TX9) (N := 12) (As := [.int x2]) (rest := []) hx hb hml hown hts hK hP (kt_X9_goPart hD hc12) cw_X9_51 rfl rfl ⟨Nat.le_of_ble_eq_true rfl, Nat.le_of_ble_eq_true rfl⟩ rfl rfl rfl hl.1 rfl (Nat.le_of_ble_eq_true rfl) dX9_follow_42) hS (fun H locs hP hS => ?_)
          refine lv_istore (lv' := [(4, .int r10), (0, .ref (a 10)), (2, .int x2), (3, .int x3)]) hx hb dX9_follow_45 hl (by decide) rfl (fun ls hl => ?_)
          refine lv_iload hx hb dX9_follow_47 (lv_at hl 0 rfl) ?_
          refine sx_if_eq (tgt := 55) hx hb hF dX9_follow_49 (by decide) (fun hF => ?_) (fun hF => ?_)
          · refine sx_iinc (d := 1) (k := 3) (lv2 := [(4, .int r10), (0, .ref (a 10)), (2, .int x2)]) hx hb hF dX9_follow_55 hl rfl (by decide) (by decide) rfl (fun v13 hF ls hl => ?_)
            refine lv_goto (tgt := 22) hx hb dX9_follow_58 (by decide) ?_
            exact hi22 x2 v13 u11 ls (lv_sub hl [2, 3, 0] rfl) hF _ _ hP hS
          · refine lv_iload hx hb dX9_follow_52 (lv_at hl 0 rfl) ?_
            exact sx_reti (Wd := (ax_W a cI L)) (σ := u11) hx hb hr hF hP hS hlocks dX9_follow_54
  unfold fX9_follow at hF
  refine lv_aload_n hx hb dX9_follow_0 rfl (lv_at hl 0 rfl) ?_
  refine lv_iconst (v := 0) hx hb dX9_follow_1 (by decide) ?_
  refine px_walker_depth hx hb hts hown hK hP fl_X9_34 hD hS hF dX9_follow_2 (fun u1 H locs hF hP hS => ?_)
  refine lv_aload_n hx hb dX9_follow_5 rfl (lv_at hl 0 rfl) ?_
  refine lv_iconst (v := 0) hx hb dX9_follow_6 (by decide) ?_
  refine px_walker_pointers hx hb hts hown hK hP fl_X9_38 hD hS hF dX9_follow_7 (fun u2 H locs hF hP hS => ?_)
  refine lv_aload_n hx hb dX9_follow_10 rfl (lv_at hl 0 rfl) ?_
  refine lv_iload_n hx hb dX9_follow_11 rfl (lv_at hl 1 rfl) ?_
  refine px_walker_here hx hb hts hown hK hP fl_X9_41 hD hS hF dX9_follow_12 (fun u3 H locs hF hP hS => ?_)
  refine lv_aload_n hx hb dX9_follow_15 rfl (lv_at hl 0 rfl) ?_
  refine lv_iconst (v := (-1)) hx hb dX9_follow_16 (by decide) ?_
  obtain ⟨r4, u5, hc6, hF⟩ := q_bnd_some hF
  refine sx_cv (Wd := (ax_W a cI L)) (σ1 := u5) (q_runV (Wd := (ax_W a cI L)) (σ := u3) (q0 := 10) (ci := 9) (T := TX9) (N := 12) (As := [.int (-1)]) (rest := []) hx hb hml hown hts hK hP (kt_X9_begin hD hc6) cw_X9_44 rfl rfl ⟨Nat.le_of_ble_eq_true rfl, Nat.le_of_ble_eq_true rfl⟩ rfl rfl rfl hl.1 rfl (Nat.le_of_ble_eq_true rfl) dX9_follow_17) hS (fun H locs hP hS => ?_)
  refine lv_iconst (v := 0) hx hb dX9_follow_20 (by decide) ?_
  refine lv_istore_n (lv' := [(3, .int 0), (0, .ref (a 10)), (1, .int o1), (2, .int o2)]) hx hb dX9_follow_21 rfl hl (by decide) rfl (fun ls hl => ?_)
  exact hB22 N o2 0 u5 ls (lv_sub hl [1, 3, 0] rfl) hF _ _ hP hS
set_option maxHeartbeats 4000000 in
set_option maxRecDepth 100000 in
theorem kt_X10_walk {N : Nat} {l : Launch} {D : va_G} {a : Nat → Nat} {cI : Nat → ClassId} {L : Nat → Nat} (hD : ∀ σ, va_D (ax_A a) (ax_W a cI L σ)) {o1 : Int32} {u σ0 : q_St} {r0 : Int32} (hF : fX10_walk L N o1 u = some (r0, σ0)) : Met l yX10_walk (Cond.code yX10_walk cX10_walk 3 (some .int) :: q_T) ({ frames := 7, cells := 0, slots := 0, locals := 166 } : Room) (q_P D vwCl (ax_T cI) (ax_W a cI L) [.ref (a 0), .int o1] u) (q_Qi D vwCl (ax_W a cI L) (ax_A a) r0 σ0) 0 0 (ax_A a) := by
  refine Met.ofW (cc := cX10_walk) (maxL := 3) (ret := (some .int)) (by decide) rfl ?_
  intro p e s m args below meth c s₁ B hml hv
  obtain ⟨rfl, hP, hK⟩ := hv
  have hx := B.exec
  have hb := B.bytes
  have hr := B.returns
  have hts := q_ts (atoms_spec (ws := Cond.code yX10_walk cX10_walk 3 (some .int) :: q_T) B.pre)
  have hown : s.vm.findClass RX10 = some m.cls := findClass_of_methodNamed B.named
  have hlocks := B.notSynchronized
  have hS : va_S (ax_A a) s.heap s.heap [] := va_S.rf
  have hl := lv_entry ([.ref (a 0), .int o1]) (n := 3) (Nat.le_of_ble_eq_true rfl)
  rw [lg_entry_eq]
  generalize (lg_sl ([.ref (a 0), .int o1]) ++ List.replicate (3 - (lg_sl ([.ref (a 0), .int o1])).length) Slot.unset).toArray = ls at hl ⊢
  have hl : lv_has ls 3 [(0, .ref (a 0)), (1, .int o1)] := hl
  have hB43 : ∀ (x2 : Int32) (u : q_St) (ls : Array Slot), lv_has ls 3 [(0, .ref (a 0)), (2, .int x2)] → fX10_walk_b43 L N x2 u = some (r0, σ0) → ∀ (H : Heap) (locs : List Loc), va_P D vwCl (ax_W a cI L u) H → va_S (ax_A a) s.heap H locs → W p l e (headSpec (Cond.code yX10_walk cX10_walk 3 (some .int) :: q_T) ({ frames := 7, cells := 0, slots := 0, locals := 166 } : Room)).room s m ([.ref (a 0), .int o1] : List Value).toArray below meth c H locs 0 0 (MQ below (q_Qi D vwCl (ax_W a cI L) (ax_A a) r0 σ0) ([.ref (a 0), .int o1] : List Value).toArray s 0 0 (ax_A a)) (F0 m 43 ls []) := by
    intro x2 u ls hl hF _ _ hP hS
    unfold fX10_walk_b43 at hF
    refine lv_aload_n hx hb dX10_walk_43 rfl (lv_at hl 0 rfl) ?_
    refine gx_h_tape hx hb hts hown hK hP fl_X10_79 dX10_walk_44 ?_
    refine lv_iconst (v := 0) hx hb dX10_walk_47 (by decide) ?_
    refine px_tape_length hx hb hts hown hK hP fl_X10_116 hD hS hF dX10_walk_48 (fun u1 H locs hF hP hS => ?_)
    refine lv_iload_n hx hb dX10_walk_51 rfl (lv_at hl 1 rfl) ?_
    exact sx_reti (Wd := (ax_W a cI L)) (σ := u1) hx hb hr hF hP hS hlocks dX10_walk_52
  have hB42 : ∀ (y0 : Int32) (u : q_St) (ls : Array Slot), lv_has ls 3 [(0, .ref (a 0))] → fX10_walk_b42 L N y0 u = some (r0, σ0) → ∀ (H : Heap) (locs : List Loc), va_P D vwCl (ax_W a cI L u) H → va_S (ax_A a) s.heap H locs → W p l e (headSpec (Cond.code yX10_walk cX10_walk 3 (some .int) :: q_T) ({ frames := 7, cells := 0, slots := 0, locals := 166 } : Room)).room s m ([.ref (a 0), .int o1] : List Value).toArray below meth c H locs 0 0 (MQ below (q_Qi D vwCl (ax_W a cI L) (ax_A a) r0 σ0) ([.ref (a 0), .int o1] : List Value).toArray s 0 0 (ax_A a)) (F0 m 42 ls [.int y0]) := by
    intro y0 u ls hl hF _ _ hP hS
    unfold fX10_walk_b42 at hF
    refine lv_istore_n (lv' := [(2, .int y0), (0, .ref (a 0))]) hx hb dX10_walk_42 rfl hl (by decide) rfl (fun ls hl => ?_)
    exact hB43 y0 u ls (lv_sub hl [1, 0] rfl) hF _ _ hP hS
  unfold fX10_walk at hF
  refine lv_bipush (v := (-99)) hx hb dX10_walk_0 (by decide) ?_
  refine lv_istore_n (lv' := [(2, .int (-99)), (0, .ref (a 0)), (1, .int o1)]) hx hb dX10_walk_2 rfl hl (by decide) rfl (fun ls hl => ?_)
  refine lv_aload_n hx hb dX10_walk_3 rfl (lv_at hl 1 rfl) ?_
  refine gx_h_disk hx hb hts hown hK hP fl_X10_53 dX10_walk_4 ?_
  refine gx_disk_on hx hb hts hown hK hP fl_X10_122 dX10_walk_7 ?_
  refine sx_if_eq (tgt := 43) hx hb hF dX10_walk_10 (by decide) (fun hF => ?_) (fun hF => ?_)
  · exact hB43 (-99) u ls (lv_sub hl [1, 0] rfl) hF _ _ hP hS
  · refine lv_aload_n hx hb dX10_walk_13 rfl (lv_at hl 1 rfl) ?_
    refine gx_h_nodes hx hb hts hown hK hP fl_X10_71 dX10_walk_14 ?_
    refine lv_iload_n hx hb dX10_walk_17 rfl (lv_at hl 2 rfl) ?_
    obtain ⟨r2, u3, hc4, hF⟩ := q_bnd_some hF
    refine sx_ci (Wd := (ax_W a cI L)) (σ1 := u3) (q_runV (Wd := (ax_W a cI L)) (σ := u) (q0 := 5) (ci := 4) (T := TX4) (N := 2) (As := [.int o1]) (rest := []) hx hb hml hown hts hK hP (kt_X4_kindOf hD hc4) cw_X10_173 rfl rfl ⟨Nat.le_of_ble_eq_true rfl, Nat.le_of_ble_eq_true rfl⟩ rfl rfl rfl hl.1 rfl (Nat.le_of_ble_eq_true rfl) dX10_walk_18) hS (fun H locs hP hS => ?_)
    refine lv_iconst (v := 2) hx hb dX10_walk_21 (by decide) ?_
    refine sx_icmp_ne (tgt := 40) hx hb hF dX10_walk_22 (by decide) (fun hF => ?_) (fun hF => ?_)
    · refine lv_bipush (v := (-10)) hx hb dX10_walk_40 (by decide) ?_
      exact hB42 (-10) u3 ls (lv_sub hl [1] rfl) hF _ _ hP hS
    · refine lv_aload_n hx hb dX10_walk_25 rfl (lv_at hl 1 rfl) ?_
      refine gx_h_walker hx hb hts hown hK hP fl_X10_100 dX10_walk_26 ?_
      refine lv_iload_n hx hb dX10_walk_29 rfl (lv_at hl 2 rfl) ?_
      refine lv_aload_n hx hb dX10_walk_30 rfl (lv_at hl 1 rfl) ?_
      refine gx_h_who hx hb hts hown hK hP fl_X10_113 dX10_walk_31 ?_
      obtain ⟨r5, u6, hc7, hF⟩ := q_bnd_some hF
      refine sx_ci (Wd := (ax_W a cI L)) (σ1 := u6) (q_runV (Wd := (ax_W a cI L)) (σ := u3) (q0 := 10) (ci := 9) (T := TX9) (N := 12) (As := [.int o1, .int (q_i u3 0)]) (rest := []) hx hb hml hown hts hK hP (kt_X9_follow hD hc7) cw_X10_210 rfl rfl ⟨Nat.le_of_ble_eq_true rfl, Nat.le_of_ble_eq_true rfl⟩ rfl rfl rfl hl.1 rfl (Nat.le_of_ble_eq_true rfl) dX10_walk_34) hS (fun H locs hP hS => ?_)
      refine lv_goto (tgt := 42) hx hb dX10_walk_37 (by decide) ?_
      exact hB42 r5 u6 ls (lv_sub hl [1] rfl) hF _ _ hP hS
set_option maxHeartbeats 4000000 in
set_option maxRecDepth 100000 in
theorem kt_X10_refusalToList {N : Nat} {l : Launch} {D : va_G} {a : Nat → Nat} {cI : Nat → ClassId} {L : Nat → Nat} (hD : ∀ σ, va_D (ax_A a) (ax_W a cI L σ)) {o1 : Int32} {u σ0 : q_St} {r0 : Int32} (hF : fX10_refusalToList L N o1 u = some (r0, σ0)) : Met l yX10_refusalToList (Cond.code yX10_refusalToList cX10_refusalToList 2 (some .int) :: q_T) ({ frames := 4, cells := 0, slots := 0, locals := 89 } : Room) (q_P D vwCl (ax_T cI) (ax_W a cI L) [.ref (a 0), .int o1] u) (q_Qi D vwCl (ax_W a cI L) (ax_A a) r0 σ0) 0 0 (ax_A a) := by
  refine Met.ofW (cc := cX10_refusalToList) (maxL := 2) (ret := (some .int)) (by decide) rfl ?_
  intro p e s m args below meth c s₁ B hml hv
  obtain ⟨rfl, hP, hK⟩ := hv
  have hx := B.exec
  have hb := B.bytes
  have hr := B.returns
  have hts := q_ts (atoms_spec (ws := Cond.code yX10_refusalToList cX10_refusalToList 2 (some .int) :: q_T) B.pre)
  have hown : s.vm.findClass RX10 = some m.cls := findClass_of_methodNamed B.named
  have hlocks := B.notSynchronized
  have hS : va_S (ax_A a) s.heap s.heap [] := va_S.rf
  have hl := lv_entry ([.ref (a 0), .int o1]) (n := 2) (Nat.le_of_ble_eq_true rfl)
  rw [lg_entry_eq]
  generalize (lg_sl ([.ref (a 0), .int o1]) ++ List.replicate (2 - (lg_sl ([.ref (a 0), .int o1])).length) Slot.unset).toArray = ls at hl ⊢
  have hl : lv_has ls 2 [(0, .ref (a 0)), (1, .int o1)] := hl
  unfold fX10_refusalToList at hF
  refine lv_aload_n hx hb dX10_refusalToList_0 rfl (lv_at hl 0 rfl) ?_
  refine gx_h_disk hx hb hts hown hK hP fl_X10_53 dX10_refusalToList_1 ?_
  refine gx_disk_on hx hb hts hown hK hP fl_X10_122 dX10_refusalToList_4 ?_
  refine sx_if_ne (tgt := 13) hx hb hF dX10_refusalToList_7 (by decide) (fun hF => ?_) (fun hF => ?_)
  · refine lv_aload_n hx hb dX10_refusalToList_13 rfl (lv_at hl 0 rfl) ?_
    refine gx_h_nodes hx hb hts hown hK hP fl_X10_71 dX10_refusalToList_14 ?_
    refine lv_iload_n hx hb dX10_refusalToList_17 rfl (lv_at hl 1 rfl) ?_
    obtain ⟨r1, u2, hc3, hF⟩ := q_bnd_some hF
    refine sx_ci (Wd := (ax_W a cI L)) (σ1 := u2) (q_runV (Wd := (ax_W a cI L)) (σ := u) (q0 := 5) (ci := 4) (T := TX4) (N := 2) (As := [.int o1]) (rest := []) hx hb hml hown hts hK hP (kt_X4_kindOf hD hc3) cw_X10_173 rfl rfl ⟨Nat.le_of_ble_eq_true rfl, Nat.le_of_ble_eq_true rfl⟩ rfl rfl rfl hl.1 rfl (Nat.le_of_ble_eq_true rfl) dX10_refusalToList_18) hS (fun H locs hP hS => ?_)
    refine lv_iconst (v := 2) hx hb dX10_refusalToList_21 (by decide) ?_
    refine sx_icmp_eq (tgt := 28) hx hb hF dX10_refusalToList_22 (by decide) (fun hF => ?_) (fun hF => ?_)
    · refine lv_aload_n hx hb dX10_refusalToList_28 rfl (lv_at hl 0 rfl) ?_
      refine gx_h_nodes hx hb hts hown hK hP fl_X10_71 dX10_refusalToList_29 ?_
      refine lv_iload_n hx hb dX10_refusalToList_32 rfl (lv_at hl 1 rfl) ?_
      refine lv_iconst (v := 4) hx hb dX10_refusalToList_33 (by decide) ?_
      refine lv_aload_n hx hb dX10_refusalToList_34 rfl (lv_at hl 0 rfl) ?_
      refine gx_h_who hx hb hts hown hK hP fl_X10_113 dX10_refusalToList_35 ?_
      obtain ⟨r4, u5, hc6, hF⟩ := q_bnd_some hF
      refine sx_ci (Wd := (ax_W a cI L)) (σ1 := u5) (q_runV (Wd := (ax_W a cI L)) (σ := u2) (q0 := 5) (ci := 4) (T := TX4) (N := 2) (As := [.int o1, .int 4, .int (q_i u2 0)]) (rest := []) hx hb hml hown hts hK hP (kt_X4_may hD hc6) cw_X10_176 rfl rfl ⟨Nat.le_of_ble_eq_true rfl, Nat.le_of_ble_eq_true rfl⟩ rfl rfl rfl hl.1 rfl (Nat.le_of_ble_eq_true rfl) dX10_refusalToList_38) hS (fun H locs hP hS => ?_)
      refine sx_if_eq (tgt := 48) hx hb hF dX10_refusalToList_41 (by decide) (fun hF => ?_) (fun hF => ?_)
      · refine lv_bipush (v := (-20)) hx hb dX10_refusalToList_48 (by decide) ?_
        exact sx_reti (Wd := (ax_W a cI L)) (σ := u5) hx hb hr hF hP hS hlocks dX10_refusalToList_50
      · refine lv_iconst (v := 0) hx hb dX10_refusalToList_44 (by decide) ?_
        refine lv_goto (tgt := 50) hx hb dX10_refusalToList_45 (by decide) ?_
        exact sx_reti (Wd := (ax_W a cI L)) (σ := u5) hx hb hr hF hP hS hlocks dX10_refusalToList_50
    · refine lv_bipush (v := (-10)) hx hb dX10_refusalToList_25 (by decide) ?_
      exact sx_reti (Wd := (ax_W a cI L)) (σ := u2) hx hb hr hF hP hS hlocks dX10_refusalToList_27
  · refine lv_bipush (v := (-99)) hx hb dX10_refusalToList_10 (by decide) ?_
    exact sx_reti (Wd := (ax_W a cI L)) (σ := u) hx hb hr hF hP hS hlocks dX10_refusalToList_12
set_option maxHeartbeats 4000000 in
set_option maxRecDepth 100000 in
theorem kt_X3_orderKey {N : Nat} {l : Launch} {D : va_G} {a : Nat → Nat} {cI : Nat → ClassId} {L : Nat → Nat} (hD : ∀ σ, va_D (ax_A a) (ax_W a cI L σ)) {o0 : Int64} {u σ0 : q_St} {r0 : Int64} (hF : fX3_orderKey L N o0 u = some (r0, σ0)) : Met l yX3_orderKey (Cond.code yX3_orderKey cX3_orderKey 5 (some .long) :: q_T) ({ frames := 0, cells := 0, slots := 0, locals := 0 } : Room) (q_P D vwCl (ax_T cI) (ax_W a cI L) [.long o0] u) (q_Ql D vwCl (ax_W a cI L) (ax_A a) r0 σ0) 0 0 (ax_A a) := by
  refine Met.ofW (cc := cX3_orderKey) (maxL := 5) (ret := (some .long)) (by decide) rfl ?_
  intro p e s m args below meth c s₁ B hml hv
  obtain ⟨rfl, hP, hK⟩ := hv
  have hx := B.exec
  have hb := B.bytes
  have hr := B.returns
  have hts := q_ts (atoms_spec (ws := Cond.code yX3_orderKey cX3_orderKey 5 (some .long) :: q_T) B.pre)
  have hown : s.vm.findClass RX3 = some m.cls := findClass_of_methodNamed B.named
  have hlocks := B.notSynchronized
  have hS : va_S (ax_A a) s.heap s.heap [] := va_S.rf
  have hl := lv_entry ([.long o0]) (n := 5) (Nat.le_of_ble_eq_true rfl)
  rw [lg_entry_eq]
  generalize (lg_sl ([.long o0]) ++ List.replicate (5 - (lg_sl ([.long o0])).length) Slot.unset).toArray = ls at hl ⊢
  have hl : lv_has ls 5 [(0, .long o0)] := hl
  have hB5 : ∀ (n : Nat) (x0 : Int64) (x2 : Int64) (x4 : Int32) (u : q_St) (ls : Array Slot), lv_has ls 5 [(0, .long x0), (2, .long x2), (4, .int x4)] → q_lp (fX3_orderKey_b5 L N) (fun _ _ _ _ => none) n x0 x2 x4 u = some (r0, σ0) → ∀ (H : Heap) (locs : List Loc), va_P D vwCl (ax_W a cI L u) H → va_S (ax_A a) s.heap H locs → W p l e (headSpec (Cond.code yX3_orderKey cX3_orderKey 5 (some .long) :: q_T) ({ frames := 0, cells := 0, slots := 0, locals := 0 } : Room)).room s m ([.long o0] : List Value).toArray below meth c H locs 0 0 (MQ below (q_Ql D vwCl (ax_W a cI L) (ax_A a) r0 σ0) ([.long o0] : List Value).toArray s 0 0 (ax_A a)) (F0 m 5 ls []) := by
    intro n
    induction n with
    | zero => intro x0 x2 x4 u ls hl hF; exact absurd (show (none : Option (Int64 × q_St)) = some _ from hF) (fun h => nomatch h)
    | succ n hi5 =>
      intro x0 x2 x4 u ls hl hF _ _ hP hS
      obtain ⟨ih5, hih⟩ : ∃ q, q = q_lp (fX3_orderKey_b5 L N) (fun _ _ _ _ => none) n := ⟨_, rfl⟩
      rw [← hih] at hi5
      have hF : fX3_orderKey_b5 L N (q_lp (fX3_orderKey_b5 L N) (fun _ _ _ _ => none) n) x0 x2 x4 u = some (r0, σ0) := hF
      rw [← hih] at hF
      clear hih
      unfold fX3_orderKey_b5 at hF
      refine lv_iload hx hb dX3_orderKey_5 (lv_at hl 2 rfl) ?_
      refine lv_bipush (v := 8) hx hb dX3_orderKey_7 (by decide) ?_
      refine sx_icmp_ge (tgt := 35) hx hb hF dX3_orderKey_9 (by decide) (fun hF => ?_) (fun hF => ?_)
      · refine lv_lload_n hx hb dX3_orderKey_35 rfl (lv_at hl 1 rfl) ?_
        exact sx_retl (Wd := (ax_W a cI L)) (σ := u) hx hb hr hF hP hS hlocks dX3_orderKey_36
      · refine lv_lload_n hx hb dX3_orderKey_12 rfl (lv_at hl 1 rfl) ?_
        refine lv_bipush (v := 8) hx hb dX3_orderKey_13 (by decide) ?_
        refine lv_lshl (v := q_lshl x2 8) hx hb dX3_orderKey_15 rfl ?_
        refine lv_lload_n hx hb dX3_orderKey_16 rfl (lv_at hl 0 rfl) ?_
        refine lv_bipush (v := 8) hx hb dX3_orderKey_17 (by decide) ?_
        refine lv_iload hx hb dX3_orderKey_19 (lv_at hl 2 rfl) ?_
        refine lv_imul hx hb dX3_orderKey_21 ?_
        refine lv_lushr (v := q_lush x0 (8 * x4)) hx hb dX3_orderKey_22 rfl ?_
        refine lv_ldc2 (v := 255) hx hb hown (hts _ kc_X3_31) dX3_orderKey_23 ?_
        refine lv_land hx hb dX3_orderKey_26 ?_
        refine lv_lor hx hb dX3_orderKey_27 ?_
        refine sx_lstore_n (lv2 := [(0, .long x0), (4, .int x4)]) hx hb hF dX3_orderKey_28 rfl hl (by decide) rfl (fun v1 hF ls hl => ?_)
        refine sx_iinc (d := 1) (k := 2) (lv2 := [(2, .long v1), (0, .long x0)]) hx hb hF dX3_orderKey_29 hl rfl (by decide) (by decide) rfl (fun v2 hF ls hl => ?_)
        refine lv_goto (tgt := 5) hx hb dX3_orderKey_32 (by decide) ?_
        exact hi5 x0 v1 v2 u ls (lv_sub hl [2, 1, 0] rfl) hF _ _ hP hS
  unfold fX3_orderKey at hF
  refine lv_lconst (v := 0) hx hb dX3_orderKey_0 (by decide) ?_
  refine lv_lstore_n (lv' := [(2, .long 0), (0, .long o0)]) hx hb dX3_orderKey_1 rfl hl (by decide) rfl (fun ls hl => ?_)
  refine lv_iconst (v := 0) hx hb dX3_orderKey_2 (by decide) ?_
  refine lv_istore (lv' := [(4, .int 0), (2, .long 0), (0, .long o0)]) hx hb dX3_orderKey_3 hl (by decide) rfl (fun ls hl => ?_)
  exact hB5 N o0 0 0 u ls (lv_sub hl [2, 1, 0] rfl) hF _ _ hP hS
set_option maxHeartbeats 4000000 in
set_option maxRecDepth 100000 in
theorem kt_X3_slotInOrder {N : Nat} {l : Launch} {D : va_G} {a : Nat → Nat} {cI : Nat → ClassId} {L : Nat → Nat} (hD : ∀ σ, va_D (ax_A a) (ax_W a cI L σ)) {o1 : Int32} {o2 : Int32} {u σ0 : q_St} {r0 : Int32} (hF : fX3_slotInOrder L N o1 o2 u = some (r0, σ0)) : Met l yX3_slotInOrder (Cond.code yX3_slotInOrder cX3_slotInOrder 7 (some .int) :: q_T) ({ frames := 5, cells := 0, slots := 0, locals := 113 } : Room) (q_P D vwCl (ax_T cI) (ax_W a cI L) [.ref (a 6), .int o1, .int o2] u) (q_Qi D vwCl (ax_W a cI L) (ax_A a) r0 σ0) 0 0 (ax_A a) := by
  refine Met.ofW (cc := cX3_slotInOrder) (maxL := 7) (ret := (some .int)) (by decide) rfl ?_
  intro p e s m args below meth c s₁ B hml hv
  obtain ⟨rfl, hP, hK⟩ := hv
  have hx := B.exec
  have hb := B.bytes
  have hr := B.returns
  have hts := q_ts (atoms_spec (ws := Cond.code yX3_slotInOrder cX3_slotInOrder 7 (some .int) :: q_T) B.pre)
  have hown : s.vm.findClass RX3 = some m.cls := findClass_of_methodNamed B.named
  have hlocks := B.notSynchronized
  have hS : va_S (ax_A a) s.heap s.heap [] := va_S.rf
  have hl := lv_entry ([.ref (a 6), .int o1, .int o2]) (n := 7) (Nat.le_of_ble_eq_true rfl)
  rw [lg_entry_eq]
  generalize (lg_sl ([.ref (a 6), .int o1, .int o2]) ++ List.replicate (7 - (lg_sl ([.ref (a 6), .int o1, .int o2])).length) Slot.unset).toArray = ls at hl ⊢
  have hl : lv_has ls 7 [(0, .ref (a 6)), (1, .int o1), (2, .int o2)] := hl
  have hB111 : ∀ (ih72 : Int32 → Int32 → Int32 → q_St → Option (Int32 × q_St)) (hi72 : ∀ (x2 : Int32) (x3 : Int32) (x4 : Int32) (u : q_St) (ls : Array Slot), lv_has ls 7 [(0, .ref (a 6)), (2, .int x2), (3, .int x3), (4, .int x4)] → ih72 x2 x3 x4 u = some (r0, σ0) → ∀ (H : Heap) (locs : List Loc), va_P D vwCl (ax_W a cI L u) H → va_S (ax_A a) s.heap H locs → W p l e (headSpec (Cond.code yX3_slotInOrder cX3_slotInOrder 7 (some .int) :: q_T) ({ frames := 5, cells := 0, slots := 0, locals := 113 } : Room)).room s m ([.ref (a 6), .int o1, .int o2] : List Value).toArray below meth c H locs 0 0 (MQ below (q_Qi D vwCl (ax_W a cI L) (ax_A a) r0 σ0) ([.ref (a 6), .int o1, .int o2] : List Value).toArray s 0 0 (ax_A a)) (F0 m 72 ls [])), ∀ (ih84 : Int32 → Int32 → Int32 → Int32 → Int32 → q_St → Option (Int32 × q_St)) (hi84 : ∀ (x2 : Int32) (x3 : Int32) (x4 : Int32) (x5 : Int32) (x6 : Int32) (u : q_St) (ls : Array Slot), lv_has ls 7 [(0, .ref (a 6)), (2, .int x2), (3, .int x3), (4, .int x4), (5, .int x5), (6, .int x6)] → ih84 x2 x3 x4 x5 x6 u = some (r0, σ0) → ∀ (H : Heap) (locs : List Loc), va_P D vwCl (ax_W a cI L u) H → va_S (ax_A a) s.heap H locs → W p l e (headSpec (Cond.code yX3_slotInOrder cX3_slotInOrder 7 (some .int) :: q_T) ({ frames := 5, cells := 0, slots := 0, locals := 113 } : Room)).room s m ([.ref (a 6), .int o1, .int o2] : List Value).toArray below meth c H locs 0 0 (MQ below (q_Qi D vwCl (ax_W a cI L) (ax_A a) r0 σ0) ([.ref (a 6), .int o1, .int o2] : List Value).toArray s 0 0 (ax_A a)) (F0 m 84 ls [])), ∀ (x2 : Int32) (x3 : Int32) (x4 : Int32) (x5 : Int32) (x6 : Int32) (u : q_St) (ls : Array Slot), lv_has ls 7 [(0, .ref (a 6)), (2, .int x2), (3, .int x3), (4, .int x4), (5, .int x5), (6, .int x6)] → fX3_slotInOrder_b111 L N ih72 ih84 x2 x3 x4 x5 x6 u = some (r0, σ0) → ∀ (H : Heap) (locs : List Loc), va_P D vwCl (ax_W a cI L u) H → va_S (ax_A a) s.heap H locs → W p l e (headSpec (Cond.code yX3_slotInOrder cX3_slotInOrder 7 (some .int) :: q_T) ({ frames := 5, cells := 0, slots := 0, locals := 113 } : Room)).room s m ([.ref (a 6), .int o1, .int o2] : List Value).toArray below meth c H locs 0 0 (MQ below (q_Qi D vwCl (ax_W a cI L) (ax_A a) r0 σ0) ([.ref (a 6), .int o1, .int o2] : List Value).toArray s 0 0 (ax_A a)) (F0 m 111 ls []) := by
    intro ih72 hi72 ih84 hi84 x2 x3 x4 x5 x6 u ls hl hF _ _ hP hS
    unfold fX3_slotInOrder_b111 at hF
    refine sx_iinc (d := 1) (k := 5) (lv2 := [(0, .ref (a 6)), (2, .int x2), (3, .int x3), (4, .int x4), (5, .int x5)]) hx hb hF dX3_slotInOrder_111 hl rfl (by decide) (by decide) rfl (fun v5 hF ls hl => ?_)
    refine lv_goto (tgt := 84) hx hb dX3_slotInOrder_114 (by decide) ?_
    exact hi84 x2 x3 x4 x5 v5 u ls (lv_sub hl [1, 2, 3, 4, 5, 0] rfl) hF _ _ hP hS
  have hB84 : ∀ (ih72 : Int32 → Int32 → Int32 → q_St → Option (Int32 × q_St)) (hi72 : ∀ (x2 : Int32) (x3 : Int32) (x4 : Int32) (u : q_St) (ls : Array Slot), lv_has ls 7 [(0, .ref (a 6)), (2, .int x2), (3, .int x3), (4, .int x4)] → ih72 x2 x3 x4 u = some (r0, σ0) → ∀ (H : Heap) (locs : List Loc), va_P D vwCl (ax_W a cI L u) H → va_S (ax_A a) s.heap H locs → W p l e (headSpec (Cond.code yX3_slotInOrder cX3_slotInOrder 7 (some .int) :: q_T) ({ frames := 5, cells := 0, slots := 0, locals := 113 } : Room)).room s m ([.ref (a 6), .int o1, .int o2] : List Value).toArray below meth c H locs 0 0 (MQ below (q_Qi D vwCl (ax_W a cI L) (ax_A a) r0 σ0) ([.ref (a 6), .int o1, .int o2] : List Value).toArray s 0 0 (ax_A a)) (F0 m 72 ls [])), ∀ (n : Nat) (x2 : Int32) (x3 : Int32) (x4 : Int32) (x5 : Int32) (x6 : Int32) (u : q_St) (ls : Array Slot), lv_has ls 7 [(0, .ref (a 6)), (2, .int x2), (3, .int x3), (4, .int x4), (5, .int x5), (6, .int x6)] → q_lp (fX3_slotInOrder_b84 L N ih72) (fun _ _ _ _ _ _ => none) n x2 x3 x4 x5 x6 u = some (r0, σ0) → ∀ (H : Heap) (locs : List Loc), va_P D vwCl (ax_W a cI L u) H → va_S (ax_A a) s.heap H locs → W p l e (headSpec (Cond.code yX3_slotInOrder cX3_slotInOrder 7 (some .int) :: q_T) ({ frames := 5, cells := 0, slots := 0, locals := 113 } : Room)).room s m ([.ref (a 6), .int o1, .int o2] : List Value).toArray below meth c H locs 0 0 (MQ below (q_Qi D vwCl (ax_W a cI L) (ax_A a) r0 σ0) ([.ref (a 6), .int o1, .int o2] : List Value).toArray s 0 0 (ax_A a)) (F0 m 84 ls []) := by
    intro ih72 hi72 n
    induction n with
    | zero => intro x2 x3 x4 x5 x6 u ls hl hF; exact absurd (show (none : Option (Int32 × q_St)) = some _ from hF) (fun h => nomatch h)
    | succ n hi84 =>
      intro x2 x3 x4 x5 x6 u ls hl hF _ _ hP hS
      obtain ⟨ih84, hih⟩ : ∃ q, q = q_lp (fX3_slotInOrder_b84 L N ih72) (fun _ _ _ _ _ _ => none) n := ⟨_, rfl⟩
      rw [← hih] at hi84
      have hF : fX3_slotInOrder_b84 L N ih72 (q_lp (fX3_slotInOrder_b84 L N ih72) (fun _ _ _ _ _ _ => none) n) x2 x3 x4 x5 x6 u = some (r0, σ0) := hF
      rw [← hih] at hF
      clear hih
      unfold fX3_slotInOrder_b84 at hF
      refine lv_iload hx hb dX3_slotInOrder_84 (lv_at hl 5 rfl) ?_
      refine lv_iload_n hx hb dX3_slotInOrder_86 rfl (lv_at hl 2 rfl) ?_
      refine sx_icmp_ge (tgt := 117) hx hb hF dX3_slotInOrder_87 (by decide) (fun hF => ?_) (fun hF => ?_)
      · refine lv_iload hx hb dX3_slotInOrder_117 (lv_at hl 4 rfl) ?_
        refine lv_iload_n hx hb dX3_slotInOrder_119 rfl (lv_at hl 1 rfl) ?_
        refine sx_icmp_ne (tgt := 131) hx hb hF dX3_slotInOrder_120 (by decide) (fun hF => ?_) (fun hF => ?_)
        · refine sx_iinc (d := 1) (k := 3) (lv2 := [(0, .ref (a 6)), (2, .int x2), (3, .int x3), (5, .int x5), (6, .int x6)]) hx hb hF dX3_slotInOrder_131 hl rfl (by decide) (by decide) rfl (fun v1 hF ls hl => ?_)
          refine lv_goto (tgt := 72) hx hb dX3_slotInOrder_134 (by decide) ?_
          exact hi72 x2 x3 v1 u ls (lv_sub hl [1, 2, 3, 0] rfl) hF _ _ hP hS
        · refine lv_aload_n hx hb dX3_slotInOrder_123 rfl (lv_at hl 0 rfl) ?_
          refine gx_folders_slots hx hb hts hown hK hP fl_X3_27 dX3_slotInOrder_124 ?_
          refine lv_iload hx hb dX3_slotInOrder_127 (lv_at hl 3 rfl) ?_
          refine lx_folders_slots hx hb hK hP hF dX3_slotInOrder_129 (fun v2 hF => ?_)
          exact sx_reti (Wd := (ax_W a cI L)) (σ := u) hx hb hr hF hP hS hlocks dX3_slotInOrder_130
      · refine lv_aload_n hx hb dX3_slotInOrder_90 rfl (lv_at hl 0 rfl) ?_
        refine gx_folders_keys hx hb hts hown hK hP fl_X3_23 dX3_slotInOrder_91 ?_
        refine lv_iload hx hb dX3_slotInOrder_94 (lv_at hl 5 rfl) ?_
        refine lx_folders_keys hx hb hK hP hF dX3_slotInOrder_96 (fun v3 hF => ?_)
        refine lv_aload_n hx hb dX3_slotInOrder_97 rfl (lv_at hl 0 rfl) ?_
        refine gx_folders_keys hx hb hts hown hK hP fl_X3_23 dX3_slotInOrder_98 ?_
        refine lv_iload hx hb dX3_slotInOrder_101 (lv_at hl 3 rfl) ?_
        refine lx_folders_keys hx hb hK hP hF dX3_slotInOrder_103 (fun v4 hF => ?_)
        refine W.lcmp hx hb dX3_slotInOrder_104 ?_
        refine sx_if_ge (tgt := 111) hx hb hF dX3_slotInOrder_105 (by decide) (fun hF => ?_) (fun hF => ?_)
        · exact hB111 ih72 hi72 ih84 hi84 x2 x3 x4 x5 x6 u ls (lv_sub hl [0, 1, 2, 3, 4, 5] rfl) hF _ _ hP hS
        · refine sx_iinc (d := 1) (k := 4) (lv2 := [(0, .ref (a 6)), (2, .int x2), (3, .int x3), (4, .int x4), (6, .int x6)]) hx hb hF dX3_slotInOrder_108 hl rfl (by decide) (by decide) rfl (fun v6 hF ls hl => ?_)
          exact hB111 ih72 hi72 ih84 hi84 x2 x3 x4 v6 x6 u ls (lv_sub hl [1, 2, 3, 4, 0, 5] rfl) hF _ _ hP hS
  have hB72 : ∀ (n : Nat) (x2 : Int32) (x3 : Int32) (x4 : Int32) (u : q_St) (ls : Array Slot), lv_has ls 7 [(0, .ref (a 6)), (2, .int x2), (3, .int x3), (4, .int x4)] → q_lp (fX3_slotInOrder_b72 L N) (fun _ _ _ _ => none) n x2 x3 x4 u = some (r0, σ0) → ∀ (H : Heap) (locs : List Loc), va_P D vwCl (ax_W a cI L u) H → va_S (ax_A a) s.heap H locs → W p l e (headSpec (Cond.code yX3_slotInOrder cX3_slotInOrder 7 (some .int) :: q_T) ({ frames := 5, cells := 0, slots := 0, locals := 113 } : Room)).room s m ([.ref (a 6), .int o1, .int o2] : List Value).toArray below meth c H locs 0 0 (MQ below (q_Qi D vwCl (ax_W a cI L) (ax_A a) r0 σ0) ([.ref (a 6), .int o1, .int o2] : List Value).toArray s 0 0 (ax_A a)) (F0 m 72 ls []) := by
    intro n
    induction n with
    | zero => intro x2 x3 x4 u ls hl hF; exact absurd (show (none : Option (Int32 × q_St)) = some _ from hF) (fun h => nomatch h)
    | succ n hi72 =>
      intro x2 x3 x4 u ls hl hF _ _ hP hS
      obtain ⟨ih72, hih⟩ : ∃ q, q = q_lp (fX3_slotInOrder_b72 L N) (fun _ _ _ _ => none) n := ⟨_, rfl⟩
      rw [← hih] at hi72
      have hF : fX3_slotInOrder_b72 L N (q_lp (fX3_slotInOrder_b72 L N) (fun _ _ _ _ => none) n) x2 x3 x4 u = some (r0, σ0) := hF
      rw [← hih] at hF
      clear hih
      unfold fX3_slotInOrder_b72 at hF
      refine lv_iload hx hb dX3_slotInOrder_72 (lv_at hl 3 rfl) ?_
      refine lv_iload_n hx hb dX3_slotInOrder_74 rfl (lv_at hl 2 rfl) ?_
      refine sx_icmp_ge (tgt := 137) hx hb hF dX3_slotInOrder_75 (by decide) (fun hF => ?_) (fun hF => ?_)
      · refine lv_iconst (v := (-1)) hx hb dX3_slotInOrder_137 (by decide) ?_
        exact sx_reti (Wd := (ax_W a cI L)) (σ := u) hx hb hr hF hP hS hlocks dX3_slotInOrder_138
      · refine lv_iconst (v := 0) hx hb dX3_slotInOrder_78 (by decide) ?_
        refine lv_istore (lv' := [(5, .int 0), (0, .ref (a 6)), (2, .int x2), (3, .int x3), (4, .int x4)]) hx hb dX3_slotInOrder_79 hl (by decide) rfl (fun ls hl => ?_)
        refine lv_iconst (v := 0) hx hb dX3_slotInOrder_81 (by decide) ?_
        refine lv_istore (lv' := [(6, .int 0), (5, .int 0), (0, .ref (a 6)), (2, .int x2), (3, .int x3), (4, .int x4)]) hx hb dX3_slotInOrder_82 hl (by decide) rfl (fun ls hl => ?_)
        exact hB84 ih72 hi72 N x2 x3 x4 0 0 u ls (lv_sub hl [2, 3, 4, 5, 1, 0] rfl) hF _ _ hP hS
  have hB69 : ∀ (x2 : Int32) (x3 : Int32) (u : q_St) (ls : Array Slot), lv_has ls 7 [(0, .ref (a 6)), (2, .int x2), (3, .int x3)] → fX3_slotInOrder_b69 L N x2 x3 u = some (r0, σ0) → ∀ (H : Heap) (locs : List Loc), va_P D vwCl (ax_W a cI L u) H → va_S (ax_A a) s.heap H locs → W p l e (headSpec (Cond.code yX3_slotInOrder cX3_slotInOrder 7 (some .int) :: q_T) ({ frames := 5, cells := 0, slots := 0, locals := 113 } : Room)).room s m ([.ref (a 6), .int o1, .int o2] : List Value).toArray below meth c H locs 0 0 (MQ below (q_Qi D vwCl (ax_W a cI L) (ax_A a) r0 σ0) ([.ref (a 6), .int o1, .int o2] : List Value).toArray s 0 0 (ax_A a)) (F0 m 69 ls []) := by
    intro x2 x3 u ls hl hF _ _ hP hS
    unfold fX3_slotInOrder_b69 at hF
    refine lv_iconst (v := 0) hx hb dX3_slotInOrder_69 (by decide) ?_
    refine lv_istore (lv' := [(4, .int 0), (0, .ref (a 6)), (2, .int x2), (3, .int x3)]) hx hb dX3_slotInOrder_70 hl (by decide) rfl (fun ls hl => ?_)
    exact hB72 N x2 x3 0 u ls (lv_sub hl [1, 2, 3, 0] rfl) hF _ _ hP hS
  have hB63 : ∀ (ih5 : Int32 → Int32 → Int32 → Int32 → q_St → Option (Int32 × q_St)) (hi5 : ∀ (x1 : Int32) (x2 : Int32) (x3 : Int32) (x4 : Int32) (u : q_St) (ls : Array Slot), lv_has ls 7 [(0, .ref (a 6)), (1, .int x1), (2, .int x2), (3, .int x3), (4, .int x4)] → ih5 x1 x2 x3 x4 u = some (r0, σ0) → ∀ (H : Heap) (locs : List Loc), va_P D vwCl (ax_W a cI L u) H → va_S (ax_A a) s.heap H locs → W p l e (headSpec (Cond.code yX3_slotInOrder cX3_slotInOrder 7 (some .int) :: q_T) ({ frames := 5, cells := 0, slots := 0, locals := 113 } : Room)).room s m ([.ref (a 6), .int o1, .int o2] : List Value).toArray below meth c H locs 0 0 (MQ below (q_Qi D vwCl (ax_W a cI L) (ax_A a) r0 σ0) ([.ref (a 6), .int o1, .int o2] : List Value).toArray s 0 0 (ax_A a)) (F0 m 5 ls [])), ∀ (x1 : Int32) (x2 : Int32) (x3 : Int32) (x4 : Int32) (u : q_St) (ls : Array Slot), lv_has ls 7 [(0, .ref (a 6)), (1, .int x1), (2, .int x2), (3, .int x3), (4, .int x4)] → fX3_slotInOrder_b63 L N ih5 x1 x2 x3 x4 u = some (r0, σ0) → ∀ (H : Heap) (locs : List Loc), va_P D vwCl (ax_W a cI L u) H → va_S (ax_A a) s.heap H locs → W p l e (headSpec (Cond.code yX3_slotInOrder cX3_slotInOrder 7 (some .int) :: q_T) ({ frames := 5, cells := 0, slots := 0, locals := 113 } : Room)).room s m ([.ref (a 6), .int o1, .int o2] : List Value).toArray below meth c H locs 0 0 (MQ below (q_Qi D vwCl (ax_W a cI L) (ax_A a) r0 σ0) ([.ref (a 6), .int o1, .int o2] : List Value).toArray s 0 0 (ax_A a)) (F0 m 63 ls []) := by
    intro ih5 hi5 x1 x2 x3 x4 u ls hl hF _ _ hP hS
    unfold fX3_slotInOrder_b63 at hF
    refine sx_iinc (d := 1) (k := 4) (lv2 := [(0, .ref (a 6)), (1, .int x1), (2, .int x2), (3, .int x3)]) hx hb hF dX3_slotInOrder_63 hl rfl (by decide) (by decide) rfl (fun v10 hF ls hl => ?_)
    refine lv_goto (tgt := 5) hx hb dX3_slotInOrder_66 (by decide) ?_
    exact hi5 x1 x2 x3 v10 u ls (lv_sub hl [1, 2, 3, 4, 0] rfl) hF _ _ hP hS
  have hB5 : ∀ (n : Nat) (x1 : Int32) (x2 : Int32) (x3 : Int32) (x4 : Int32) (u : q_St) (ls : Array Slot), lv_has ls 7 [(0, .ref (a 6)), (1, .int x1), (2, .int x2), (3, .int x3), (4, .int x4)] → q_lp (fX3_slotInOrder_b5 L N) (fun _ _ _ _ _ => none) n x1 x2 x3 x4 u = some (r0, σ0) → ∀ (H : Heap) (locs : List Loc), va_P D vwCl (ax_W a cI L u) H → va_S (ax_A a) s.heap H locs → W p l e (headSpec (Cond.code yX3_slotInOrder cX3_slotInOrder 7 (some .int) :: q_T) ({ frames := 5, cells := 0, slots := 0, locals := 113 } : Room)).room s m ([.ref (a 6), .int o1, .int o2] : List Value).toArray below meth c H locs 0 0 (MQ below (q_Qi D vwCl (ax_W a cI L) (ax_A a) r0 σ0) ([.ref (a 6), .int o1, .int o2] : List Value).toArray s 0 0 (ax_A a)) (F0 m 5 ls []) := by
    intro n
    induction n with
    | zero => intro x1 x2 x3 x4 u ls hl hF; exact absurd (show (none : Option (Int32 × q_St)) = some _ from hF) (fun h => nomatch h)
    | succ n hi5 =>
      intro x1 x2 x3 x4 u ls hl hF _ _ hP hS
      obtain ⟨ih5, hih⟩ : ∃ q, q = q_lp (fX3_slotInOrder_b5 L N) (fun _ _ _ _ _ => none) n := ⟨_, rfl⟩
      rw [← hih] at hi5
      have hF : fX3_slotInOrder_b5 L N (q_lp (fX3_slotInOrder_b5 L N) (fun _ _ _ _ _ => none) n) x1 x2 x3 x4 u = some (r0, σ0) := hF
      rw [← hih] at hF
      clear hih
      unfold fX3_slotInOrder_b5 at hF
      refine lv_iload hx hb dX3_slotInOrder_5 (lv_at hl 4 rfl) ?_
      refine lv_aload_n hx hb dX3_slotInOrder_7 rfl (lv_at hl 0 rfl) ?_
      refine gx_folders_keys hx hb hts hown hK hP fl_X3_23 dX3_slotInOrder_8 ?_
      refine nx_folders_keys hx hb hK hP dX3_slotInOrder_11 ?_
      refine sx_icmp_ge (tgt := 69) hx hb hF dX3_slotInOrder_12 (by decide) (fun hF => ?_) (fun hF => ?_)
      · exact hB69 x2 x3 u ls (lv_sub hl [0, 2, 3] rfl) hF _ _ hP hS
      · refine lv_iload hx hb dX3_slotInOrder_15 (lv_at hl 4 rfl) ?_
        refine lv_aload_n hx hb dX3_slotInOrder_17 rfl (lv_at hl 0 rfl) ?_
        refine gx_folders_slots hx hb hts hown hK hP fl_X3_27 dX3_slotInOrder_18 ?_
        refine nx_folders_slots hx hb hK hP dX3_slotInOrder_21 ?_
        refine sx_icmp_ge (tgt := 69) hx hb hF dX3_slotInOrder_22 (by decide) (fun hF => ?_) (fun hF => ?_)
        · exact hB69 x2 x3 u ls (lv_sub hl [0, 2, 3] rfl) hF _ _ hP hS
        · refine lv_aload_n hx hb dX3_slotInOrder_25 rfl (lv_at hl 0 rfl) ?_
          refine lv_iload_n hx hb dX3_slotInOrder_26 rfl (lv_at hl 1 rfl) ?_
          refine lv_iload hx hb dX3_slotInOrder_27 (lv_at hl 4 rfl) ?_
          obtain ⟨r7, u8, hc9, hF⟩ := q_bnd_some hF
          refine sx_cl (Wd := (ax_W a cI L)) (σ1 := u8) (q_runV (Wd := (ax_W a cI L)) (σ := u) (q0 := 6) (ci := 3) (T := TX3) (N := 5) (As := [.int x1, .int x4]) (rest := []) hx hb hml hown hts hK hP (kt_X3_nameAt hD hc9) cw_X3_81 rfl rfl ⟨Nat.le_of_ble_eq_true rfl, Nat.le_of_ble_eq_true rfl⟩ rfl rfl rfl hl.1 rfl (Nat.le_of_ble_eq_true rfl) dX3_slotInOrder_29) hS (fun H locs hP hS => ?_)
          refine lv_lstore (lv' := [(5, .long r7), (0, .ref (a 6)), (1, .int x1), (2, .int x2), (3, .int x3), (4, .int x4)]) hx hb dX3_slotInOrder_32 hl (by decide) rfl (fun ls hl => ?_)
          refine lv_lload hx hb dX3_slotInOrder_34 (lv_at hl 0 rfl) ?_
          refine lv_lconst (v := 0) hx hb dX3_slotInOrder_36 (by decide) ?_
          refine W.lcmp hx hb dX3_slotInOrder_37 ?_
          refine sx_if_eq (tgt := 63) hx hb hF dX3_slotInOrder_38 (by decide) (fun hF => ?_) (fun hF => ?_)
          · exact hB63 ih5 hi5 x1 x2 x3 x4 u8 ls (lv_sub hl [1, 2, 3, 4, 5] rfl) hF _ _ hP hS
          · refine lv_aload_n hx hb dX3_slotInOrder_41 rfl (lv_at hl 1 rfl) ?_
            refine gx_folders_keys hx hb hts hown hK hP fl_X3_23 dX3_slotInOrder_42 ?_
            refine lv_iload_n hx hb dX3_slotInOrder_45 rfl (lv_at hl 4 rfl) ?_
            refine lv_lload hx hb dX3_slotInOrder_46 (lv_at hl 0 rfl) ?_
            obtain ⟨r11, u12, hc13, hF⟩ := q_bnd_some hF
            refine sx_cl (Wd := (ax_W a cI L)) (σ1 := u12) (q_runS (Wd := (ax_W a cI L)) (σ := u8) (As := [.long r7]) (rest := [.int x3, .ref (a 23)]) hx hb hml hown hts hK hP (kt_X3_orderKey hD hc13) cw_X3_84 rfl rfl ⟨Nat.le_of_ble_eq_true rfl, Nat.le_of_ble_eq_true rfl⟩ rfl hl.1 rfl (Nat.le_of_ble_eq_true rfl) dX3_slotInOrder_48) hS (fun H locs hP hS => ?_)
            refine ux_folders_keys hx hb hK hP hD hS hF dX3_slotInOrder_51 (fun u14 H locs hF hP hS => ?_)
            refine lv_aload_n hx hb dX3_slotInOrder_52 rfl (lv_at hl 1 rfl) ?_
            refine gx_folders_slots hx hb hts hown hK hP fl_X3_27 dX3_slotInOrder_53 ?_
            refine lv_iload_n hx hb dX3_slotInOrder_56 rfl (lv_at hl 4 rfl) ?_
            refine lv_iload hx hb dX3_slotInOrder_57 (lv_at hl 5 rfl) ?_
            refine ux_folders_slots hx hb hK hP hD hS hF dX3_slotInOrder_59 (fun u15 H locs hF hP hS => ?_)
            refine sx_iinc (d := 1) (k := 4) (lv2 := [(5, .long r7), (0, .ref (a 6)), (1, .int x1), (2, .int x2), (4, .int x4)]) hx hb hF dX3_slotInOrder_60 hl rfl (by decide) (by decide) rfl (fun v16 hF ls hl => ?_)
            exact hB63 ih5 hi5 x1 x2 v16 x4 u15 ls (lv_sub hl [2, 3, 4, 0, 5] rfl) hF _ _ hP hS
  unfold fX3_slotInOrder at hF
  refine lv_iconst (v := 0) hx hb dX3_slotInOrder_0 (by decide) ?_
  refine lv_istore_n (lv' := [(3, .int 0), (0, .ref (a 6)), (1, .int o1), (2, .int o2)]) hx hb dX3_slotInOrder_1 rfl hl (by decide) rfl (fun ls hl => ?_)
  refine lv_iconst (v := 0) hx hb dX3_slotInOrder_2 (by decide) ?_
  refine lv_istore (lv' := [(4, .int 0), (3, .int 0), (0, .ref (a 6)), (1, .int o1), (2, .int o2)]) hx hb dX3_slotInOrder_3 hl (by decide) rfl (fun ls hl => ?_)
  exact hB5 N o1 o2 0 0 u ls (lv_sub hl [2, 3, 4, 1, 0] rfl) hF _ _ hP hS
set_option maxHeartbeats 4000000 in
set_option maxRecDepth 100000 in
theorem kt_X10_entry {N : Nat} {l : Launch} {D : va_G} {a : Nat → Nat} {cI : Nat → ClassId} {L : Nat → Nat} (hD : ∀ σ, va_D (ax_A a) (ax_W a cI L σ)) {o1 : Int32} {o2 : Int32} {u σ0 : q_St} {r0 : Int32} (hF : fX10_entry L N o1 o2 u = some (r0, σ0)) : Met l yX10_entry (Cond.code yX10_entry cX10_entry 5 (some .int) :: q_T) ({ frames := 6, cells := 0, slots := 0, locals := 139 } : Room) (q_P D vwCl (ax_T cI) (ax_W a cI L) [.ref (a 0), .int o1, .int o2] u) (q_Qi D vwCl (ax_W a cI L) (ax_A a) r0 σ0) 0 0 (ax_A a) := by
  refine Met.ofW (cc := cX10_entry) (maxL := 5) (ret := (some .int)) (by decide) rfl ?_
  intro p e s m args below meth c s₁ B hml hv
  obtain ⟨rfl, hP, hK⟩ := hv
  have hx := B.exec
  have hb := B.bytes
  have hr := B.returns
  have hts := q_ts (atoms_spec (ws := Cond.code yX10_entry cX10_entry 5 (some .int) :: q_T) B.pre)
  have hown : s.vm.findClass RX10 = some m.cls := findClass_of_methodNamed B.named
  have hlocks := B.notSynchronized
  have hS : va_S (ax_A a) s.heap s.heap [] := va_S.rf
  have hl := lv_entry ([.ref (a 0), .int o1, .int o2]) (n := 5) (Nat.le_of_ble_eq_true rfl)
  rw [lg_entry_eq]
  generalize (lg_sl ([.ref (a 0), .int o1, .int o2]) ++ List.replicate (5 - (lg_sl ([.ref (a 0), .int o1, .int o2])).length) Slot.unset).toArray = ls at hl ⊢
  have hl : lv_has ls 5 [(0, .ref (a 0)), (1, .int o1), (2, .int o2)] := hl
  unfold fX10_entry at hF
  refine lv_aload_n hx hb dX10_entry_0 rfl (lv_at hl 0 rfl) ?_
  refine lv_iload_n hx hb dX10_entry_1 rfl (lv_at hl 1 rfl) ?_
  obtain ⟨r1, u2, hc3, hF⟩ := q_bnd_some hF
  refine sx_ci (Wd := (ax_W a cI L)) (σ1 := u2) (q_runV (Wd := (ax_W a cI L)) (σ := u) (q0 := 0) (ci := 10) (T := TX10) (N := 11) (As := [.int o1]) (rest := []) hx hb hml hown hts hK hP (kt_X10_refusalToList hD hc3) cw_X10_213 rfl rfl ⟨Nat.le_of_ble_eq_true rfl, Nat.le_of_ble_eq_true rfl⟩ rfl rfl rfl hl.1 rfl (Nat.le_of_ble_eq_true rfl) dX10_entry_2) hS (fun H locs hP hS => ?_)
  refine lv_istore_n (lv' := [(3, .int r1), (0, .ref (a 0)), (1, .int o1), (2, .int o2)]) hx hb dX10_entry_5 rfl hl (by decide) rfl (fun ls hl => ?_)
  refine lv_iload_n hx hb dX10_entry_6 rfl (lv_at hl 0 rfl) ?_
  refine sx_if_eq (tgt := 12) hx hb hF dX10_entry_7 (by decide) (fun hF => ?_) (fun hF => ?_)
  · refine lv_aload_n hx hb dX10_entry_12 rfl (lv_at hl 1 rfl) ?_
    refine gx_h_folders hx hb hts hown hK hP fl_X10_75 dX10_entry_13 ?_
    refine lv_iload_n hx hb dX10_entry_16 rfl (lv_at hl 2 rfl) ?_
    refine lv_iload_n hx hb dX10_entry_17 rfl (lv_at hl 3 rfl) ?_
    obtain ⟨r4, u5, hc6, hF⟩ := q_bnd_some hF
    refine sx_ci (Wd := (ax_W a cI L)) (σ1 := u5) (q_runV (Wd := (ax_W a cI L)) (σ := u2) (q0 := 6) (ci := 3) (T := TX3) (N := 5) (As := [.int o1, .int o2]) (rest := []) hx hb hml hown hts hK hP (kt_X3_slotInOrder hD hc6) cw_X10_216 rfl rfl ⟨Nat.le_of_ble_eq_true rfl, Nat.le_of_ble_eq_true rfl⟩ rfl rfl rfl hl.1 rfl (Nat.le_of_ble_eq_true rfl) dX10_entry_18) hS (fun H locs hP hS => ?_)
    refine lv_istore (lv' := [(4, .int r4), (3, .int r1), (0, .ref (a 0)), (1, .int o1), (2, .int o2)]) hx hb dX10_entry_21 hl (by decide) rfl (fun ls hl => ?_)
    refine lv_iload hx hb dX10_entry_23 (lv_at hl 0 rfl) ?_
    refine lv_iconst (v := (-1)) hx hb dX10_entry_25 (by decide) ?_
    refine sx_icmp_ne (tgt := 33) hx hb hF dX10_entry_26 (by decide) (fun hF => ?_) (fun hF => ?_)
    · refine lv_aload_n hx hb dX10_entry_33 rfl (lv_at hl 2 rfl) ?_
      refine gx_h_folders hx hb hts hown hK hP fl_X10_75 dX10_entry_34 ?_
      refine lv_iload_n hx hb dX10_entry_37 rfl (lv_at hl 3 rfl) ?_
      refine lv_iload hx hb dX10_entry_38 (lv_at hl 0 rfl) ?_
      obtain ⟨r7, u8, hc9, hF⟩ := q_bnd_some hF
      refine sx_ci (Wd := (ax_W a cI L)) (σ1 := u8) (q_runV (Wd := (ax_W a cI L)) (σ := u5) (q0 := 6) (ci := 3) (T := TX3) (N := 5) (As := [.int o1, .int r4]) (rest := []) hx hb hml hown hts hK hP (kt_X3_nodeAt hD hc9) cw_X10_186 rfl rfl ⟨Nat.le_of_ble_eq_true rfl, Nat.le_of_ble_eq_true rfl⟩ rfl rfl rfl hl.1 rfl (Nat.le_of_ble_eq_true rfl) dX10_entry_40) hS (fun H locs hP hS => ?_)
      exact sx_reti (Wd := (ax_W a cI L)) (σ := u8) hx hb hr hF hP hS hlocks dX10_entry_43
    · refine lv_iconst (v := (-1)) hx hb dX10_entry_29 (by decide) ?_
      refine lv_goto (tgt := 43) hx hb dX10_entry_30 (by decide) ?_
      exact sx_reti (Wd := (ax_W a cI L)) (σ := u5) hx hb hr hF hP hS hlocks dX10_entry_43
  · refine lv_iload_n hx hb dX10_entry_10 rfl (lv_at hl 0 rfl) ?_
    exact sx_reti (Wd := (ax_W a cI L)) (σ := u2) hx hb hr hF hP hS hlocks dX10_entry_11
set_option maxHeartbeats 4000000 in
set_option maxRecDepth 100000 in
theorem kt_X10_name {N : Nat} {l : Launch} {D : va_G} {a : Nat → Nat} {cI : Nat → ClassId} {L : Nat → Nat} (hD : ∀ σ, va_D (ax_A a) (ax_W a cI L σ)) {o1 : Int32} {o2 : Int32} {u σ0 : q_St} {r0 : Int64} (hF : fX10_name L N o1 o2 u = some (r0, σ0)) : Met l yX10_name (Cond.code yX10_name cX10_name 5 (some .long) :: q_T) ({ frames := 6, cells := 0, slots := 0, locals := 139 } : Room) (q_P D vwCl (ax_T cI) (ax_W a cI L) [.ref (a 0), .int o1, .int o2] u) (q_Ql D vwCl (ax_W a cI L) (ax_A a) r0 σ0) 0 0 (ax_A a) := by
  refine Met.ofW (cc := cX10_name) (maxL := 5) (ret := (some .long)) (by decide) rfl ?_
  intro p e s m args below meth c s₁ B hml hv
  obtain ⟨rfl, hP, hK⟩ := hv
  have hx := B.exec
  have hb := B.bytes
  have hr := B.returns
  have hts := q_ts (atoms_spec (ws := Cond.code yX10_name cX10_name 5 (some .long) :: q_T) B.pre)
  have hown : s.vm.findClass RX10 = some m.cls := findClass_of_methodNamed B.named
  have hlocks := B.notSynchronized
  have hS : va_S (ax_A a) s.heap s.heap [] := va_S.rf
  have hl := lv_entry ([.ref (a 0), .int o1, .int o2]) (n := 5) (Nat.le_of_ble_eq_true rfl)
  rw [lg_entry_eq]
  generalize (lg_sl ([.ref (a 0), .int o1, .int o2]) ++ List.replicate (5 - (lg_sl ([.ref (a 0), .int o1, .int o2])).length) Slot.unset).toArray = ls at hl ⊢
  have hl : lv_has ls 5 [(0, .ref (a 0)), (1, .int o1), (2, .int o2)] := hl
  unfold fX10_name at hF
  refine lv_aload_n hx hb dX10_name_0 rfl (lv_at hl 0 rfl) ?_
  refine lv_iload_n hx hb dX10_name_1 rfl (lv_at hl 1 rfl) ?_
  obtain ⟨r1, u2, hc3, hF⟩ := q_bnd_some hF
  refine sx_ci (Wd := (ax_W a cI L)) (σ1 := u2) (q_runV (Wd := (ax_W a cI L)) (σ := u) (q0 := 0) (ci := 10) (T := TX10) (N := 11) (As := [.int o1]) (rest := []) hx hb hml hown hts hK hP (kt_X10_refusalToList hD hc3) cw_X10_213 rfl rfl ⟨Nat.le_of_ble_eq_true rfl, Nat.le_of_ble_eq_true rfl⟩ rfl rfl rfl hl.1 rfl (Nat.le_of_ble_eq_true rfl) dX10_name_2) hS (fun H locs hP hS => ?_)
  refine lv_istore_n (lv' := [(3, .int r1), (0, .ref (a 0)), (1, .int o1), (2, .int o2)]) hx hb dX10_name_5 rfl hl (by decide) rfl (fun ls hl => ?_)
  refine lv_iload_n hx hb dX10_name_6 rfl (lv_at hl 0 rfl) ?_
  refine sx_if_eq (tgt := 13) hx hb hF dX10_name_7 (by decide) (fun hF => ?_) (fun hF => ?_)
  · refine lv_aload_n hx hb dX10_name_13 rfl (lv_at hl 1 rfl) ?_
    refine gx_h_folders hx hb hts hown hK hP fl_X10_75 dX10_name_14 ?_
    refine lv_iload_n hx hb dX10_name_17 rfl (lv_at hl 2 rfl) ?_
    refine lv_iload_n hx hb dX10_name_18 rfl (lv_at hl 3 rfl) ?_
    obtain ⟨r4, u5, hc6, hF⟩ := q_bnd_some hF
    refine sx_ci (Wd := (ax_W a cI L)) (σ1 := u5) (q_runV (Wd := (ax_W a cI L)) (σ := u2) (q0 := 6) (ci := 3) (T := TX3) (N := 5) (As := [.int o1, .int o2]) (rest := []) hx hb hml hown hts hK hP (kt_X3_slotInOrder hD hc6) cw_X10_216 rfl rfl ⟨Nat.le_of_ble_eq_true rfl, Nat.le_of_ble_eq_true rfl⟩ rfl rfl rfl hl.1 rfl (Nat.le_of_ble_eq_true rfl) dX10_name_19) hS (fun H locs hP hS => ?_)
    refine lv_istore (lv' := [(4, .int r4), (3, .int r1), (0, .ref (a 0)), (1, .int o1), (2, .int o2)]) hx hb dX10_name_22 hl (by decide) rfl (fun ls hl => ?_)
    refine lv_iload hx hb dX10_name_24 (lv_at hl 0 rfl) ?_
    refine lv_iconst (v := (-1)) hx hb dX10_name_26 (by decide) ?_
    refine sx_icmp_ne (tgt := 36) hx hb hF dX10_name_27 (by decide) (fun hF => ?_) (fun hF => ?_)
    · refine lv_aload_n hx hb dX10_name_36 rfl (lv_at hl 2 rfl) ?_
      refine gx_h_folders hx hb hts hown hK hP fl_X10_75 dX10_name_37 ?_
      refine lv_iload_n hx hb dX10_name_40 rfl (lv_at hl 3 rfl) ?_
      refine lv_iload hx hb dX10_name_41 (lv_at hl 0 rfl) ?_
      obtain ⟨r7, u8, hc9, hF⟩ := q_bnd_some hF
      refine sx_cl (Wd := (ax_W a cI L)) (σ1 := u8) (q_runV (Wd := (ax_W a cI L)) (σ := u5) (q0 := 6) (ci := 3) (T := TX3) (N := 5) (As := [.int o1, .int r4]) (rest := []) hx hb hml hown hts hK hP (kt_X3_nameAt hD hc9) cw_X10_221 rfl rfl ⟨Nat.le_of_ble_eq_true rfl, Nat.le_of_ble_eq_true rfl⟩ rfl rfl rfl hl.1 rfl (Nat.le_of_ble_eq_true rfl) dX10_name_43) hS (fun H locs hP hS => ?_)
      exact sx_retl (Wd := (ax_W a cI L)) (σ := u8) hx hb hr hF hP hS hlocks dX10_name_46
    · refine lv_ldc2 (v := (-1)) hx hb hown (hts _ kc_X10_219) dX10_name_30 ?_
      refine lv_goto (tgt := 46) hx hb dX10_name_33 (by decide) ?_
      exact sx_retl (Wd := (ax_W a cI L)) (σ := u5) hx hb hr hF hP hS hlocks dX10_name_46
  · refine lv_iload_n hx hb dX10_name_10 rfl (lv_at hl 0 rfl) ?_
    refine lv_i2l (v := Int32.toInt64 r1) hx hb dX10_name_11 rfl ?_
    exact sx_retl (Wd := (ax_W a cI L)) (σ := u2) hx hb hr hF hP hS hlocks dX10_name_12
set_option maxHeartbeats 4000000 in
set_option maxRecDepth 100000 in
theorem kt_X10_kind {N : Nat} {l : Launch} {D : va_G} {a : Nat → Nat} {cI : Nat → ClassId} {L : Nat → Nat} (hD : ∀ σ, va_D (ax_A a) (ax_W a cI L σ)) {o1 : Int32} {u σ0 : q_St} {r0 : Int32} (hF : fX10_kind L N o1 u = some (r0, σ0)) : Met l yX10_kind (Cond.code yX10_kind cX10_kind 2 (some .int) :: q_T) ({ frames := 4, cells := 0, slots := 0, locals := 89 } : Room) (q_P D vwCl (ax_T cI) (ax_W a cI L) [.ref (a 0), .int o1] u) (q_Qi D vwCl (ax_W a cI L) (ax_A a) r0 σ0) 0 0 (ax_A a) := by
  refine Met.ofW (cc := cX10_kind) (maxL := 2) (ret := (some .int)) (by decide) rfl ?_
  intro p e s m args below meth c s₁ B hml hv
  obtain ⟨rfl, hP, hK⟩ := hv
  have hx := B.exec
  have hb := B.bytes
  have hr := B.returns
  have hts := q_ts (atoms_spec (ws := Cond.code yX10_kind cX10_kind 2 (some .int) :: q_T) B.pre)
  have hown : s.vm.findClass RX10 = some m.cls := findClass_of_methodNamed B.named
  have hlocks := B.notSynchronized
  have hS : va_S (ax_A a) s.heap s.heap [] := va_S.rf
  have hl := lv_entry ([.ref (a 0), .int o1]) (n := 2) (Nat.le_of_ble_eq_true rfl)
  rw [lg_entry_eq]
  generalize (lg_sl ([.ref (a 0), .int o1]) ++ List.replicate (2 - (lg_sl ([.ref (a 0), .int o1])).length) Slot.unset).toArray = ls at hl ⊢
  have hl : lv_has ls 2 [(0, .ref (a 0)), (1, .int o1)] := hl
  unfold fX10_kind at hF
  refine lv_aload_n hx hb dX10_kind_0 rfl (lv_at hl 0 rfl) ?_
  refine gx_h_disk hx hb hts hown hK hP fl_X10_53 dX10_kind_1 ?_
  refine gx_disk_on hx hb hts hown hK hP fl_X10_122 dX10_kind_4 ?_
  refine sx_if_ne (tgt := 13) hx hb hF dX10_kind_7 (by decide) (fun hF => ?_) (fun hF => ?_)
  · refine lv_iload_n hx hb dX10_kind_13 rfl (lv_at hl 1 rfl) ?_
    obtain ⟨r1, u2, hc3, hF⟩ := q_bnd_some hF
    refine sx_ci (Wd := (ax_W a cI L)) (σ1 := u2) (q_runS (Wd := (ax_W a cI L)) (σ := u) (As := [.int o1]) (rest := []) hx hb hml hown hts hK hP (kt_X4_isNumber hD hc3) cw_X10_225 rfl rfl ⟨Nat.le_of_ble_eq_true rfl, Nat.le_of_ble_eq_true rfl⟩ rfl hl.1 rfl (Nat.le_of_ble_eq_true rfl) dX10_kind_14) hS (fun H locs hP hS => ?_)
    refine sx_if_eq (tgt := 31) hx hb hF dX10_kind_17 (by decide) (fun hF => ?_) (fun hF => ?_)
    · refine lv_bipush (v := (-10)) hx hb dX10_kind_31 (by decide) ?_
      exact sx_reti (Wd := (ax_W a cI L)) (σ := u2) hx hb hr hF hP hS hlocks dX10_kind_33
    · refine lv_aload_n hx hb dX10_kind_20 rfl (lv_at hl 0 rfl) ?_
      refine gx_h_nodes hx hb hts hown hK hP fl_X10_71 dX10_kind_21 ?_
      refine lv_iload_n hx hb dX10_kind_24 rfl (lv_at hl 1 rfl) ?_
      obtain ⟨r4, u5, hc6, hF⟩ := q_bnd_some hF
      refine sx_ci (Wd := (ax_W a cI L)) (σ1 := u5) (q_runV (Wd := (ax_W a cI L)) (σ := u2) (q0 := 5) (ci := 4) (T := TX4) (N := 2) (As := [.int o1]) (rest := []) hx hb hml hown hts hK hP (kt_X4_kindOf hD hc6) cw_X10_173 rfl rfl ⟨Nat.le_of_ble_eq_true rfl, Nat.le_of_ble_eq_true rfl⟩ rfl rfl rfl hl.1 rfl (Nat.le_of_ble_eq_true rfl) dX10_kind_25) hS (fun H locs hP hS => ?_)
      refine lv_goto (tgt := 33) hx hb dX10_kind_28 (by decide) ?_
      exact sx_reti (Wd := (ax_W a cI L)) (σ := u5) hx hb hr hF hP hS hlocks dX10_kind_33
  · refine lv_bipush (v := (-99)) hx hb dX10_kind_10 (by decide) ?_
    exact sx_reti (Wd := (ax_W a cI L)) (σ := u) hx hb hr hF hP hS hlocks dX10_kind_12
set_option maxHeartbeats 4000000 in
set_option maxRecDepth 100000 in
theorem kt_X10_refusalOfFree {N : Nat} {l : Launch} {D : va_G} {a : Nat → Nat} {cI : Nat → ClassId} {L : Nat → Nat} (hD : ∀ σ, va_D (ax_A a) (ax_W a cI L σ)) {o1 : Int32} {u σ0 : q_St} {r0 : Int32} (hF : fX10_refusalOfFree L N o1 u = some (r0, σ0)) : Met l yX10_refusalOfFree (Cond.code yX10_refusalOfFree cX10_refusalOfFree 2 (some .int) :: q_T) ({ frames := 4, cells := 0, slots := 0, locals := 89 } : Room) (q_P D vwCl (ax_T cI) (ax_W a cI L) [.ref (a 0), .int o1] u) (q_Qi D vwCl (ax_W a cI L) (ax_A a) r0 σ0) 0 0 (ax_A a) := by
  refine Met.ofW (cc := cX10_refusalOfFree) (maxL := 2) (ret := (some .int)) (by decide) rfl ?_
  intro p e s m args below meth c s₁ B hml hv
  obtain ⟨rfl, hP, hK⟩ := hv
  have hx := B.exec
  have hb := B.bytes
  have hr := B.returns
  have hts := q_ts (atoms_spec (ws := Cond.code yX10_refusalOfFree cX10_refusalOfFree 2 (some .int) :: q_T) B.pre)
  have hown : s.vm.findClass RX10 = some m.cls := findClass_of_methodNamed B.named
  have hlocks := B.notSynchronized
  have hS : va_S (ax_A a) s.heap s.heap [] := va_S.rf
  have hl := lv_entry ([.ref (a 0), .int o1]) (n := 2) (Nat.le_of_ble_eq_true rfl)
  rw [lg_entry_eq]
  generalize (lg_sl ([.ref (a 0), .int o1]) ++ List.replicate (2 - (lg_sl ([.ref (a 0), .int o1])).length) Slot.unset).toArray = ls at hl ⊢
  have hl : lv_has ls 2 [(0, .ref (a 0)), (1, .int o1)] := hl
  unfold fX10_refusalOfFree at hF
  refine lv_aload_n hx hb dX10_refusalOfFree_0 rfl (lv_at hl 0 rfl) ?_
  refine gx_h_disk hx hb hts hown hK hP fl_X10_53 dX10_refusalOfFree_1 ?_
  refine gx_disk_on hx hb hts hown hK hP fl_X10_122 dX10_refusalOfFree_4 ?_
  refine sx_if_ne (tgt := 13) hx hb hF dX10_refusalOfFree_7 (by decide) (fun hF => ?_) (fun hF => ?_)
  · refine lv_aload_n hx hb dX10_refusalOfFree_13 rfl (lv_at hl 0 rfl) ?_
    refine gx_h_nodes hx hb hts hown hK hP fl_X10_71 dX10_refusalOfFree_14 ?_
    refine lv_iload_n hx hb dX10_refusalOfFree_17 rfl (lv_at hl 1 rfl) ?_
    obtain ⟨r1, u2, hc3, hF⟩ := q_bnd_some hF
    refine sx_ci (Wd := (ax_W a cI L)) (σ1 := u2) (q_runV (Wd := (ax_W a cI L)) (σ := u) (q0 := 5) (ci := 4) (T := TX4) (N := 2) (As := [.int o1]) (rest := []) hx hb hml hown hts hK hP (kt_X4_kindOf hD hc3) cw_X10_173 rfl rfl ⟨Nat.le_of_ble_eq_true rfl, Nat.le_of_ble_eq_true rfl⟩ rfl rfl rfl hl.1 rfl (Nat.le_of_ble_eq_true rfl) dX10_refusalOfFree_18) hS (fun H locs hP hS => ?_)
    refine sx_if_ne (tgt := 29) hx hb hF dX10_refusalOfFree_21 (by decide) (fun hF => ?_) (fun hF => ?_)
    · refine lv_iconst (v := 0) hx hb dX10_refusalOfFree_29 (by decide) ?_
      exact sx_reti (Wd := (ax_W a cI L)) (σ := u2) hx hb hr hF hP hS hlocks dX10_refusalOfFree_30
    · refine lv_bipush (v := (-10)) hx hb dX10_refusalOfFree_24 (by decide) ?_
      refine lv_goto (tgt := 30) hx hb dX10_refusalOfFree_26 (by decide) ?_
      exact sx_reti (Wd := (ax_W a cI L)) (σ := u2) hx hb hr hF hP hS hlocks dX10_refusalOfFree_30
  · refine lv_bipush (v := (-99)) hx hb dX10_refusalOfFree_10 (by decide) ?_
    exact sx_reti (Wd := (ax_W a cI L)) (σ := u) hx hb hr hF hP hS hlocks dX10_refusalOfFree_12
set_option maxHeartbeats 4000000 in
set_option maxRecDepth 100000 in
theorem kt_X10_size {N : Nat} {l : Launch} {D : va_G} {a : Nat → Nat} {cI : Nat → ClassId} {L : Nat → Nat} (hD : ∀ σ, va_D (ax_A a) (ax_W a cI L σ)) {o1 : Int32} {u σ0 : q_St} {r0 : Int32} (hF : fX10_size L N o1 u = some (r0, σ0)) : Met l yX10_size (Cond.code yX10_size cX10_size 3 (some .int) :: q_T) ({ frames := 6, cells := 0, slots := 0, locals := 136 } : Room) (q_P D vwCl (ax_T cI) (ax_W a cI L) [.ref (a 0), .int o1] u) (q_Qi D vwCl (ax_W a cI L) (ax_A a) r0 σ0) 0 0 (ax_A a) := by
  refine Met.ofW (cc := cX10_size) (maxL := 3) (ret := (some .int)) (by decide) rfl ?_
  intro p e s m args below meth c s₁ B hml hv
  obtain ⟨rfl, hP, hK⟩ := hv
  have hx := B.exec
  have hb := B.bytes
  have hr := B.returns
  have hts := q_ts (atoms_spec (ws := Cond.code yX10_size cX10_size 3 (some .int) :: q_T) B.pre)
  have hown : s.vm.findClass RX10 = some m.cls := findClass_of_methodNamed B.named
  have hlocks := B.notSynchronized
  have hS : va_S (ax_A a) s.heap s.heap [] := va_S.rf
  have hl := lv_entry ([.ref (a 0), .int o1]) (n := 3) (Nat.le_of_ble_eq_true rfl)
  rw [lg_entry_eq]
  generalize (lg_sl ([.ref (a 0), .int o1]) ++ List.replicate (3 - (lg_sl ([.ref (a 0), .int o1])).length) Slot.unset).toArray = ls at hl ⊢
  have hl : lv_has ls 3 [(0, .ref (a 0)), (1, .int o1)] := hl
  unfold fX10_size at hF
  refine lv_aload_n hx hb dX10_size_0 rfl (lv_at hl 0 rfl) ?_
  refine lv_iload_n hx hb dX10_size_1 rfl (lv_at hl 1 rfl) ?_
  obtain ⟨r1, u2, hc3, hF⟩ := q_bnd_some hF
  refine sx_ci (Wd := (ax_W a cI L)) (σ1 := u2) (q_runV (Wd := (ax_W a cI L)) (σ := u) (q0 := 0) (ci := 10) (T := TX10) (N := 11) (As := [.int o1]) (rest := []) hx hb hml hown hts hK hP (kt_X10_refusalOfFree hD hc3) cw_X10_228 rfl rfl ⟨Nat.le_of_ble_eq_true rfl, Nat.le_of_ble_eq_true rfl⟩ rfl rfl rfl hl.1 rfl (Nat.le_of_ble_eq_true rfl) dX10_size_2) hS (fun H locs hP hS => ?_)
  refine lv_istore_n (lv' := [(2, .int r1), (0, .ref (a 0)), (1, .int o1)]) hx hb dX10_size_5 rfl hl (by decide) rfl (fun ls hl => ?_)
  refine lv_iload_n hx hb dX10_size_6 rfl (lv_at hl 0 rfl) ?_
  refine sx_if_eq (tgt := 12) hx hb hF dX10_size_7 (by decide) (fun hF => ?_) (fun hF => ?_)
  · refine lv_aload_n hx hb dX10_size_12 rfl (lv_at hl 1 rfl) ?_
    refine gx_h_nodes hx hb hts hown hK hP fl_X10_71 dX10_size_13 ?_
    refine lv_iload_n hx hb dX10_size_16 rfl (lv_at hl 2 rfl) ?_
    obtain ⟨r4, u5, hc6, hF⟩ := q_bnd_some hF
    refine sx_ci (Wd := (ax_W a cI L)) (σ1 := u5) (q_runV (Wd := (ax_W a cI L)) (σ := u2) (q0 := 5) (ci := 4) (T := TX4) (N := 2) (As := [.int o1]) (rest := []) hx hb hml hown hts hK hP (kt_X4_kindOf hD hc6) cw_X10_173 rfl rfl ⟨Nat.le_of_ble_eq_true rfl, Nat.le_of_ble_eq_true rfl⟩ rfl rfl rfl hl.1 rfl (Nat.le_of_ble_eq_true rfl) dX10_size_17) hS (fun H locs hP hS => ?_)
    refine lv_iconst (v := 2) hx hb dX10_size_20 (by decide) ?_
    refine sx_icmp_ne (tgt := 35) hx hb hF dX10_size_21 (by decide) (fun hF => ?_) (fun hF => ?_)
    · refine lv_aload_n hx hb dX10_size_35 rfl (lv_at hl 1 rfl) ?_
      refine gx_h_bodies hx hb hts hown hK hP fl_X10_91 dX10_size_36 ?_
      refine lv_iload_n hx hb dX10_size_39 rfl (lv_at hl 2 rfl) ?_
      obtain ⟨r7, u8, hc9, hF⟩ := q_bnd_some hF
      refine sx_ci (Wd := (ax_W a cI L)) (σ1 := u8) (q_runV (Wd := (ax_W a cI L)) (σ := u5) (q0 := 7) (ci := 0) (T := TX0) (N := 4) (As := [.int o1]) (rest := []) hx hb hml hown hts hK hP (kt_X0_byteCount hD hc9) cw_X10_231 rfl rfl ⟨Nat.le_of_ble_eq_true rfl, Nat.le_of_ble_eq_true rfl⟩ rfl rfl rfl hl.1 rfl (Nat.le_of_ble_eq_true rfl) dX10_size_40) hS (fun H locs hP hS => ?_)
      exact sx_reti (Wd := (ax_W a cI L)) (σ := u8) hx hb hr hF hP hS hlocks dX10_size_43
    · refine lv_aload_n hx hb dX10_size_24 rfl (lv_at hl 1 rfl) ?_
      refine gx_h_folders hx hb hts hown hK hP fl_X10_75 dX10_size_25 ?_
      refine lv_iload_n hx hb dX10_size_28 rfl (lv_at hl 2 rfl) ?_
      obtain ⟨r10, u11, hc12, hF⟩ := q_bnd_some hF
      refine sx_ci (Wd := (ax_W a cI L)) (σ1 := u11) (q_runV (Wd := (ax_W a cI L)) (σ := u5) (q0 := 6) (ci := 3) (T := TX3) (N := 5) (As := [.int o1]) (rest := []) hx hb hml hown hts hK hP (kt_X3_nameCount hD hc12) cw_X10_189 rfl rfl ⟨Nat.le_of_ble_eq_true rfl, Nat.le_of_ble_eq_true rfl⟩ rfl rfl rfl hl.1 rfl (Nat.le_of_ble_eq_true rfl) dX10_size_29) hS (fun H locs hP hS => ?_)
      refine lv_goto (tgt := 43) hx hb dX10_size_32 (by decide) ?_
      exact sx_reti (Wd := (ax_W a cI L)) (σ := u11) hx hb hr hF hP hS hlocks dX10_size_43
  · refine lv_iload_n hx hb dX10_size_10 rfl (lv_at hl 0 rfl) ?_
    exact sx_reti (Wd := (ax_W a cI L)) (σ := u2) hx hb hr hF hP hS hlocks dX10_size_11
set_option maxHeartbeats 4000000 in
set_option maxRecDepth 100000 in
theorem kt_X4_modeOf {N : Nat} {l : Launch} {D : va_G} {a : Nat → Nat} {cI : Nat → ClassId} {L : Nat → Nat} (hD : ∀ σ, va_D (ax_A a) (ax_W a cI L σ)) {o1 : Int32} {u σ0 : q_St} {r0 : Int32} (hF : fX4_modeOf L N o1 u = some (r0, σ0)) : Met l yX4_modeOf (Cond.code yX4_modeOf cX4_modeOf 2 (some .int) :: q_T) ({ frames := 3, cells := 0, slots := 0, locals := 68 } : Room) (q_P D vwCl (ax_T cI) (ax_W a cI L) [.ref (a 5), .int o1] u) (q_Qi D vwCl (ax_W a cI L) (ax_A a) r0 σ0) 0 0 (ax_A a) := by
  refine Met.ofW (cc := cX4_modeOf) (maxL := 2) (ret := (some .int)) (by decide) rfl ?_
  intro p e s m args below meth c s₁ B hml hv
  obtain ⟨rfl, hP, hK⟩ := hv
  have hx := B.exec
  have hb := B.bytes
  have hr := B.returns
  have hts := q_ts (atoms_spec (ws := Cond.code yX4_modeOf cX4_modeOf 2 (some .int) :: q_T) B.pre)
  have hown : s.vm.findClass RX4 = some m.cls := findClass_of_methodNamed B.named
  have hlocks := B.notSynchronized
  have hS : va_S (ax_A a) s.heap s.heap [] := va_S.rf
  have hl := lv_entry ([.ref (a 5), .int o1]) (n := 2) (Nat.le_of_ble_eq_true rfl)
  rw [lg_entry_eq]
  generalize (lg_sl ([.ref (a 5), .int o1]) ++ List.replicate (2 - (lg_sl ([.ref (a 5), .int o1])).length) Slot.unset).toArray = ls at hl ⊢
  have hl : lv_has ls 2 [(0, .ref (a 5)), (1, .int o1)] := hl
  unfold fX4_modeOf at hF
  refine lv_aload_n hx hb dX4_modeOf_0 rfl (lv_at hl 0 rfl) ?_
  refine gx_nodes_store hx hb hts hown hK hP fl_X4_9 dX4_modeOf_1 ?_
  refine lv_aload_n hx hb dX4_modeOf_4 rfl (lv_at hl 0 rfl) ?_
  refine gx_nodes_firstNode hx hb hts hown hK hP fl_X4_15 dX4_modeOf_5 ?_
  refine lv_iload_n hx hb dX4_modeOf_8 rfl (lv_at hl 1 rfl) ?_
  refine lv_iadd hx hb dX4_modeOf_9 ?_
  refine lv_iconst (v := 2) hx hb dX4_modeOf_10 (by decide) ?_
  obtain ⟨r1, u2, hc3, hF⟩ := q_bnd_some hF
  refine sx_ci (Wd := (ax_W a cI L)) (σ1 := u2) (q_runV (Wd := (ax_W a cI L)) (σ := u) (q0 := 3) (ci := 6) (T := TX6) (N := 9) (As := [.int ((q_i u 30) + o1), .int 2]) (rest := []) hx hb hml hown hts hK hP (kt_X6_octet hD hc3) cw_X4_23 rfl rfl ⟨Nat.le_of_ble_eq_true rfl, Nat.le_of_ble_eq_true rfl⟩ rfl rfl rfl hl.1 rfl (Nat.le_of_ble_eq_true rfl) dX4_modeOf_11) hS (fun H locs hP hS => ?_)
  exact sx_reti (Wd := (ax_W a cI L)) (σ := u2) hx hb hr hF hP hS hlocks dX4_modeOf_14
set_option maxHeartbeats 4000000 in
set_option maxRecDepth 100000 in
theorem kt_X4_setMode {N : Nat} {l : Launch} {D : va_G} {a : Nat → Nat} {cI : Nat → ClassId} {L : Nat → Nat} (hD : ∀ σ, va_D (ax_A a) (ax_W a cI L σ)) {o1 : Int32} {o2 : Int32} {u σ0 : q_St} {r0 : Unit} (hF : fX4_setMode L N o1 o2 u = some (r0, σ0)) : Met l yX4_setMode (Cond.code yX4_setMode cX4_setMode 3 none :: q_T) ({ frames := 3, cells := 0, slots := 0, locals := 80 } : Room) (q_P D vwCl (ax_T cI) (ax_W a cI L) [.ref (a 5), .int o1, .int o2] u) (q_Qv D vwCl (ax_W a cI L) (ax_A a) σ0) 0 0 (ax_A a) := by
  refine Met.ofW (cc := cX4_setMode) (maxL := 3) (ret := none) (by decide) rfl ?_
  intro p e s m args below meth c s₁ B hml hv
  obtain ⟨rfl, hP, hK⟩ := hv
  have hx := B.exec
  have hb := B.bytes
  have hr := B.returns
  have hts := q_ts (atoms_spec (ws := Cond.code yX4_setMode cX4_setMode 3 none :: q_T) B.pre)
  have hown : s.vm.findClass RX4 = some m.cls := findClass_of_methodNamed B.named
  have hlocks := B.notSynchronized
  have hS : va_S (ax_A a) s.heap s.heap [] := va_S.rf
  have hl := lv_entry ([.ref (a 5), .int o1, .int o2]) (n := 3) (Nat.le_of_ble_eq_true rfl)
  rw [lg_entry_eq]
  generalize (lg_sl ([.ref (a 5), .int o1, .int o2]) ++ List.replicate (3 - (lg_sl ([.ref (a 5), .int o1, .int o2])).length) Slot.unset).toArray = ls at hl ⊢
  have hl : lv_has ls 3 [(0, .ref (a 5)), (1, .int o1), (2, .int o2)] := hl
  unfold fX4_setMode at hF
  refine lv_aload_n hx hb dX4_setMode_0 rfl (lv_at hl 0 rfl) ?_
  refine gx_nodes_store hx hb hts hown hK hP fl_X4_9 dX4_setMode_1 ?_
  refine lv_aload_n hx hb dX4_setMode_4 rfl (lv_at hl 0 rfl) ?_
  refine gx_nodes_firstNode hx hb hts hown hK hP fl_X4_15 dX4_setMode_5 ?_
  refine lv_iload_n hx hb dX4_setMode_8 rfl (lv_at hl 1 rfl) ?_
  refine lv_iadd hx hb dX4_setMode_9 ?_
  refine lv_iconst (v := 2) hx hb dX4_setMode_10 (by decide) ?_
  refine lv_iload_n hx hb dX4_setMode_11 rfl (lv_at hl 2 rfl) ?_
  obtain ⟨r1, u2, hc3, hF⟩ := q_bnd_some hF
  refine sx_cv (Wd := (ax_W a cI L)) (σ1 := u2) (q_runV (Wd := (ax_W a cI L)) (σ := u) (q0 := 3) (ci := 6) (T := TX6) (N := 9) (As := [.int ((q_i u 30) + o1), .int 2, .int o2]) (rest := []) hx hb hml hown hts hK hP (kt_X6_setOctet hD hc3) cw_X4_33 rfl rfl ⟨Nat.le_of_ble_eq_true rfl, Nat.le_of_ble_eq_true rfl⟩ rfl rfl rfl hl.1 rfl (Nat.le_of_ble_eq_true rfl) dX4_setMode_12) hS (fun H locs hP hS => ?_)
  exact sx_retv (Wd := (ax_W a cI L)) (σ := u2) hx hb hr hF hP hS hlocks dX4_setMode_15
set_option maxHeartbeats 4000000 in
set_option maxRecDepth 100000 in
theorem kt_X4_ownerOf {N : Nat} {l : Launch} {D : va_G} {a : Nat → Nat} {cI : Nat → ClassId} {L : Nat → Nat} (hD : ∀ σ, va_D (ax_A a) (ax_W a cI L σ)) {o1 : Int32} {u σ0 : q_St} {r0 : Int32} (hF : fX4_ownerOf L N o1 u = some (r0, σ0)) : Met l yX4_ownerOf (Cond.code yX4_ownerOf cX4_ownerOf 2 (some .int) :: q_T) ({ frames := 3, cells := 0, slots := 0, locals := 68 } : Room) (q_P D vwCl (ax_T cI) (ax_W a cI L) [.ref (a 5), .int o1] u) (q_Qi D vwCl (ax_W a cI L) (ax_A a) r0 σ0) 0 0 (ax_A a) := by
  refine Met.ofW (cc := cX4_ownerOf) (maxL := 2) (ret := (some .int)) (by decide) rfl ?_
  intro p e s m args below meth c s₁ B hml hv
  obtain ⟨rfl, hP, hK⟩ := hv
  have hx := B.exec
  have hb := B.bytes
  have hr := B.returns
  have hts := q_ts (atoms_spec (ws := Cond.code yX4_ownerOf cX4_ownerOf 2 (some .int) :: q_T) B.pre)
  have hown : s.vm.findClass RX4 = some m.cls := findClass_of_methodNamed B.named
  have hlocks := B.notSynchronized
  have hS : va_S (ax_A a) s.heap s.heap [] := va_S.rf
  have hl := lv_entry ([.ref (a 5), .int o1]) (n := 2) (Nat.le_of_ble_eq_true rfl)
  rw [lg_entry_eq]
  generalize (lg_sl ([.ref (a 5), .int o1]) ++ List.replicate (2 - (lg_sl ([.ref (a 5), .int o1])).length) Slot.unset).toArray = ls at hl ⊢
  have hl : lv_has ls 2 [(0, .ref (a 5)), (1, .int o1)] := hl
  unfold fX4_ownerOf at hF
  refine lv_aload_n hx hb dX4_ownerOf_0 rfl (lv_at hl 0 rfl) ?_
  refine gx_nodes_store hx hb hts hown hK hP fl_X4_9 dX4_ownerOf_1 ?_
  refine lv_aload_n hx hb dX4_ownerOf_4 rfl (lv_at hl 0 rfl) ?_
  refine gx_nodes_firstNode hx hb hts hown hK hP fl_X4_15 dX4_ownerOf_5 ?_
  refine lv_iload_n hx hb dX4_ownerOf_8 rfl (lv_at hl 1 rfl) ?_
  refine lv_iadd hx hb dX4_ownerOf_9 ?_
  refine lv_iconst (v := 1) hx hb dX4_ownerOf_10 (by decide) ?_
  obtain ⟨r1, u2, hc3, hF⟩ := q_bnd_some hF
  refine sx_ci (Wd := (ax_W a cI L)) (σ1 := u2) (q_runV (Wd := (ax_W a cI L)) (σ := u) (q0 := 3) (ci := 6) (T := TX6) (N := 9) (As := [.int ((q_i u 30) + o1), .int 1]) (rest := []) hx hb hml hown hts hK hP (kt_X6_octet hD hc3) cw_X4_23 rfl rfl ⟨Nat.le_of_ble_eq_true rfl, Nat.le_of_ble_eq_true rfl⟩ rfl rfl rfl hl.1 rfl (Nat.le_of_ble_eq_true rfl) dX4_ownerOf_11) hS (fun H locs hP hS => ?_)
  exact sx_reti (Wd := (ax_W a cI L)) (σ := u2) hx hb hr hF hP hS hlocks dX4_ownerOf_14
set_option maxHeartbeats 4000000 in
set_option maxRecDepth 100000 in
theorem kt_X10_mode {N : Nat} {l : Launch} {D : va_G} {a : Nat → Nat} {cI : Nat → ClassId} {L : Nat → Nat} (hD : ∀ σ, va_D (ax_A a) (ax_W a cI L σ)) {o1 : Int32} {o2 : Int32} {u σ0 : q_St} {r0 : Int32} (hF : fX10_mode L N o1 o2 u = some (r0, σ0)) : Met l yX10_mode (Cond.code yX10_mode cX10_mode 5 (some .int) :: q_T) ({ frames := 7, cells := 0, slots := 0, locals := 172 } : Room) (q_P D vwCl (ax_T cI) (ax_W a cI L) [.ref (a 0), .int o1, .int o2] u) (q_Qi D vwCl (ax_W a cI L) (ax_A a) r0 σ0) 0 0 (ax_A a) := by
  refine Met.ofW (cc := cX10_mode) (maxL := 5) (ret := (some .int)) (by decide) rfl ?_
  intro p e s m args below meth c s₁ B hml hv
  obtain ⟨rfl, hP, hK⟩ := hv
  have hx := B.exec
  have hb := B.bytes
  have hr := B.returns
  have hts := q_ts (atoms_spec (ws := Cond.code yX10_mode cX10_mode 5 (some .int) :: q_T) B.pre)
  have hown : s.vm.findClass RX10 = some m.cls := findClass_of_methodNamed B.named
  have hlocks := B.notSynchronized
  have hS : va_S (ax_A a) s.heap s.heap [] := va_S.rf
  have hl := lv_entry ([.ref (a 0), .int o1, .int o2]) (n := 5) (Nat.le_of_ble_eq_true rfl)
  rw [lg_entry_eq]
  generalize (lg_sl ([.ref (a 0), .int o1, .int o2]) ++ List.replicate (5 - (lg_sl ([.ref (a 0), .int o1, .int o2])).length) Slot.unset).toArray = ls at hl ⊢
  have hl : lv_has ls 5 [(0, .ref (a 0)), (1, .int o1), (2, .int o2)] := hl
  have hB77 : ∀ (x1 : Int32) (x2 : Int32) (u : q_St) (ls : Array Slot), lv_has ls 5 [(0, .ref (a 0)), (1, .int x1), (2, .int x2)] → fX10_mode_b77 L N x1 x2 u = some (r0, σ0) → ∀ (H : Heap) (locs : List Loc), va_P D vwCl (ax_W a cI L u) H → va_S (ax_A a) s.heap H locs → W p l e (headSpec (Cond.code yX10_mode cX10_mode 5 (some .int) :: q_T) ({ frames := 7, cells := 0, slots := 0, locals := 172 } : Room)).room s m ([.ref (a 0), .int o1, .int o2] : List Value).toArray below meth c H locs 0 0 (MQ below (q_Qi D vwCl (ax_W a cI L) (ax_A a) r0 σ0) ([.ref (a 0), .int o1, .int o2] : List Value).toArray s 0 0 (ax_A a)) (F0 m 77 ls []) := by
    intro x1 x2 u ls hl hF _ _ hP hS
    unfold fX10_mode_b77 at hF
    refine lv_aload_n hx hb dX10_mode_77 rfl (lv_at hl 0 rfl) ?_
    refine gx_h_nodes hx hb hts hown hK hP fl_X10_71 dX10_mode_78 ?_
    refine lv_iload_n hx hb dX10_mode_81 rfl (lv_at hl 1 rfl) ?_
    obtain ⟨r10, u11, hc12, hF⟩ := q_bnd_some hF
    refine sx_ci (Wd := (ax_W a cI L)) (σ1 := u11) (q_runV (Wd := (ax_W a cI L)) (σ := u) (q0 := 5) (ci := 4) (T := TX4) (N := 2) (As := [.int x1]) (rest := []) hx hb hml hown hts hK hP (kt_X4_modeOf hD hc12) cw_X10_237 rfl rfl ⟨Nat.le_of_ble_eq_true rfl, Nat.le_of_ble_eq_true rfl⟩ rfl rfl rfl hl.1 rfl (Nat.le_of_ble_eq_true rfl) dX10_mode_82) hS (fun H locs hP hS => ?_)
    refine lv_istore (lv' := [(4, .int r10), (0, .ref (a 0)), (1, .int x1), (2, .int x2)]) hx hb dX10_mode_85 hl (by decide) rfl (fun ls hl => ?_)
    refine lv_iload_n hx hb dX10_mode_87 rfl (lv_at hl 3 rfl) ?_
    refine lv_iload hx hb dX10_mode_88 (lv_at hl 0 rfl) ?_
    refine sx_icmp_eq (tgt := 102) hx hb hF dX10_mode_90 (by decide) (fun hF => ?_) (fun hF => ?_)
    · refine lv_iload hx hb dX10_mode_102 (lv_at hl 0 rfl) ?_
      exact sx_reti (Wd := (ax_W a cI L)) (σ := u11) hx hb hr hF hP hS hlocks dX10_mode_104
    · refine lv_aload_n hx hb dX10_mode_93 rfl (lv_at hl 1 rfl) ?_
      refine gx_h_nodes hx hb hts hown hK hP fl_X10_71 dX10_mode_94 ?_
      refine lv_iload_n hx hb dX10_mode_97 rfl (lv_at hl 2 rfl) ?_
      refine lv_iload_n hx hb dX10_mode_98 rfl (lv_at hl 3 rfl) ?_
      obtain ⟨r13, u14, hc15, hF⟩ := q_bnd_some hF
      refine sx_cv (Wd := (ax_W a cI L)) (σ1 := u14) (q_runV (Wd := (ax_W a cI L)) (σ := u11) (q0 := 5) (ci := 4) (T := TX4) (N := 2) (As := [.int x1, .int x2]) (rest := []) hx hb hml hown hts hK hP (kt_X4_setMode hD hc15) cw_X10_240 rfl rfl ⟨Nat.le_of_ble_eq_true rfl, Nat.le_of_ble_eq_true rfl⟩ rfl rfl rfl hl.1 rfl (Nat.le_of_ble_eq_true rfl) dX10_mode_99) hS (fun H locs hP hS => ?_)
      refine lv_iload hx hb dX10_mode_102 (lv_at hl 0 rfl) ?_
      exact sx_reti (Wd := (ax_W a cI L)) (σ := u14) hx hb hr hF hP hS hlocks dX10_mode_104
  unfold fX10_mode at hF
  refine lv_aload_n hx hb dX10_mode_0 rfl (lv_at hl 0 rfl) ?_
  refine gx_h_store hx hb hts hown hK hP fl_X10_63 dX10_mode_1 ?_
  refine lv_bipush (v := 40) hx hb dX10_mode_4 (by decide) ?_
  obtain ⟨r1, u2, hc3, hF⟩ := q_bnd_some hF
  refine sx_ci (Wd := (ax_W a cI L)) (σ1 := u2) (q_runV (Wd := (ax_W a cI L)) (σ := u) (q0 := 3) (ci := 6) (T := TX6) (N := 9) (As := [.int 40]) (rest := []) hx hb hml hown hts hK hP (kt_X6_commitOver hD hc3) cw_X10_126 rfl rfl ⟨Nat.le_of_ble_eq_true rfl, Nat.le_of_ble_eq_true rfl⟩ rfl rfl rfl hl.1 rfl (Nat.le_of_ble_eq_true rfl) dX10_mode_6) hS (fun H locs hP hS => ?_)
  refine sx_if_ne (tgt := 15) hx hb hF dX10_mode_9 (by decide) (fun hF => ?_) (fun hF => ?_)
  · refine lv_aload_n hx hb dX10_mode_15 rfl (lv_at hl 0 rfl) ?_
    refine lv_iload_n hx hb dX10_mode_16 rfl (lv_at hl 1 rfl) ?_
    obtain ⟨r4, u5, hc6, hF⟩ := q_bnd_some hF
    refine sx_ci (Wd := (ax_W a cI L)) (σ1 := u5) (q_runV (Wd := (ax_W a cI L)) (σ := u2) (q0 := 0) (ci := 10) (T := TX10) (N := 11) (As := [.int o1]) (rest := []) hx hb hml hown hts hK hP (kt_X10_refusalOfFree hD hc6) cw_X10_228 rfl rfl ⟨Nat.le_of_ble_eq_true rfl, Nat.le_of_ble_eq_true rfl⟩ rfl rfl rfl hl.1 rfl (Nat.le_of_ble_eq_true rfl) dX10_mode_17) hS (fun H locs hP hS => ?_)
    refine lv_istore_n (lv' := [(3, .int r4), (0, .ref (a 0)), (1, .int o1), (2, .int o2)]) hx hb dX10_mode_20 rfl hl (by decide) rfl (fun ls hl => ?_)
    refine lv_iload_n hx hb dX10_mode_21 rfl (lv_at hl 0 rfl) ?_
    refine sx_if_eq (tgt := 27) hx hb hF dX10_mode_22 (by decide) (fun hF => ?_) (fun hF => ?_)
    · refine lv_aload_n hx hb dX10_mode_27 rfl (lv_at hl 1 rfl) ?_
      refine gx_h_nodes hx hb hts hown hK hP fl_X10_71 dX10_mode_28 ?_
      refine lv_iload_n hx hb dX10_mode_31 rfl (lv_at hl 2 rfl) ?_
      obtain ⟨r7, u8, hc9, hF⟩ := q_bnd_some hF
      refine sx_ci (Wd := (ax_W a cI L)) (σ1 := u8) (q_runV (Wd := (ax_W a cI L)) (σ := u5) (q0 := 5) (ci := 4) (T := TX4) (N := 2) (As := [.int o1]) (rest := []) hx hb hml hown hts hK hP (kt_X4_kindOf hD hc9) cw_X10_173 rfl rfl ⟨Nat.le_of_ble_eq_true rfl, Nat.le_of_ble_eq_true rfl⟩ rfl rfl rfl hl.1 rfl (Nat.le_of_ble_eq_true rfl) dX10_mode_32) hS (fun H locs hP hS => ?_)
      refine lv_iconst (v := 4) hx hb dX10_mode_35 (by decide) ?_
      refine sx_icmp_eq (tgt := 49) hx hb hF dX10_mode_36 (by decide) (fun hF => ?_) (fun hF => ?_)
      · refine lv_bipush (v := (-15)) hx hb dX10_mode_49 (by decide) ?_
        exact sx_reti (Wd := (ax_W a cI L)) (σ := u8) hx hb hr hF hP hS hlocks dX10_mode_51
      · refine lv_iload_n hx hb dX10_mode_39 rfl (lv_at hl 3 rfl) ?_
        refine sx_if_lt (tgt := 49) hx hb hF dX10_mode_40 (by decide) (fun hF => ?_) (fun hF => ?_)
        · refine lv_bipush (v := (-15)) hx hb dX10_mode_49 (by decide) ?_
          exact sx_reti (Wd := (ax_W a cI L)) (σ := u8) hx hb hr hF hP hS hlocks dX10_mode_51
        · refine lv_iload_n hx hb dX10_mode_43 rfl (lv_at hl 3 rfl) ?_
          refine lv_bipush (v := 63) hx hb dX10_mode_44 (by decide) ?_
          refine sx_icmp_le (tgt := 52) hx hb hF dX10_mode_46 (by decide) (fun hF => ?_) (fun hF => ?_)
          · refine lv_aload_n hx hb dX10_mode_52 rfl (lv_at hl 1 rfl) ?_
            refine gx_h_who hx hb hts hown hK hP fl_X10_113 dX10_mode_53 ?_
            refine sx_if_eq (tgt := 77) hx hb hF dX10_mode_56 (by decide) (fun hF => ?_) (fun hF => ?_)
            · exact hB77 o1 o2 u8 ls (lv_sub hl [1, 2, 3] rfl) hF _ _ hP hS
            · refine lv_aload_n hx hb dX10_mode_59 rfl (lv_at hl 1 rfl) ?_
              refine gx_h_who hx hb hts hown hK hP fl_X10_113 dX10_mode_60 ?_
              refine lv_aload_n hx hb dX10_mode_63 rfl (lv_at hl 1 rfl) ?_
              refine gx_h_nodes hx hb hts hown hK hP fl_X10_71 dX10_mode_64 ?_
              refine lv_iload_n hx hb dX10_mode_67 rfl (lv_at hl 2 rfl) ?_
              obtain ⟨r16, u17, hc18, hF⟩ := q_bnd_some hF
              refine sx_ci (Wd := (ax_W a cI L)) (σ1 := u17) (q_runV (Wd := (ax_W a cI L)) (σ := u8) (q0 := 5) (ci := 4) (T := TX4) (N := 2) (As := [.int o1]) (rest := [.int (q_i u8 0)]) hx hb hml hown hts hK hP (kt_X4_ownerOf hD hc18) cw_X10_234 rfl rfl ⟨Nat.le_of_ble_eq_true rfl, Nat.le_of_ble_eq_true rfl⟩ rfl rfl rfl hl.1 rfl (Nat.le_of_ble_eq_true rfl) dX10_mode_68) hS (fun H locs hP hS => ?_)
              refine sx_icmp_eq (tgt := 77) hx hb hF dX10_mode_71 (by decide) (fun hF => ?_) (fun hF => ?_)
              · exact hB77 o1 o2 u17 ls (lv_sub hl [1, 2, 3] rfl) hF _ _ hP hS
              · refine lv_bipush (v := (-20)) hx hb dX10_mode_74 (by decide) ?_
                exact sx_reti (Wd := (ax_W a cI L)) (σ := u17) hx hb hr hF hP hS hlocks dX10_mode_76
          · refine lv_bipush (v := (-15)) hx hb dX10_mode_49 (by decide) ?_
            exact sx_reti (Wd := (ax_W a cI L)) (σ := u8) hx hb hr hF hP hS hlocks dX10_mode_51
    · refine lv_iload_n hx hb dX10_mode_25 rfl (lv_at hl 0 rfl) ?_
      exact sx_reti (Wd := (ax_W a cI L)) (σ := u5) hx hb hr hF hP hS hlocks dX10_mode_26
  · refine lv_bipush (v := (-99)) hx hb dX10_mode_12 (by decide) ?_
    exact sx_reti (Wd := (ax_W a cI L)) (σ := u2) hx hb hr hF hP hS hlocks dX10_mode_14
set_option maxHeartbeats 4000000 in
set_option maxRecDepth 100000 in
theorem kt_X4_setOwner {N : Nat} {l : Launch} {D : va_G} {a : Nat → Nat} {cI : Nat → ClassId} {L : Nat → Nat} (hD : ∀ σ, va_D (ax_A a) (ax_W a cI L σ)) {o1 : Int32} {o2 : Int32} {u σ0 : q_St} {r0 : Unit} (hF : fX4_setOwner L N o1 o2 u = some (r0, σ0)) : Met l yX4_setOwner (Cond.code yX4_setOwner cX4_setOwner 3 none :: q_T) ({ frames := 3, cells := 0, slots := 0, locals := 80 } : Room) (q_P D vwCl (ax_T cI) (ax_W a cI L) [.ref (a 5), .int o1, .int o2] u) (q_Qv D vwCl (ax_W a cI L) (ax_A a) σ0) 0 0 (ax_A a) := by
  refine Met.ofW (cc := cX4_setOwner) (maxL := 3) (ret := none) (by decide) rfl ?_
  intro p e s m args below meth c s₁ B hml hv
  obtain ⟨rfl, hP, hK⟩ := hv
  have hx := B.exec
  have hb := B.bytes
  have hr := B.returns
  have hts := q_ts (atoms_spec (ws := Cond.code yX4_setOwner cX4_setOwner 3 none :: q_T) B.pre)
  have hown : s.vm.findClass RX4 = some m.cls := findClass_of_methodNamed B.named
  have hlocks := B.notSynchronized
  have hS : va_S (ax_A a) s.heap s.heap [] := va_S.rf
  have hl := lv_entry ([.ref (a 5), .int o1, .int o2]) (n := 3) (Nat.le_of_ble_eq_true rfl)
  rw [lg_entry_eq]
  generalize (lg_sl ([.ref (a 5), .int o1, .int o2]) ++ List.replicate (3 - (lg_sl ([.ref (a 5), .int o1, .int o2])).length) Slot.unset).toArray = ls at hl ⊢
  have hl : lv_has ls 3 [(0, .ref (a 5)), (1, .int o1), (2, .int o2)] := hl
  unfold fX4_setOwner at hF
  refine lv_aload_n hx hb dX4_setOwner_0 rfl (lv_at hl 0 rfl) ?_
  refine gx_nodes_store hx hb hts hown hK hP fl_X4_9 dX4_setOwner_1 ?_
  refine lv_aload_n hx hb dX4_setOwner_4 rfl (lv_at hl 0 rfl) ?_
  refine gx_nodes_firstNode hx hb hts hown hK hP fl_X4_15 dX4_setOwner_5 ?_
  refine lv_iload_n hx hb dX4_setOwner_8 rfl (lv_at hl 1 rfl) ?_
  refine lv_iadd hx hb dX4_setOwner_9 ?_
  refine lv_iconst (v := 1) hx hb dX4_setOwner_10 (by decide) ?_
  refine lv_iload_n hx hb dX4_setOwner_11 rfl (lv_at hl 2 rfl) ?_
  obtain ⟨r1, u2, hc3, hF⟩ := q_bnd_some hF
  refine sx_cv (Wd := (ax_W a cI L)) (σ1 := u2) (q_runV (Wd := (ax_W a cI L)) (σ := u) (q0 := 3) (ci := 6) (T := TX6) (N := 9) (As := [.int ((q_i u 30) + o1), .int 1, .int o2]) (rest := []) hx hb hml hown hts hK hP (kt_X6_setOctet hD hc3) cw_X4_33 rfl rfl ⟨Nat.le_of_ble_eq_true rfl, Nat.le_of_ble_eq_true rfl⟩ rfl rfl rfl hl.1 rfl (Nat.le_of_ble_eq_true rfl) dX4_setOwner_12) hS (fun H locs hP hS => ?_)
  exact sx_retv (Wd := (ax_W a cI L)) (σ := u2) hx hb hr hF hP hS hlocks dX4_setOwner_15
set_option maxHeartbeats 4000000 in
set_option maxRecDepth 100000 in
theorem kt_X10_give {N : Nat} {l : Launch} {D : va_G} {a : Nat → Nat} {cI : Nat → ClassId} {L : Nat → Nat} (hD : ∀ σ, va_D (ax_A a) (ax_W a cI L σ)) {o1 : Int32} {o2 : Int32} {u σ0 : q_St} {r0 : Int32} (hF : fX10_give L N o1 o2 u = some (r0, σ0)) : Met l yX10_give (Cond.code yX10_give cX10_give 5 (some .int) :: q_T) ({ frames := 7, cells := 0, slots := 0, locals := 172 } : Room) (q_P D vwCl (ax_T cI) (ax_W a cI L) [.ref (a 0), .int o1, .int o2] u) (q_Qi D vwCl (ax_W a cI L) (ax_A a) r0 σ0) 0 0 (ax_A a) := by
  refine Met.ofW (cc := cX10_give) (maxL := 5) (ret := (some .int)) (by decide) rfl ?_
  intro p e s m args below meth c s₁ B hml hv
  obtain ⟨rfl, hP, hK⟩ := hv
  have hx := B.exec
  have hb := B.bytes
  have hr := B.returns
  have hts := q_ts (atoms_spec (ws := Cond.code yX10_give cX10_give 5 (some .int) :: q_T) B.pre)
  have hown : s.vm.findClass RX10 = some m.cls := findClass_of_methodNamed B.named
  have hlocks := B.notSynchronized
  have hS : va_S (ax_A a) s.heap s.heap [] := va_S.rf
  have hl := lv_entry ([.ref (a 0), .int o1, .int o2]) (n := 5) (Nat.le_of_ble_eq_true rfl)
  rw [lg_entry_eq]
  generalize (lg_sl ([.ref (a 0), .int o1, .int o2]) ++ List.replicate (5 - (lg_sl ([.ref (a 0), .int o1, .int o2])).length) Slot.unset).toArray = ls at hl ⊢
  have hl : lv_has ls 5 [(0, .ref (a 0)), (1, .int o1), (2, .int o2)] := hl
  unfold fX10_give at hF
  refine lv_aload_n hx hb dX10_give_0 rfl (lv_at hl 0 rfl) ?_
  refine gx_h_store hx hb hts hown hK hP fl_X10_63 dX10_give_1 ?_
  refine lv_bipush (v := 40) hx hb dX10_give_4 (by decide) ?_
  obtain ⟨r1, u2, hc3, hF⟩ := q_bnd_some hF
  refine sx_ci (Wd := (ax_W a cI L)) (σ1 := u2) (q_runV (Wd := (ax_W a cI L)) (σ := u) (q0 := 3) (ci := 6) (T := TX6) (N := 9) (As := [.int 40]) (rest := []) hx hb hml hown hts hK hP (kt_X6_commitOver hD hc3) cw_X10_126 rfl rfl ⟨Nat.le_of_ble_eq_true rfl, Nat.le_of_ble_eq_true rfl⟩ rfl rfl rfl hl.1 rfl (Nat.le_of_ble_eq_true rfl) dX10_give_6) hS (fun H locs hP hS => ?_)
  refine sx_if_ne (tgt := 15) hx hb hF dX10_give_9 (by decide) (fun hF => ?_) (fun hF => ?_)
  · refine lv_aload_n hx hb dX10_give_15 rfl (lv_at hl 0 rfl) ?_
    refine lv_iload_n hx hb dX10_give_16 rfl (lv_at hl 1 rfl) ?_
    obtain ⟨r4, u5, hc6, hF⟩ := q_bnd_some hF
    refine sx_ci (Wd := (ax_W a cI L)) (σ1 := u5) (q_runV (Wd := (ax_W a cI L)) (σ := u2) (q0 := 0) (ci := 10) (T := TX10) (N := 11) (As := [.int o1]) (rest := []) hx hb hml hown hts hK hP (kt_X10_refusalOfFree hD hc6) cw_X10_228 rfl rfl ⟨Nat.le_of_ble_eq_true rfl, Nat.le_of_ble_eq_true rfl⟩ rfl rfl rfl hl.1 rfl (Nat.le_of_ble_eq_true rfl) dX10_give_17) hS (fun H locs hP hS => ?_)
    refine lv_istore_n (lv' := [(3, .int r4), (0, .ref (a 0)), (1, .int o1), (2, .int o2)]) hx hb dX10_give_20 rfl hl (by decide) rfl (fun ls hl => ?_)
    refine lv_iload_n hx hb dX10_give_21 rfl (lv_at hl 0 rfl) ?_
    refine sx_if_eq (tgt := 27) hx hb hF dX10_give_22 (by decide) (fun hF => ?_) (fun hF => ?_)
    · refine lv_iload_n hx hb dX10_give_27 rfl (lv_at hl 3 rfl) ?_
      refine sx_if_lt (tgt := 37) hx hb hF dX10_give_28 (by decide) (fun hF => ?_) (fun hF => ?_)
      · refine lv_bipush (v := (-15)) hx hb dX10_give_37 (by decide) ?_
        exact sx_reti (Wd := (ax_W a cI L)) (σ := u5) hx hb hr hF hP hS hlocks dX10_give_39
      · refine lv_iload_n hx hb dX10_give_31 rfl (lv_at hl 3 rfl) ?_
        refine lv_bipush (v := 16) hx hb dX10_give_32 (by decide) ?_
        refine sx_icmp_lt (tgt := 40) hx hb hF dX10_give_34 (by decide) (fun hF => ?_) (fun hF => ?_)
        · refine lv_aload_n hx hb dX10_give_40 rfl (lv_at hl 1 rfl) ?_
          refine gx_h_who hx hb hts hown hK hP fl_X10_113 dX10_give_41 ?_
          refine sx_if_eq (tgt := 50) hx hb hF dX10_give_44 (by decide) (fun hF => ?_) (fun hF => ?_)
          · refine lv_aload_n hx hb dX10_give_50 rfl (lv_at hl 1 rfl) ?_
            refine gx_h_nodes hx hb hts hown hK hP fl_X10_71 dX10_give_51 ?_
            refine lv_iload_n hx hb dX10_give_54 rfl (lv_at hl 2 rfl) ?_
            obtain ⟨r7, u8, hc9, hF⟩ := q_bnd_some hF
            refine sx_ci (Wd := (ax_W a cI L)) (σ1 := u8) (q_runV (Wd := (ax_W a cI L)) (σ := u5) (q0 := 5) (ci := 4) (T := TX4) (N := 2) (As := [.int o1]) (rest := []) hx hb hml hown hts hK hP (kt_X4_ownerOf hD hc9) cw_X10_234 rfl rfl ⟨Nat.le_of_ble_eq_true rfl, Nat.le_of_ble_eq_true rfl⟩ rfl rfl rfl hl.1 rfl (Nat.le_of_ble_eq_true rfl) dX10_give_55) hS (fun H locs hP hS => ?_)
            refine lv_istore (lv' := [(4, .int r7), (3, .int r4), (0, .ref (a 0)), (1, .int o1), (2, .int o2)]) hx hb dX10_give_58 hl (by decide) rfl (fun ls hl => ?_)
            refine lv_iload_n hx hb dX10_give_60 rfl (lv_at hl 4 rfl) ?_
            refine lv_iload hx hb dX10_give_61 (lv_at hl 0 rfl) ?_
            refine sx_icmp_eq (tgt := 75) hx hb hF dX10_give_63 (by decide) (fun hF => ?_) (fun hF => ?_)
            · refine lv_iload hx hb dX10_give_75 (lv_at hl 0 rfl) ?_
              exact sx_reti (Wd := (ax_W a cI L)) (σ := u8) hx hb hr hF hP hS hlocks dX10_give_77
            · refine lv_aload_n hx hb dX10_give_66 rfl (lv_at hl 2 rfl) ?_
              refine gx_h_nodes hx hb hts hown hK hP fl_X10_71 dX10_give_67 ?_
              refine lv_iload_n hx hb dX10_give_70 rfl (lv_at hl 3 rfl) ?_
              refine lv_iload_n hx hb dX10_give_71 rfl (lv_at hl 4 rfl) ?_
              obtain ⟨r10, u11, hc12, hF⟩ := q_bnd_some hF
              refine sx_cv (Wd := (ax_W a cI L)) (σ1 := u11) (q_runV (Wd := (ax_W a cI L)) (σ := u8) (q0 := 5) (ci := 4) (T := TX4) (N := 2) (As := [.int o1, .int o2]) (rest := []) hx hb hml hown hts hK hP (kt_X4_setOwner hD hc12) cw_X10_243 rfl rfl ⟨Nat.le_of_ble_eq_true rfl, Nat.le_of_ble_eq_true rfl⟩ rfl rfl rfl hl.1 rfl (Nat.le_of_ble_eq_true rfl) dX10_give_72) hS (fun H locs hP hS => ?_)
              refine lv_iload hx hb dX10_give_75 (lv_at hl 0 rfl) ?_
              exact sx_reti (Wd := (ax_W a cI L)) (σ := u11) hx hb hr hF hP hS hlocks dX10_give_77
          · refine lv_bipush (v := (-20)) hx hb dX10_give_47 (by decide) ?_
            exact sx_reti (Wd := (ax_W a cI L)) (σ := u5) hx hb hr hF hP hS hlocks dX10_give_49
        · refine lv_bipush (v := (-15)) hx hb dX10_give_37 (by decide) ?_
          exact sx_reti (Wd := (ax_W a cI L)) (σ := u5) hx hb hr hF hP hS hlocks dX10_give_39
    · refine lv_iload_n hx hb dX10_give_25 rfl (lv_at hl 0 rfl) ?_
      exact sx_reti (Wd := (ax_W a cI L)) (σ := u5) hx hb hr hF hP hS hlocks dX10_give_26
  · refine lv_bipush (v := (-99)) hx hb dX10_give_12 (by decide) ?_
    exact sx_reti (Wd := (ax_W a cI L)) (σ := u2) hx hb hr hF hP hS hlocks dX10_give_14
set_option maxHeartbeats 4000000 in
set_option maxRecDepth 100000 in
theorem kt_X10_rights {N : Nat} {l : Launch} {D : va_G} {a : Nat → Nat} {cI : Nat → ClassId} {L : Nat → Nat} (hD : ∀ σ, va_D (ax_A a) (ax_W a cI L σ)) {o1 : Int32} {o2 : Int32} {u σ0 : q_St} {r0 : Int32} (hF : fX10_rights L N o1 o2 u = some (r0, σ0)) : Met l yX10_rights (Cond.code yX10_rights cX10_rights 4 (some .int) :: q_T) ({ frames := 5, cells := 0, slots := 0, locals := 110 } : Room) (q_P D vwCl (ax_T cI) (ax_W a cI L) [.ref (a 0), .int o1, .int o2] u) (q_Qi D vwCl (ax_W a cI L) (ax_A a) r0 σ0) 0 0 (ax_A a) := by
  refine Met.ofW (cc := cX10_rights) (maxL := 4) (ret := (some .int)) (by decide) rfl ?_
  intro p e s m args below meth c s₁ B hml hv
  obtain ⟨rfl, hP, hK⟩ := hv
  have hx := B.exec
  have hb := B.bytes
  have hr := B.returns
  have hts := q_ts (atoms_spec (ws := Cond.code yX10_rights cX10_rights 4 (some .int) :: q_T) B.pre)
  have hown : s.vm.findClass RX10 = some m.cls := findClass_of_methodNamed B.named
  have hlocks := B.notSynchronized
  have hS : va_S (ax_A a) s.heap s.heap [] := va_S.rf
  have hl := lv_entry ([.ref (a 0), .int o1, .int o2]) (n := 4) (Nat.le_of_ble_eq_true rfl)
  rw [lg_entry_eq]
  generalize (lg_sl ([.ref (a 0), .int o1, .int o2]) ++ List.replicate (4 - (lg_sl ([.ref (a 0), .int o1, .int o2])).length) Slot.unset).toArray = ls at hl ⊢
  have hl : lv_has ls 4 [(0, .ref (a 0)), (1, .int o1), (2, .int o2)] := hl
  unfold fX10_rights at hF
  refine lv_aload_n hx hb dX10_rights_0 rfl (lv_at hl 0 rfl) ?_
  refine lv_iload_n hx hb dX10_rights_1 rfl (lv_at hl 1 rfl) ?_
  obtain ⟨r1, u2, hc3, hF⟩ := q_bnd_some hF
  refine sx_ci (Wd := (ax_W a cI L)) (σ1 := u2) (q_runV (Wd := (ax_W a cI L)) (σ := u) (q0 := 0) (ci := 10) (T := TX10) (N := 11) (As := [.int o1]) (rest := []) hx hb hml hown hts hK hP (kt_X10_refusalOfFree hD hc3) cw_X10_228 rfl rfl ⟨Nat.le_of_ble_eq_true rfl, Nat.le_of_ble_eq_true rfl⟩ rfl rfl rfl hl.1 rfl (Nat.le_of_ble_eq_true rfl) dX10_rights_2) hS (fun H locs hP hS => ?_)
  refine lv_istore_n (lv' := [(3, .int r1), (0, .ref (a 0)), (1, .int o1), (2, .int o2)]) hx hb dX10_rights_5 rfl hl (by decide) rfl (fun ls hl => ?_)
  refine lv_iload_n hx hb dX10_rights_6 rfl (lv_at hl 0 rfl) ?_
  refine sx_if_eq (tgt := 12) hx hb hF dX10_rights_7 (by decide) (fun hF => ?_) (fun hF => ?_)
  · refine lv_iload_n hx hb dX10_rights_12 rfl (lv_at hl 3 rfl) ?_
    refine sx_if_ne (tgt := 25) hx hb hF dX10_rights_13 (by decide) (fun hF => ?_) (fun hF => ?_)
    · refine lv_iload_n hx hb dX10_rights_25 rfl (lv_at hl 3 rfl) ?_
      refine lv_iconst (v := 1) hx hb dX10_rights_26 (by decide) ?_
      refine sx_icmp_ne (tgt := 53) hx hb hF dX10_rights_27 (by decide) (fun hF => ?_) (fun hF => ?_)
      · refine lv_iconst (v := (-1)) hx hb dX10_rights_53 (by decide) ?_
        exact sx_reti (Wd := (ax_W a cI L)) (σ := u2) hx hb hr hF hP hS hlocks dX10_rights_54
      · refine lv_aload_n hx hb dX10_rights_30 rfl (lv_at hl 1 rfl) ?_
        refine gx_h_nodes hx hb hts hown hK hP fl_X10_71 dX10_rights_31 ?_
        refine lv_iload_n hx hb dX10_rights_34 rfl (lv_at hl 2 rfl) ?_
        obtain ⟨r4, u5, hc6, hF⟩ := q_bnd_some hF
        refine sx_ci (Wd := (ax_W a cI L)) (σ1 := u5) (q_runV (Wd := (ax_W a cI L)) (σ := u2) (q0 := 5) (ci := 4) (T := TX4) (N := 2) (As := [.int o1]) (rest := []) hx hb hml hown hts hK hP (kt_X4_kindOf hD hc6) cw_X10_173 rfl rfl ⟨Nat.le_of_ble_eq_true rfl, Nat.le_of_ble_eq_true rfl⟩ rfl rfl rfl hl.1 rfl (Nat.le_of_ble_eq_true rfl) dX10_rights_35) hS (fun H locs hP hS => ?_)
        refine lv_iconst (v := 4) hx hb dX10_rights_38 (by decide) ?_
        refine sx_icmp_eq (tgt := 53) hx hb hF dX10_rights_39 (by decide) (fun hF => ?_) (fun hF => ?_)
        · refine lv_iconst (v := (-1)) hx hb dX10_rights_53 (by decide) ?_
          exact sx_reti (Wd := (ax_W a cI L)) (σ := u5) hx hb hr hF hP hS hlocks dX10_rights_54
        · refine lv_aload_n hx hb dX10_rights_42 rfl (lv_at hl 1 rfl) ?_
          refine gx_h_nodes hx hb hts hown hK hP fl_X10_71 dX10_rights_43 ?_
          refine lv_iload_n hx hb dX10_rights_46 rfl (lv_at hl 2 rfl) ?_
          obtain ⟨r7, u8, hc9, hF⟩ := q_bnd_some hF
          refine sx_ci (Wd := (ax_W a cI L)) (σ1 := u8) (q_runV (Wd := (ax_W a cI L)) (σ := u5) (q0 := 5) (ci := 4) (T := TX4) (N := 2) (As := [.int o1]) (rest := []) hx hb hml hown hts hK hP (kt_X4_modeOf hD hc9) cw_X10_237 rfl rfl ⟨Nat.le_of_ble_eq_true rfl, Nat.le_of_ble_eq_true rfl⟩ rfl rfl rfl hl.1 rfl (Nat.le_of_ble_eq_true rfl) dX10_rights_47) hS (fun H locs hP hS => ?_)
          refine lv_goto (tgt := 54) hx hb dX10_rights_50 (by decide) ?_
          exact sx_reti (Wd := (ax_W a cI L)) (σ := u8) hx hb hr hF hP hS hlocks dX10_rights_54
    · refine lv_aload_n hx hb dX10_rights_16 rfl (lv_at hl 1 rfl) ?_
      refine gx_h_nodes hx hb hts hown hK hP fl_X10_71 dX10_rights_17 ?_
      refine lv_iload_n hx hb dX10_rights_20 rfl (lv_at hl 2 rfl) ?_
      obtain ⟨r10, u11, hc12, hF⟩ := q_bnd_some hF
      refine sx_ci (Wd := (ax_W a cI L)) (σ1 := u11) (q_runV (Wd := (ax_W a cI L)) (σ := u2) (q0 := 5) (ci := 4) (T := TX4) (N := 2) (As := [.int o1]) (rest := []) hx hb hml hown hts hK hP (kt_X4_ownerOf hD hc12) cw_X10_234 rfl rfl ⟨Nat.le_of_ble_eq_true rfl, Nat.le_of_ble_eq_true rfl⟩ rfl rfl rfl hl.1 rfl (Nat.le_of_ble_eq_true rfl) dX10_rights_21) hS (fun H locs hP hS => ?_)
      exact sx_reti (Wd := (ax_W a cI L)) (σ := u11) hx hb hr hF hP hS hlocks dX10_rights_24
  · refine lv_iload_n hx hb dX10_rights_10 rfl (lv_at hl 0 rfl) ?_
    exact sx_reti (Wd := (ax_W a cI L)) (σ := u2) hx hb hr hF hP hS hlocks dX10_rights_11
set_option maxHeartbeats 4000000 in
set_option maxRecDepth 100000 in
theorem kt_X10_links {N : Nat} {l : Launch} {D : va_G} {a : Nat → Nat} {cI : Nat → ClassId} {L : Nat → Nat} (hD : ∀ σ, va_D (ax_A a) (ax_W a cI L σ)) {o1 : Int32} {u σ0 : q_St} {r0 : Int32} (hF : fX10_links L N o1 u = some (r0, σ0)) : Met l yX10_links (Cond.code yX10_links cX10_links 2 (some .int) :: q_T) ({ frames := 5, cells := 0, slots := 0, locals := 111 } : Room) (q_P D vwCl (ax_T cI) (ax_W a cI L) [.ref (a 0), .int o1] u) (q_Qi D vwCl (ax_W a cI L) (ax_A a) r0 σ0) 0 0 (ax_A a) := by
  refine Met.ofW (cc := cX10_links) (maxL := 2) (ret := (some .int)) (by decide) rfl ?_
  intro p e s m args below meth c s₁ B hml hv
  obtain ⟨rfl, hP, hK⟩ := hv
  have hx := B.exec
  have hb := B.bytes
  have hr := B.returns
  have hts := q_ts (atoms_spec (ws := Cond.code yX10_links cX10_links 2 (some .int) :: q_T) B.pre)
  have hown : s.vm.findClass RX10 = some m.cls := findClass_of_methodNamed B.named
  have hlocks := B.notSynchronized
  have hS : va_S (ax_A a) s.heap s.heap [] := va_S.rf
  have hl := lv_entry ([.ref (a 0), .int o1]) (n := 2) (Nat.le_of_ble_eq_true rfl)
  rw [lg_entry_eq]
  generalize (lg_sl ([.ref (a 0), .int o1]) ++ List.replicate (2 - (lg_sl ([.ref (a 0), .int o1])).length) Slot.unset).toArray = ls at hl ⊢
  have hl : lv_has ls 2 [(0, .ref (a 0)), (1, .int o1)] := hl
  unfold fX10_links at hF
  refine lv_aload_n hx hb dX10_links_0 rfl (lv_at hl 0 rfl) ?_
  refine gx_h_disk hx hb hts hown hK hP fl_X10_53 dX10_links_1 ?_
  refine gx_disk_on hx hb hts hown hK hP fl_X10_122 dX10_links_4 ?_
  refine sx_if_ne (tgt := 13) hx hb hF dX10_links_7 (by decide) (fun hF => ?_) (fun hF => ?_)
  · refine lv_aload_n hx hb dX10_links_13 rfl (lv_at hl 0 rfl) ?_
    refine gx_h_nodes hx hb hts hown hK hP fl_X10_71 dX10_links_14 ?_
    refine lv_iload_n hx hb dX10_links_17 rfl (lv_at hl 1 rfl) ?_
    obtain ⟨r1, u2, hc3, hF⟩ := q_bnd_some hF
    refine sx_ci (Wd := (ax_W a cI L)) (σ1 := u2) (q_runV (Wd := (ax_W a cI L)) (σ := u) (q0 := 5) (ci := 4) (T := TX4) (N := 2) (As := [.int o1]) (rest := []) hx hb hml hown hts hK hP (kt_X4_hasLinks hD hc3) cw_X10_148 rfl rfl ⟨Nat.le_of_ble_eq_true rfl, Nat.le_of_ble_eq_true rfl⟩ rfl rfl rfl hl.1 rfl (Nat.le_of_ble_eq_true rfl) dX10_links_18) hS (fun H locs hP hS => ?_)
    refine sx_if_eq (tgt := 35) hx hb hF dX10_links_21 (by decide) (fun hF => ?_) (fun hF => ?_)
    · refine lv_bipush (v := (-14)) hx hb dX10_links_35 (by decide) ?_
      exact sx_reti (Wd := (ax_W a cI L)) (σ := u2) hx hb hr hF hP hS hlocks dX10_links_37
    · refine lv_aload_n hx hb dX10_links_24 rfl (lv_at hl 0 rfl) ?_
      refine gx_h_nodes hx hb hts hown hK hP fl_X10_71 dX10_links_25 ?_
      refine lv_iload_n hx hb dX10_links_28 rfl (lv_at hl 1 rfl) ?_
      obtain ⟨r4, u5, hc6, hF⟩ := q_bnd_some hF
      refine sx_ci (Wd := (ax_W a cI L)) (σ1 := u5) (q_runV (Wd := (ax_W a cI L)) (σ := u2) (q0 := 5) (ci := 4) (T := TX4) (N := 2) (As := [.int o1]) (rest := []) hx hb hml hown hts hK hP (kt_X4_linksOf hD hc6) cw_X10_154 rfl rfl ⟨Nat.le_of_ble_eq_true rfl, Nat.le_of_ble_eq_true rfl⟩ rfl rfl rfl hl.1 rfl (Nat.le_of_ble_eq_true rfl) dX10_links_29) hS (fun H locs hP hS => ?_)
      refine lv_goto (tgt := 37) hx hb dX10_links_32 (by decide) ?_
      exact sx_reti (Wd := (ax_W a cI L)) (σ := u5) hx hb hr hF hP hS hlocks dX10_links_37
  · refine lv_bipush (v := (-99)) hx hb dX10_links_10 (by decide) ?_
    exact sx_reti (Wd := (ax_W a cI L)) (σ := u) hx hb hr hF hP hS hlocks dX10_links_12
set_option maxHeartbeats 4000000 in
set_option maxRecDepth 100000 in
theorem kt_X10_parent {N : Nat} {l : Launch} {D : va_G} {a : Nat → Nat} {cI : Nat → ClassId} {L : Nat → Nat} (hD : ∀ σ, va_D (ax_A a) (ax_W a cI L σ)) {o1 : Int32} {u σ0 : q_St} {r0 : Int32} (hF : fX10_parent L N o1 u = some (r0, σ0)) : Met l yX10_parent (Cond.code yX10_parent cX10_parent 2 (some .int) :: q_T) ({ frames := 4, cells := 0, slots := 0, locals := 89 } : Room) (q_P D vwCl (ax_T cI) (ax_W a cI L) [.ref (a 0), .int o1] u) (q_Qi D vwCl (ax_W a cI L) (ax_A a) r0 σ0) 0 0 (ax_A a) := by
  refine Met.ofW (cc := cX10_parent) (maxL := 2) (ret := (some .int)) (by decide) rfl ?_
  intro p e s m args below meth c s₁ B hml hv
  obtain ⟨rfl, hP, hK⟩ := hv
  have hx := B.exec
  have hb := B.bytes
  have hr := B.returns
  have hts := q_ts (atoms_spec (ws := Cond.code yX10_parent cX10_parent 2 (some .int) :: q_T) B.pre)
  have hown : s.vm.findClass RX10 = some m.cls := findClass_of_methodNamed B.named
  have hlocks := B.notSynchronized
  have hS : va_S (ax_A a) s.heap s.heap [] := va_S.rf
  have hl := lv_entry ([.ref (a 0), .int o1]) (n := 2) (Nat.le_of_ble_eq_true rfl)
  rw [lg_entry_eq]
  generalize (lg_sl ([.ref (a 0), .int o1]) ++ List.replicate (2 - (lg_sl ([.ref (a 0), .int o1])).length) Slot.unset).toArray = ls at hl ⊢
  have hl : lv_has ls 2 [(0, .ref (a 0)), (1, .int o1)] := hl
  unfold fX10_parent at hF
  refine lv_aload_n hx hb dX10_parent_0 rfl (lv_at hl 0 rfl) ?_
  refine gx_h_disk hx hb hts hown hK hP fl_X10_53 dX10_parent_1 ?_
  refine gx_disk_on hx hb hts hown hK hP fl_X10_122 dX10_parent_4 ?_
  refine sx_if_ne (tgt := 13) hx hb hF dX10_parent_7 (by decide) (fun hF => ?_) (fun hF => ?_)
  · refine lv_aload_n hx hb dX10_parent_13 rfl (lv_at hl 0 rfl) ?_
    refine gx_h_nodes hx hb hts hown hK hP fl_X10_71 dX10_parent_14 ?_
    refine lv_iload_n hx hb dX10_parent_17 rfl (lv_at hl 1 rfl) ?_
    obtain ⟨r1, u2, hc3, hF⟩ := q_bnd_some hF
    refine sx_ci (Wd := (ax_W a cI L)) (σ1 := u2) (q_runV (Wd := (ax_W a cI L)) (σ := u) (q0 := 5) (ci := 4) (T := TX4) (N := 2) (As := [.int o1]) (rest := []) hx hb hml hown hts hK hP (kt_X4_kindOf hD hc3) cw_X10_173 rfl rfl ⟨Nat.le_of_ble_eq_true rfl, Nat.le_of_ble_eq_true rfl⟩ rfl rfl rfl hl.1 rfl (Nat.le_of_ble_eq_true rfl) dX10_parent_18) hS (fun H locs hP hS => ?_)
    refine lv_iconst (v := 2) hx hb dX10_parent_21 (by decide) ?_
    refine sx_icmp_ne (tgt := 36) hx hb hF dX10_parent_22 (by decide) (fun hF => ?_) (fun hF => ?_)
    · refine lv_bipush (v := (-10)) hx hb dX10_parent_36 (by decide) ?_
      exact sx_reti (Wd := (ax_W a cI L)) (σ := u2) hx hb hr hF hP hS hlocks dX10_parent_38
    · refine lv_aload_n hx hb dX10_parent_25 rfl (lv_at hl 0 rfl) ?_
      refine gx_h_nodes hx hb hts hown hK hP fl_X10_71 dX10_parent_26 ?_
      refine lv_iload_n hx hb dX10_parent_29 rfl (lv_at hl 1 rfl) ?_
      obtain ⟨r4, u5, hc6, hF⟩ := q_bnd_some hF
      refine sx_ci (Wd := (ax_W a cI L)) (σ1 := u5) (q_runV (Wd := (ax_W a cI L)) (σ := u2) (q0 := 5) (ci := 4) (T := TX4) (N := 2) (As := [.int o1]) (rest := []) hx hb hml hown hts hK hP (kt_X4_holderOf hD hc6) cw_X10_246 rfl rfl ⟨Nat.le_of_ble_eq_true rfl, Nat.le_of_ble_eq_true rfl⟩ rfl rfl rfl hl.1 rfl (Nat.le_of_ble_eq_true rfl) dX10_parent_30) hS (fun H locs hP hS => ?_)
      refine lv_goto (tgt := 38) hx hb dX10_parent_33 (by decide) ?_
      exact sx_reti (Wd := (ax_W a cI L)) (σ := u5) hx hb hr hF hP hS hlocks dX10_parent_38
  · refine lv_bipush (v := (-99)) hx hb dX10_parent_10 (by decide) ?_
    exact sx_reti (Wd := (ax_W a cI L)) (σ := u) hx hb hr hF hP hS hlocks dX10_parent_12
set_option maxHeartbeats 4000000 in
set_option maxRecDepth 100000 in
theorem kt_X0_blockOf {N : Nat} {l : Launch} {D : va_G} {a : Nat → Nat} {cI : Nat → ClassId} {L : Nat → Nat} (hD : ∀ σ, va_D (ax_A a) (ax_W a cI L σ)) {o1 : Int32} {o2 : Int32} {u σ0 : q_St} {r0 : Int32} (hF : fX0_blockOf L N o1 o2 u = some (r0, σ0)) : Met l yX0_blockOf (Cond.code yX0_blockOf cX0_blockOf 4 (some .int) :: q_T) ({ frames := 5, cells := 0, slots := 0, locals := 114 } : Room) (q_P D vwCl (ax_T cI) (ax_W a cI L) [.ref (a 7), .int o1, .int o2] u) (q_Qi D vwCl (ax_W a cI L) (ax_A a) r0 σ0) 0 0 (ax_A a) := by
  refine Met.ofW (cc := cX0_blockOf) (maxL := 4) (ret := (some .int)) (by decide) rfl ?_
  intro p e s m args below meth c s₁ B hml hv
  obtain ⟨rfl, hP, hK⟩ := hv
  have hx := B.exec
  have hb := B.bytes
  have hr := B.returns
  have hts := q_ts (atoms_spec (ws := Cond.code yX0_blockOf cX0_blockOf 4 (some .int) :: q_T) B.pre)
  have hown : s.vm.findClass RX0 = some m.cls := findClass_of_methodNamed B.named
  have hlocks := B.notSynchronized
  have hS : va_S (ax_A a) s.heap s.heap [] := va_S.rf
  have hl := lv_entry ([.ref (a 7), .int o1, .int o2]) (n := 4) (Nat.le_of_ble_eq_true rfl)
  rw [lg_entry_eq]
  generalize (lg_sl ([.ref (a 7), .int o1, .int o2]) ++ List.replicate (4 - (lg_sl ([.ref (a 7), .int o1, .int o2])).length) Slot.unset).toArray = ls at hl ⊢
  have hl : lv_has ls 4 [(0, .ref (a 7)), (1, .int o1), (2, .int o2)] := hl
  have hB24 : ∀ (u : q_St) (ls : Array Slot), lv_has ls 4 [] → fX0_blockOf_b24 L N u = some (r0, σ0) → ∀ (H : Heap) (locs : List Loc), va_P D vwCl (ax_W a cI L u) H → va_S (ax_A a) s.heap H locs → W p l e (headSpec (Cond.code yX0_blockOf cX0_blockOf 4 (some .int) :: q_T) ({ frames := 5, cells := 0, slots := 0, locals := 114 } : Room)).room s m ([.ref (a 7), .int o1, .int o2] : List Value).toArray below meth c H locs 0 0 (MQ below (q_Qi D vwCl (ax_W a cI L) (ax_A a) r0 σ0) ([.ref (a 7), .int o1, .int o2] : List Value).toArray s 0 0 (ax_A a)) (F0 m 24 ls []) := by
    intro u ls hl hF _ _ hP hS
    unfold fX0_blockOf_b24 at hF
    refine lv_iconst (v := 0) hx hb dX0_blockOf_24 (by decide) ?_
    refine lv_goto (tgt := 46) hx hb dX0_blockOf_25 (by decide) ?_
    exact sx_reti (Wd := (ax_W a cI L)) (σ := u) hx hb hr hF hP hS hlocks dX0_blockOf_46
  unfold fX0_blockOf at hF
  refine lv_aload_n hx hb dX0_blockOf_0 rfl (lv_at hl 0 rfl) ?_
  refine gx_bodies_nodes hx hb hts hown hK hP fl_X0_19 dX0_blockOf_1 ?_
  refine lv_iload_n hx hb dX0_blockOf_4 rfl (lv_at hl 1 rfl) ?_
  obtain ⟨r1, u2, hc3, hF⟩ := q_bnd_some hF
  refine sx_ci (Wd := (ax_W a cI L)) (σ1 := u2) (q_runV (Wd := (ax_W a cI L)) (σ := u) (q0 := 5) (ci := 4) (T := TX4) (N := 2) (As := [.int o1]) (rest := []) hx hb hml hown hts hK hP (kt_X4_kindOf hD hc3) cw_X0_27 rfl rfl ⟨Nat.le_of_ble_eq_true rfl, Nat.le_of_ble_eq_true rfl⟩ rfl rfl rfl hl.1 rfl (Nat.le_of_ble_eq_true rfl) dX0_blockOf_5) hS (fun H locs hP hS => ?_)
  refine lv_istore_n (lv' := [(3, .int r1), (0, .ref (a 7)), (1, .int o1), (2, .int o2)]) hx hb dX0_blockOf_8 rfl hl (by decide) rfl (fun ls hl => ?_)
  refine lv_iload_n hx hb dX0_blockOf_9 rfl (lv_at hl 0 rfl) ?_
  refine lv_iconst (v := 2) hx hb dX0_blockOf_10 (by decide) ?_
  refine sx_icmp_ne (tgt := 47) hx hb hF dX0_blockOf_11 (by decide) (fun hF => ?_) (fun hF => ?_)
  · refine lv_iload_n hx hb dX0_blockOf_47 rfl (lv_at hl 0 rfl) ?_
    refine lv_iconst (v := 3) hx hb dX0_blockOf_48 (by decide) ?_
    refine sx_icmp_ne (tgt := 59) hx hb hF dX0_blockOf_49 (by decide) (fun hF => ?_) (fun hF => ?_)
    · refine lv_iload_n hx hb dX0_blockOf_59 rfl (lv_at hl 0 rfl) ?_
      refine lv_iconst (v := 1) hx hb dX0_blockOf_60 (by decide) ?_
      refine sx_icmp_eq (tgt := 66) hx hb hF dX0_blockOf_61 (by decide) (fun hF => ?_) (fun hF => ?_)
      · refine lv_iload_n hx hb dX0_blockOf_66 rfl (lv_at hl 3 rfl) ?_
        refine lv_iconst (v := (-1)) hx hb dX0_blockOf_67 (by decide) ?_
        refine sx_icmp_ne (tgt := 89) hx hb hF dX0_blockOf_68 (by decide) (fun hF => ?_) (fun hF => ?_)
        · refine lv_iload_n hx hb dX0_blockOf_89 rfl (lv_at hl 3 rfl) ?_
          refine lv_bipush (v := (-2)) hx hb dX0_blockOf_90 (by decide) ?_
          refine sx_icmp_ne (tgt := 113) hx hb hF dX0_blockOf_92 (by decide) (fun hF => ?_) (fun hF => ?_)
          · refine lv_iload_n hx hb dX0_blockOf_113 rfl (lv_at hl 3 rfl) ?_
            refine sx_if_ge (tgt := 129) hx hb hF dX0_blockOf_114 (by decide) (fun hF => ?_) (fun hF => ?_)
            · refine lv_aload_n hx hb dX0_blockOf_129 rfl (lv_at hl 1 rfl) ?_
              refine lv_iload_n hx hb dX0_blockOf_130 rfl (lv_at hl 2 rfl) ?_
              refine lv_iload_n hx hb dX0_blockOf_131 rfl (lv_at hl 3 rfl) ?_
              obtain ⟨r4, u5, hc6, hF⟩ := q_bnd_some hF
              refine sx_ci (Wd := (ax_W a cI L)) (σ1 := u5) (q_runV (Wd := (ax_W a cI L)) (σ := u2) (q0 := 7) (ci := 0) (T := TX0) (N := 4) (As := [.int o1, .int o2]) (rest := []) hx hb hml hown hts hK hP (kt_X0_pieceBlock hD hc6) cw_X0_48 rfl rfl ⟨Nat.le_of_ble_eq_true rfl, Nat.le_of_ble_eq_true rfl⟩ rfl rfl rfl hl.1 rfl (Nat.le_of_ble_eq_true rfl) dX0_blockOf_132) hS (fun H locs hP hS => ?_)
              exact sx_reti (Wd := (ax_W a cI L)) (σ := u5) hx hb hr hF hP hS hlocks dX0_blockOf_135
            · refine lv_aload_n hx hb dX0_blockOf_117 rfl (lv_at hl 1 rfl) ?_
              refine lv_iload_n hx hb dX0_blockOf_118 rfl (lv_at hl 2 rfl) ?_
              refine lv_bipush (v := (-3)) hx hb dX0_blockOf_119 (by decide) ?_
              refine lv_iload_n hx hb dX0_blockOf_121 rfl (lv_at hl 3 rfl) ?_
              refine lv_isub hx hb dX0_blockOf_122 ?_
              obtain ⟨r7, u8, hc9, hF⟩ := q_bnd_some hF
              refine sx_ci (Wd := (ax_W a cI L)) (σ1 := u8) (q_runV (Wd := (ax_W a cI L)) (σ := u2) (q0 := 7) (ci := 0) (T := TX0) (N := 4) (As := [.int o1, .int ((-3) - o2)]) (rest := []) hx hb hml hown hts hK hP (kt_X0_farIndex hD hc9) cw_X0_57 rfl rfl ⟨Nat.le_of_ble_eq_true rfl, Nat.le_of_ble_eq_true rfl⟩ rfl rfl rfl hl.1 rfl (Nat.le_of_ble_eq_true rfl) dX0_blockOf_123) hS (fun H locs hP hS => ?_)
              refine lv_goto (tgt := 135) hx hb dX0_blockOf_126 (by decide) ?_
              exact sx_reti (Wd := (ax_W a cI L)) (σ := u8) hx hb hr hF hP hS hlocks dX0_blockOf_135
          · refine lv_aload_n hx hb dX0_blockOf_95 rfl (lv_at hl 1 rfl) ?_
            refine gx_bodies_store hx hb hts hown hK hP fl_X0_11 dX0_blockOf_96 ?_
            refine lv_aload_n hx hb dX0_blockOf_99 rfl (lv_at hl 1 rfl) ?_
            refine gx_bodies_nodes hx hb hts hown hK hP fl_X0_19 dX0_blockOf_100 ?_
            refine lv_iload_n hx hb dX0_blockOf_103 rfl (lv_at hl 2 rfl) ?_
            obtain ⟨r10, u11, hc12, hF⟩ := q_bnd_some hF
            refine sx_ci (Wd := (ax_W a cI L)) (σ1 := u11) (q_runV (Wd := (ax_W a cI L)) (σ := u2) (q0 := 5) (ci := 4) (T := TX4) (N := 2) (As := [.int o1]) (rest := [.ref (a 3)]) hx hb hml hown hts hK hP (kt_X4_sectorOf hD hc12) cw_X0_36 rfl rfl ⟨Nat.le_of_ble_eq_true rfl, Nat.le_of_ble_eq_true rfl⟩ rfl rfl rfl hl.1 rfl (Nat.le_of_ble_eq_true rfl) dX0_blockOf_104) hS (fun H locs hP hS => ?_)
            refine lv_bipush (v := 17) hx hb dX0_blockOf_107 (by decide) ?_
            obtain ⟨r13, u14, hc15, hF⟩ := q_bnd_some hF
            refine sx_ci (Wd := (ax_W a cI L)) (σ1 := u14) (q_runV (Wd := (ax_W a cI L)) (σ := u11) (q0 := 3) (ci := 6) (T := TX6) (N := 9) (As := [.int r10, .int 17]) (rest := []) hx hb hml hown hts hK hP (kt_X6_half hD hc15) cw_X0_54 rfl rfl ⟨Nat.le_of_ble_eq_true rfl, Nat.le_of_ble_eq_true rfl⟩ rfl rfl rfl hl.1 rfl (Nat.le_of_ble_eq_true rfl) dX0_blockOf_109) hS (fun H locs hP hS => ?_)
            exact sx_reti (Wd := (ax_W a cI L)) (σ := u14) hx hb hr hF hP hS hlocks dX0_blockOf_112
        · refine lv_aload_n hx hb dX0_blockOf_71 rfl (lv_at hl 1 rfl) ?_
          refine gx_bodies_store hx hb hts hown hK hP fl_X0_11 dX0_blockOf_72 ?_
          refine lv_aload_n hx hb dX0_blockOf_75 rfl (lv_at hl 1 rfl) ?_
          refine gx_bodies_nodes hx hb hts hown hK hP fl_X0_19 dX0_blockOf_76 ?_
          refine lv_iload_n hx hb dX0_blockOf_79 rfl (lv_at hl 2 rfl) ?_
          obtain ⟨r16, u17, hc18, hF⟩ := q_bnd_some hF
          refine sx_ci (Wd := (ax_W a cI L)) (σ1 := u17) (q_runV (Wd := (ax_W a cI L)) (σ := u2) (q0 := 5) (ci := 4) (T := TX4) (N := 2) (As := [.int o1]) (rest := [.ref (a 3)]) hx hb hml hown hts hK hP (kt_X4_sectorOf hD hc18) cw_X0_36 rfl rfl ⟨Nat.le_of_ble_eq_true rfl, Nat.le_of_ble_eq_true rfl⟩ rfl rfl rfl hl.1 rfl (Nat.le_of_ble_eq_true rfl) dX0_blockOf_80) hS (fun H locs hP hS => ?_)
          refine lv_bipush (v := 16) hx hb dX0_blockOf_83 (by decide) ?_
          obtain ⟨r19, u20, hc21, hF⟩ := q_bnd_some hF
          refine sx_ci (Wd := (ax_W a cI L)) (σ1 := u20) (q_runV (Wd := (ax_W a cI L)) (σ := u17) (q0 := 3) (ci := 6) (T := TX6) (N := 9) (As := [.int r16, .int 16]) (rest := []) hx hb hml hown hts hK hP (kt_X6_half hD hc21) cw_X0_54 rfl rfl ⟨Nat.le_of_ble_eq_true rfl, Nat.le_of_ble_eq_true rfl⟩ rfl rfl rfl hl.1 rfl (Nat.le_of_ble_eq_true rfl) dX0_blockOf_85) hS (fun H locs hP hS => ?_)
          exact sx_reti (Wd := (ax_W a cI L)) (σ := u20) hx hb hr hF hP hS hlocks dX0_blockOf_88
      · refine lv_iconst (v := 0) hx hb dX0_blockOf_64 (by decide) ?_
        exact sx_reti (Wd := (ax_W a cI L)) (σ := u2) hx hb hr hF hP hS hlocks dX0_blockOf_65
    · refine lv_aload_n hx hb dX0_blockOf_52 rfl (lv_at hl 1 rfl) ?_
      refine lv_iload_n hx hb dX0_blockOf_53 rfl (lv_at hl 2 rfl) ?_
      refine lv_iload_n hx hb dX0_blockOf_54 rfl (lv_at hl 3 rfl) ?_
      obtain ⟨r22, u23, hc24, hF⟩ := q_bnd_some hF
      refine sx_ci (Wd := (ax_W a cI L)) (σ1 := u23) (q_runV (Wd := (ax_W a cI L)) (σ := u2) (q0 := 7) (ci := 0) (T := TX0) (N := 4) (As := [.int o1, .int o2]) (rest := []) hx hb hml hown hts hK hP (kt_X0_laidBlock hD hc24) cw_X0_45 rfl rfl ⟨Nat.le_of_ble_eq_true rfl, Nat.le_of_ble_eq_true rfl⟩ rfl rfl rfl hl.1 rfl (Nat.le_of_ble_eq_true rfl) dX0_blockOf_55) hS (fun H locs hP hS => ?_)
      exact sx_reti (Wd := (ax_W a cI L)) (σ := u23) hx hb hr hF hP hS hlocks dX0_blockOf_58
  · refine lv_iload_n hx hb dX0_blockOf_14 rfl (lv_at hl 3 rfl) ?_
    refine sx_if_lt (tgt := 24) hx hb hF dX0_blockOf_15 (by decide) (fun hF => ?_) (fun hF => ?_)
    · exact hB24 u2 ls (lv_sub hl [] rfl) hF _ _ hP hS
    · refine lv_iload_n hx hb dX0_blockOf_18 rfl (lv_at hl 3 rfl) ?_
      refine lv_bipush (v := 12) hx hb dX0_blockOf_19 (by decide) ?_
      refine sx_icmp_lt (tgt := 28) hx hb hF dX0_blockOf_21 (by decide) (fun hF => ?_) (fun hF => ?_)
      · refine lv_aload_n hx hb dX0_blockOf_28 rfl (lv_at hl 1 rfl) ?_
        refine gx_bodies_store hx hb hts hown hK hP fl_X0_11 dX0_blockOf_29 ?_
        refine lv_aload_n hx hb dX0_blockOf_32 rfl (lv_at hl 1 rfl) ?_
        refine gx_bodies_nodes hx hb hts hown hK hP fl_X0_19 dX0_blockOf_33 ?_
        refine lv_iload_n hx hb dX0_blockOf_36 rfl (lv_at hl 2 rfl) ?_
        obtain ⟨r25, u26, hc27, hF⟩ := q_bnd_some hF
        refine sx_ci (Wd := (ax_W a cI L)) (σ1 := u26) (q_runV (Wd := (ax_W a cI L)) (σ := u2) (q0 := 5) (ci := 4) (T := TX4) (N := 2) (As := [.int o1]) (rest := [.ref (a 3)]) hx hb hml hown hts hK hP (kt_X4_sectorOf hD hc27) cw_X0_36 rfl rfl ⟨Nat.le_of_ble_eq_true rfl, Nat.le_of_ble_eq_true rfl⟩ rfl rfl rfl hl.1 rfl (Nat.le_of_ble_eq_true rfl) dX0_blockOf_37) hS (fun H locs hP hS => ?_)
        refine lv_iconst (v := 4) hx hb dX0_blockOf_40 (by decide) ?_
        refine lv_iload_n hx hb dX0_blockOf_41 rfl (lv_at hl 3 rfl) ?_
        refine lv_iadd hx hb dX0_blockOf_42 ?_
        obtain ⟨r28, u29, hc30, hF⟩ := q_bnd_some hF
        refine sx_ci (Wd := (ax_W a cI L)) (σ1 := u29) (q_runV (Wd := (ax_W a cI L)) (σ := u26) (q0 := 3) (ci := 6) (T := TX6) (N := 9) (As := [.int r25, .int (4 + o2)]) (rest := []) hx hb hml hown hts hK hP (kt_X6_half hD hc30) cw_X0_54 rfl rfl ⟨Nat.le_of_ble_eq_true rfl, Nat.le_of_ble_eq_true rfl⟩ rfl rfl rfl hl.1 rfl (Nat.le_of_ble_eq_true rfl) dX0_blockOf_43) hS (fun H locs hP hS => ?_)
        exact sx_reti (Wd := (ax_W a cI L)) (σ := u29) hx hb hr hF hP hS hlocks dX0_blockOf_46
      · exact hB24 u2 ls (lv_sub hl [] rfl) hF _ _ hP hS
set_option maxHeartbeats 4000000 in
set_option maxRecDepth 100000 in
theorem kt_X10_block {N : Nat} {l : Launch} {D : va_G} {a : Nat → Nat} {cI : Nat → ClassId} {L : Nat → Nat} (hD : ∀ σ, va_D (ax_A a) (ax_W a cI L σ)) {o1 : Int32} {o2 : Int32} {u σ0 : q_St} {r0 : Int32} (hF : fX10_block L N o1 o2 u = some (r0, σ0)) : Met l yX10_block (Cond.code yX10_block cX10_block 4 (some .int) :: q_T) ({ frames := 6, cells := 0, slots := 0, locals := 137 } : Room) (q_P D vwCl (ax_T cI) (ax_W a cI L) [.ref (a 0), .int o1, .int o2] u) (q_Qi D vwCl (ax_W a cI L) (ax_A a) r0 σ0) 0 0 (ax_A a) := by
  refine Met.ofW (cc := cX10_block) (maxL := 4) (ret := (some .int)) (by decide) rfl ?_
  intro p e s m args below meth c s₁ B hml hv
  obtain ⟨rfl, hP, hK⟩ := hv
  have hx := B.exec
  have hb := B.bytes
  have hr := B.returns
  have hts := q_ts (atoms_spec (ws := Cond.code yX10_block cX10_block 4 (some .int) :: q_T) B.pre)
  have hown : s.vm.findClass RX10 = some m.cls := findClass_of_methodNamed B.named
  have hlocks := B.notSynchronized
  have hS : va_S (ax_A a) s.heap s.heap [] := va_S.rf
  have hl := lv_entry ([.ref (a 0), .int o1, .int o2]) (n := 4) (Nat.le_of_ble_eq_true rfl)
  rw [lg_entry_eq]
  generalize (lg_sl ([.ref (a 0), .int o1, .int o2]) ++ List.replicate (4 - (lg_sl ([.ref (a 0), .int o1, .int o2])).length) Slot.unset).toArray = ls at hl ⊢
  have hl : lv_has ls 4 [(0, .ref (a 0)), (1, .int o1), (2, .int o2)] := hl
  unfold fX10_block at hF
  refine lv_aload_n hx hb dX10_block_0 rfl (lv_at hl 0 rfl) ?_
  refine gx_h_disk hx hb hts hown hK hP fl_X10_53 dX10_block_1 ?_
  refine gx_disk_on hx hb hts hown hK hP fl_X10_122 dX10_block_4 ?_
  refine sx_if_ne (tgt := 13) hx hb hF dX10_block_7 (by decide) (fun hF => ?_) (fun hF => ?_)
  · refine lv_aload_n hx hb dX10_block_13 rfl (lv_at hl 0 rfl) ?_
    refine gx_h_bodies hx hb hts hown hK hP fl_X10_91 dX10_block_14 ?_
    refine lv_iload_n hx hb dX10_block_17 rfl (lv_at hl 1 rfl) ?_
    refine lv_iload_n hx hb dX10_block_18 rfl (lv_at hl 2 rfl) ?_
    obtain ⟨r1, u2, hc3, hF⟩ := q_bnd_some hF
    refine sx_ci (Wd := (ax_W a cI L)) (σ1 := u2) (q_runV (Wd := (ax_W a cI L)) (σ := u) (q0 := 7) (ci := 0) (T := TX0) (N := 4) (As := [.int o1, .int o2]) (rest := []) hx hb hml hown hts hK hP (kt_X0_blockOf hD hc3) cw_X10_249 rfl rfl ⟨Nat.le_of_ble_eq_true rfl, Nat.le_of_ble_eq_true rfl⟩ rfl rfl rfl hl.1 rfl (Nat.le_of_ble_eq_true rfl) dX10_block_19) hS (fun H locs hP hS => ?_)
    refine lv_istore_n (lv' := [(3, .int r1), (0, .ref (a 0)), (1, .int o1), (2, .int o2)]) hx hb dX10_block_22 rfl hl (by decide) rfl (fun ls hl => ?_)
    refine lv_iload_n hx hb dX10_block_23 rfl (lv_at hl 0 rfl) ?_
    refine sx_if_ne (tgt := 31) hx hb hF dX10_block_24 (by decide) (fun hF => ?_) (fun hF => ?_)
    · refine lv_iload_n hx hb dX10_block_31 rfl (lv_at hl 0 rfl) ?_
      exact sx_reti (Wd := (ax_W a cI L)) (σ := u2) hx hb hr hF hP hS hlocks dX10_block_32
    · refine lv_iconst (v := (-1)) hx hb dX10_block_27 (by decide) ?_
      refine lv_goto (tgt := 32) hx hb dX10_block_28 (by decide) ?_
      exact sx_reti (Wd := (ax_W a cI L)) (σ := u2) hx hb hr hF hP hS hlocks dX10_block_32
  · refine lv_bipush (v := (-99)) hx hb dX10_block_10 (by decide) ?_
    exact sx_reti (Wd := (ax_W a cI L)) (σ := u) hx hb hr hF hP hS hlocks dX10_block_12
set_option maxHeartbeats 4000000 in
set_option maxRecDepth 100000 in
theorem kt_X0_byteOf {N : Nat} {l : Launch} {D : va_G} {a : Nat → Nat} {cI : Nat → ClassId} {L : Nat → Nat} (hD : ∀ σ, va_D (ax_A a) (ax_W a cI L σ)) {o1 : Int32} {o2 : Int32} {u σ0 : q_St} {r0 : Int32} (hF : fX0_byteOf L N o1 o2 u = some (r0, σ0)) : Met l yX0_byteOf (Cond.code yX0_byteOf cX0_byteOf 5 (some .int) :: q_T) ({ frames := 5, cells := 0, slots := 0, locals := 114 } : Room) (q_P D vwCl (ax_T cI) (ax_W a cI L) [.ref (a 7), .int o1, .int o2] u) (q_Qi D vwCl (ax_W a cI L) (ax_A a) r0 σ0) 0 0 (ax_A a) := by
  refine Met.ofW (cc := cX0_byteOf) (maxL := 5) (ret := (some .int)) (by decide) rfl ?_
  intro p e s m args below meth c s₁ B hml hv
  obtain ⟨rfl, hP, hK⟩ := hv
  have hx := B.exec
  have hb := B.bytes
  have hr := B.returns
  have hts := q_ts (atoms_spec (ws := Cond.code yX0_byteOf cX0_byteOf 5 (some .int) :: q_T) B.pre)
  have hown : s.vm.findClass RX0 = some m.cls := findClass_of_methodNamed B.named
  have hlocks := B.notSynchronized
  have hS : va_S (ax_A a) s.heap s.heap [] := va_S.rf
  have hl := lv_entry ([.ref (a 7), .int o1, .int o2]) (n := 5) (Nat.le_of_ble_eq_true rfl)
  rw [lg_entry_eq]
  generalize (lg_sl ([.ref (a 7), .int o1, .int o2]) ++ List.replicate (5 - (lg_sl ([.ref (a 7), .int o1, .int o2])).length) Slot.unset).toArray = ls at hl ⊢
  have hl : lv_has ls 5 [(0, .ref (a 7)), (1, .int o1), (2, .int o2)] := hl
  have hB60 : ∀ (x2 : Int32) (y0 : Int32) (u : q_St) (ls : Array Slot), lv_has ls 5 [(0, .ref (a 7)), (2, .int x2)] → fX0_byteOf_b60 L N x2 y0 u = some (r0, σ0) → ∀ (H : Heap) (locs : List Loc), va_P D vwCl (ax_W a cI L u) H → va_S (ax_A a) s.heap H locs → W p l e (headSpec (Cond.code yX0_byteOf cX0_byteOf 5 (some .int) :: q_T) ({ frames := 5, cells := 0, slots := 0, locals := 114 } : Room)).room s m ([.ref (a 7), .int o1, .int o2] : List Value).toArray below meth c H locs 0 0 (MQ below (q_Qi D vwCl (ax_W a cI L) (ax_A a) r0 σ0) ([.ref (a 7), .int o1, .int o2] : List Value).toArray s 0 0 (ax_A a)) (F0 m 60 ls [.int y0]) := by
    intro x2 y0 u ls hl hF _ _ hP hS
    unfold fX0_byteOf_b60 at hF
    refine lv_istore (lv' := [(4, .int y0), (0, .ref (a 7)), (2, .int x2)]) hx hb dX0_byteOf_60 hl (by decide) rfl (fun ls hl => ?_)
    refine lv_iload hx hb dX0_byteOf_62 (lv_at hl 0 rfl) ?_
    refine sx_if_ne (tgt := 71) hx hb hF dX0_byteOf_64 (by decide) (fun hF => ?_) (fun hF => ?_)
    · refine lv_aload_n hx hb dX0_byteOf_71 rfl (lv_at hl 1 rfl) ?_
      refine gx_bodies_store hx hb hts hown hK hP fl_X0_11 dX0_byteOf_72 ?_
      refine lv_iload hx hb dX0_byteOf_75 (lv_at hl 0 rfl) ?_
      refine lv_iload_n hx hb dX0_byteOf_77 rfl (lv_at hl 2 rfl) ?_
      refine lv_bipush (v := 64) hx hb dX0_byteOf_78 (by decide) ?_
      refine lv_irem hx hb dX0_byteOf_80 (by decide) ?_
      obtain ⟨r7, u8, hc9, hF⟩ := q_bnd_some hF
      refine sx_ci (Wd := (ax_W a cI L)) (σ1 := u8) (q_runV (Wd := (ax_W a cI L)) (σ := u) (q0 := 3) (ci := 6) (T := TX6) (N := 9) (As := [.int y0, .int (x2 - x2 / 64 * 64)]) (rest := []) hx hb hml hown hts hK hP (kt_X6_octet hD hc9) cw_X0_39 rfl rfl ⟨Nat.le_of_ble_eq_true rfl, Nat.le_of_ble_eq_true rfl⟩ rfl rfl rfl hl.1 rfl (Nat.le_of_ble_eq_true rfl) dX0_byteOf_81) hS (fun H locs hP hS => ?_)
      exact sx_reti (Wd := (ax_W a cI L)) (σ := u8) hx hb hr hF hP hS hlocks dX0_byteOf_84
    · refine lv_iconst (v := 0) hx hb dX0_byteOf_67 (by decide) ?_
      refine lv_goto (tgt := 84) hx hb dX0_byteOf_68 (by decide) ?_
      exact sx_reti (Wd := (ax_W a cI L)) (σ := u) hx hb hr hF hP hS hlocks dX0_byteOf_84
  unfold fX0_byteOf at hF
  refine lv_aload_n hx hb dX0_byteOf_0 rfl (lv_at hl 0 rfl) ?_
  refine gx_bodies_nodes hx hb hts hown hK hP fl_X0_19 dX0_byteOf_1 ?_
  refine lv_iload_n hx hb dX0_byteOf_4 rfl (lv_at hl 1 rfl) ?_
  obtain ⟨r1, u2, hc3, hF⟩ := q_bnd_some hF
  refine sx_ci (Wd := (ax_W a cI L)) (σ1 := u2) (q_runV (Wd := (ax_W a cI L)) (σ := u) (q0 := 5) (ci := 4) (T := TX4) (N := 2) (As := [.int o1]) (rest := []) hx hb hml hown hts hK hP (kt_X4_kindOf hD hc3) cw_X0_27 rfl rfl ⟨Nat.le_of_ble_eq_true rfl, Nat.le_of_ble_eq_true rfl⟩ rfl rfl rfl hl.1 rfl (Nat.le_of_ble_eq_true rfl) dX0_byteOf_5) hS (fun H locs hP hS => ?_)
  refine lv_istore_n (lv' := [(3, .int r1), (0, .ref (a 7)), (1, .int o1), (2, .int o2)]) hx hb dX0_byteOf_8 rfl hl (by decide) rfl (fun ls hl => ?_)
  refine lv_iload_n hx hb dX0_byteOf_9 rfl (lv_at hl 0 rfl) ?_
  refine lv_iconst (v := 4) hx hb dX0_byteOf_10 (by decide) ?_
  refine sx_icmp_ne (tgt := 34) hx hb hF dX0_byteOf_11 (by decide) (fun hF => ?_) (fun hF => ?_)
  · refine lv_iload_n hx hb dX0_byteOf_34 rfl (lv_at hl 0 rfl) ?_
    refine lv_iconst (v := 3) hx hb dX0_byteOf_35 (by decide) ?_
    refine sx_icmp_ne (tgt := 51) hx hb hF dX0_byteOf_36 (by decide) (fun hF => ?_) (fun hF => ?_)
    · refine lv_aload_n hx hb dX0_byteOf_51 rfl (lv_at hl 1 rfl) ?_
      refine lv_iload_n hx hb dX0_byteOf_52 rfl (lv_at hl 2 rfl) ?_
      refine lv_iload_n hx hb dX0_byteOf_53 rfl (lv_at hl 3 rfl) ?_
      refine lv_bipush (v := 64) hx hb dX0_byteOf_54 (by decide) ?_
      refine lv_idiv hx hb dX0_byteOf_56 (by decide) ?_
      obtain ⟨r4, u5, hc6, hF⟩ := q_bnd_some hF
      refine sx_ci (Wd := (ax_W a cI L)) (σ1 := u5) (q_runV (Wd := (ax_W a cI L)) (σ := u2) (q0 := 7) (ci := 0) (T := TX0) (N := 4) (As := [.int o1, .int (o2 / 64)]) (rest := []) hx hb hml hown hts hK hP (kt_X0_pieceBlock hD hc6) cw_X0_48 rfl rfl ⟨Nat.le_of_ble_eq_true rfl, Nat.le_of_ble_eq_true rfl⟩ rfl rfl rfl hl.1 rfl (Nat.le_of_ble_eq_true rfl) dX0_byteOf_57) hS (fun H locs hP hS => ?_)
      exact hB60 o2 r4 u5 ls (lv_sub hl [1, 3] rfl) hF _ _ hP hS
    · refine lv_aload_n hx hb dX0_byteOf_39 rfl (lv_at hl 1 rfl) ?_
      refine lv_iload_n hx hb dX0_byteOf_40 rfl (lv_at hl 2 rfl) ?_
      refine lv_iload_n hx hb dX0_byteOf_41 rfl (lv_at hl 3 rfl) ?_
      refine lv_bipush (v := 64) hx hb dX0_byteOf_42 (by decide) ?_
      refine lv_idiv hx hb dX0_byteOf_44 (by decide) ?_
      obtain ⟨r10, u11, hc12, hF⟩ := q_bnd_some hF
      refine sx_ci (Wd := (ax_W a cI L)) (σ1 := u11) (q_runV (Wd := (ax_W a cI L)) (σ := u2) (q0 := 7) (ci := 0) (T := TX0) (N := 4) (As := [.int o1, .int (o2 / 64)]) (rest := []) hx hb hml hown hts hK hP (kt_X0_laidBlock hD hc12) cw_X0_45 rfl rfl ⟨Nat.le_of_ble_eq_true rfl, Nat.le_of_ble_eq_true rfl⟩ rfl rfl rfl hl.1 rfl (Nat.le_of_ble_eq_true rfl) dX0_byteOf_45) hS (fun H locs hP hS => ?_)
      refine lv_goto (tgt := 60) hx hb dX0_byteOf_48 (by decide) ?_
      exact hB60 o2 r10 u11 ls (lv_sub hl [1, 3] rfl) hF _ _ hP hS
  · refine lv_aload_n hx hb dX0_byteOf_14 rfl (lv_at hl 1 rfl) ?_
    refine gx_bodies_store hx hb hts hown hK hP fl_X0_11 dX0_byteOf_15 ?_
    refine lv_aload_n hx hb dX0_byteOf_18 rfl (lv_at hl 1 rfl) ?_
    refine gx_bodies_nodes hx hb hts hown hK hP fl_X0_19 dX0_byteOf_19 ?_
    refine lv_iload_n hx hb dX0_byteOf_22 rfl (lv_at hl 2 rfl) ?_
    obtain ⟨r13, u14, hc15, hF⟩ := q_bnd_some hF
    refine sx_ci (Wd := (ax_W a cI L)) (σ1 := u14) (q_runV (Wd := (ax_W a cI L)) (σ := u2) (q0 := 5) (ci := 4) (T := TX4) (N := 2) (As := [.int o1]) (rest := [.ref (a 3)]) hx hb hml hown hts hK hP (kt_X4_sectorOf hD hc15) cw_X0_36 rfl rfl ⟨Nat.le_of_ble_eq_true rfl, Nat.le_of_ble_eq_true rfl⟩ rfl rfl rfl hl.1 rfl (Nat.le_of_ble_eq_true rfl) dX0_byteOf_23) hS (fun H locs hP hS => ?_)
    refine lv_bipush (v := 24) hx hb dX0_byteOf_26 (by decide) ?_
    refine lv_iload_n hx hb dX0_byteOf_28 rfl (lv_at hl 3 rfl) ?_
    refine lv_iadd hx hb dX0_byteOf_29 ?_
    obtain ⟨r16, u17, hc18, hF⟩ := q_bnd_some hF
    refine sx_ci (Wd := (ax_W a cI L)) (σ1 := u17) (q_runV (Wd := (ax_W a cI L)) (σ := u14) (q0 := 3) (ci := 6) (T := TX6) (N := 9) (As := [.int r13, .int (24 + o2)]) (rest := []) hx hb hml hown hts hK hP (kt_X6_octet hD hc18) cw_X0_39 rfl rfl ⟨Nat.le_of_ble_eq_true rfl, Nat.le_of_ble_eq_true rfl⟩ rfl rfl rfl hl.1 rfl (Nat.le_of_ble_eq_true rfl) dX0_byteOf_30) hS (fun H locs hP hS => ?_)
    exact sx_reti (Wd := (ax_W a cI L)) (σ := u17) hx hb hr hF hP hS hlocks dX0_byteOf_33
set_option maxHeartbeats 4000000 in
set_option maxRecDepth 100000 in
theorem kt_X10_byteAt {N : Nat} {l : Launch} {D : va_G} {a : Nat → Nat} {cI : Nat → ClassId} {L : Nat → Nat} (hD : ∀ σ, va_D (ax_A a) (ax_W a cI L σ)) {o1 : Int32} {o2 : Int32} {u σ0 : q_St} {r0 : Int32} (hF : fX10_byteAt L N o1 o2 u = some (r0, σ0)) : Met l yX10_byteAt (Cond.code yX10_byteAt cX10_byteAt 4 (some .int) :: q_T) ({ frames := 6, cells := 0, slots := 0, locals := 138 } : Room) (q_P D vwCl (ax_T cI) (ax_W a cI L) [.ref (a 0), .int o1, .int o2] u) (q_Qi D vwCl (ax_W a cI L) (ax_A a) r0 σ0) 0 0 (ax_A a) := by
  refine Met.ofW (cc := cX10_byteAt) (maxL := 4) (ret := (some .int)) (by decide) rfl ?_
  intro p e s m args below meth c s₁ B hml hv
  obtain ⟨rfl, hP, hK⟩ := hv
  have hx := B.exec
  have hb := B.bytes
  have hr := B.returns
  have hts := q_ts (atoms_spec (ws := Cond.code yX10_byteAt cX10_byteAt 4 (some .int) :: q_T) B.pre)
  have hown : s.vm.findClass RX10 = some m.cls := findClass_of_methodNamed B.named
  have hlocks := B.notSynchronized
  have hS : va_S (ax_A a) s.heap s.heap [] := va_S.rf
  have hl := lv_entry ([.ref (a 0), .int o1, .int o2]) (n := 4) (Nat.le_of_ble_eq_true rfl)
  rw [lg_entry_eq]
  generalize (lg_sl ([.ref (a 0), .int o1, .int o2]) ++ List.replicate (4 - (lg_sl ([.ref (a 0), .int o1, .int o2])).length) Slot.unset).toArray = ls at hl ⊢
  have hl : lv_has ls 4 [(0, .ref (a 0)), (1, .int o1), (2, .int o2)] := hl
  have hB80 : ∀ (u : q_St) (ls : Array Slot), lv_has ls 4 [] → fX10_byteAt_b80 L N u = some (r0, σ0) → ∀ (H : Heap) (locs : List Loc), va_P D vwCl (ax_W a cI L u) H → va_S (ax_A a) s.heap H locs → W p l e (headSpec (Cond.code yX10_byteAt cX10_byteAt 4 (some .int) :: q_T) ({ frames := 6, cells := 0, slots := 0, locals := 138 } : Room)).room s m ([.ref (a 0), .int o1, .int o2] : List Value).toArray below meth c H locs 0 0 (MQ below (q_Qi D vwCl (ax_W a cI L) (ax_A a) r0 σ0) ([.ref (a 0), .int o1, .int o2] : List Value).toArray s 0 0 (ax_A a)) (F0 m 80 ls []) := by
    intro u ls hl hF _ _ hP hS
    unfold fX10_byteAt_b80 at hF
    refine lv_iconst (v := (-1)) hx hb dX10_byteAt_80 (by decide) ?_
    refine lv_goto (tgt := 93) hx hb dX10_byteAt_81 (by decide) ?_
    exact sx_reti (Wd := (ax_W a cI L)) (σ := u) hx hb hr hF hP hS hlocks dX10_byteAt_93
  have hB64 : ∀ (x1 : Int32) (x2 : Int32) (u : q_St) (ls : Array Slot), lv_has ls 4 [(0, .ref (a 0)), (1, .int x1), (2, .int x2)] → fX10_byteAt_b64 L N x1 x2 u = some (r0, σ0) → ∀ (H : Heap) (locs : List Loc), va_P D vwCl (ax_W a cI L u) H → va_S (ax_A a) s.heap H locs → W p l e (headSpec (Cond.code yX10_byteAt cX10_byteAt 4 (some .int) :: q_T) ({ frames := 6, cells := 0, slots := 0, locals := 138 } : Room)).room s m ([.ref (a 0), .int o1, .int o2] : List Value).toArray below meth c H locs 0 0 (MQ below (q_Qi D vwCl (ax_W a cI L) (ax_A a) r0 σ0) ([.ref (a 0), .int o1, .int o2] : List Value).toArray s 0 0 (ax_A a)) (F0 m 64 ls []) := by
    intro x1 x2 u ls hl hF _ _ hP hS
    unfold fX10_byteAt_b64 at hF
    refine lv_iload_n hx hb dX10_byteAt_64 rfl (lv_at hl 2 rfl) ?_
    refine sx_if_lt (tgt := 80) hx hb hF dX10_byteAt_65 (by decide) (fun hF => ?_) (fun hF => ?_)
    · exact hB80 u ls (lv_sub hl [] rfl) hF _ _ hP hS
    · refine lv_iload_n hx hb dX10_byteAt_68 rfl (lv_at hl 2 rfl) ?_
      refine lv_aload_n hx hb dX10_byteAt_69 rfl (lv_at hl 0 rfl) ?_
      refine gx_h_bodies hx hb hts hown hK hP fl_X10_91 dX10_byteAt_70 ?_
      refine lv_iload_n hx hb dX10_byteAt_73 rfl (lv_at hl 1 rfl) ?_
      obtain ⟨r4, u5, hc6, hF⟩ := q_bnd_some hF
      refine sx_ci (Wd := (ax_W a cI L)) (σ1 := u5) (q_runV (Wd := (ax_W a cI L)) (σ := u) (q0 := 7) (ci := 0) (T := TX0) (N := 4) (As := [.int x1]) (rest := [.int x2]) hx hb hml hown hts hK hP (kt_X0_byteCount hD hc6) cw_X10_231 rfl rfl ⟨Nat.le_of_ble_eq_true rfl, Nat.le_of_ble_eq_true rfl⟩ rfl rfl rfl hl.1 rfl (Nat.le_of_ble_eq_true rfl) dX10_byteAt_74) hS (fun H locs hP hS => ?_)
      refine sx_icmp_lt (tgt := 84) hx hb hF dX10_byteAt_77 (by decide) (fun hF => ?_) (fun hF => ?_)
      · refine lv_aload_n hx hb dX10_byteAt_84 rfl (lv_at hl 0 rfl) ?_
        refine gx_h_bodies hx hb hts hown hK hP fl_X10_91 dX10_byteAt_85 ?_
        refine lv_iload_n hx hb dX10_byteAt_88 rfl (lv_at hl 1 rfl) ?_
        refine lv_iload_n hx hb dX10_byteAt_89 rfl (lv_at hl 2 rfl) ?_
        obtain ⟨r7, u8, hc9, hF⟩ := q_bnd_some hF
        refine sx_ci (Wd := (ax_W a cI L)) (σ1 := u8) (q_runV (Wd := (ax_W a cI L)) (σ := u5) (q0 := 7) (ci := 0) (T := TX0) (N := 4) (As := [.int x1, .int x2]) (rest := []) hx hb hml hown hts hK hP (kt_X0_byteOf hD hc9) cw_X10_252 rfl rfl ⟨Nat.le_of_ble_eq_true rfl, Nat.le_of_ble_eq_true rfl⟩ rfl rfl rfl hl.1 rfl (Nat.le_of_ble_eq_true rfl) dX10_byteAt_90) hS (fun H locs hP hS => ?_)
        exact sx_reti (Wd := (ax_W a cI L)) (σ := u8) hx hb hr hF hP hS hlocks dX10_byteAt_93
      · exact hB80 u5 ls (lv_sub hl [] rfl) hF _ _ hP hS
  have hB40 : ∀ (x1 : Int32) (x2 : Int32) (x3 : Int32) (u : q_St) (ls : Array Slot), lv_has ls 4 [(0, .ref (a 0)), (1, .int x1), (2, .int x2), (3, .int x3)] → fX10_byteAt_b40 L N x1 x2 x3 u = some (r0, σ0) → ∀ (H : Heap) (locs : List Loc), va_P D vwCl (ax_W a cI L u) H → va_S (ax_A a) s.heap H locs → W p l e (headSpec (Cond.code yX10_byteAt cX10_byteAt 4 (some .int) :: q_T) ({ frames := 6, cells := 0, slots := 0, locals := 138 } : Room)).room s m ([.ref (a 0), .int o1, .int o2] : List Value).toArray below meth c H locs 0 0 (MQ below (q_Qi D vwCl (ax_W a cI L) (ax_A a) r0 σ0) ([.ref (a 0), .int o1, .int o2] : List Value).toArray s 0 0 (ax_A a)) (F0 m 40 ls []) := by
    intro x1 x2 x3 u ls hl hF _ _ hP hS
    unfold fX10_byteAt_b40 at hF
    refine lv_iload_n hx hb dX10_byteAt_40 rfl (lv_at hl 3 rfl) ?_
    refine lv_iconst (v := 4) hx hb dX10_byteAt_41 (by decide) ?_
    refine sx_icmp_eq (tgt := 64) hx hb hF dX10_byteAt_42 (by decide) (fun hF => ?_) (fun hF => ?_)
    · exact hB64 x1 x2 u ls (lv_sub hl [0, 1, 2] rfl) hF _ _ hP hS
    · refine lv_aload_n hx hb dX10_byteAt_45 rfl (lv_at hl 0 rfl) ?_
      refine gx_h_nodes hx hb hts hown hK hP fl_X10_71 dX10_byteAt_46 ?_
      refine lv_iload_n hx hb dX10_byteAt_49 rfl (lv_at hl 1 rfl) ?_
      refine lv_iconst (v := 4) hx hb dX10_byteAt_50 (by decide) ?_
      refine lv_aload_n hx hb dX10_byteAt_51 rfl (lv_at hl 0 rfl) ?_
      refine gx_h_who hx hb hts hown hK hP fl_X10_113 dX10_byteAt_52 ?_
      obtain ⟨r10, u11, hc12, hF⟩ := q_bnd_some hF
      refine sx_ci (Wd := (ax_W a cI L)) (σ1 := u11) (q_runV (Wd := (ax_W a cI L)) (σ := u) (q0 := 5) (ci := 4) (T := TX4) (N := 2) (As := [.int x1, .int 4, .int (q_i u 0)]) (rest := []) hx hb hml hown hts hK hP (kt_X4_may hD hc12) cw_X10_176 rfl rfl ⟨Nat.le_of_ble_eq_true rfl, Nat.le_of_ble_eq_true rfl⟩ rfl rfl rfl hl.1 rfl (Nat.le_of_ble_eq_true rfl) dX10_byteAt_55) hS (fun H locs hP hS => ?_)
      refine sx_if_ne (tgt := 64) hx hb hF dX10_byteAt_58 (by decide) (fun hF => ?_) (fun hF => ?_)
      · exact hB64 x1 x2 u11 ls (lv_sub hl [0, 1, 2] rfl) hF _ _ hP hS
      · refine lv_bipush (v := (-20)) hx hb dX10_byteAt_61 (by decide) ?_
        exact sx_reti (Wd := (ax_W a cI L)) (σ := u11) hx hb hr hF hP hS hlocks dX10_byteAt_63
  unfold fX10_byteAt at hF
  refine lv_aload_n hx hb dX10_byteAt_0 rfl (lv_at hl 0 rfl) ?_
  refine gx_h_disk hx hb hts hown hK hP fl_X10_53 dX10_byteAt_1 ?_
  refine gx_disk_on hx hb hts hown hK hP fl_X10_122 dX10_byteAt_4 ?_
  refine sx_if_ne (tgt := 13) hx hb hF dX10_byteAt_7 (by decide) (fun hF => ?_) (fun hF => ?_)
  · refine lv_aload_n hx hb dX10_byteAt_13 rfl (lv_at hl 0 rfl) ?_
    refine gx_h_nodes hx hb hts hown hK hP fl_X10_71 dX10_byteAt_14 ?_
    refine lv_iload_n hx hb dX10_byteAt_17 rfl (lv_at hl 1 rfl) ?_
    obtain ⟨r1, u2, hc3, hF⟩ := q_bnd_some hF
    refine sx_ci (Wd := (ax_W a cI L)) (σ1 := u2) (q_runV (Wd := (ax_W a cI L)) (σ := u) (q0 := 5) (ci := 4) (T := TX4) (N := 2) (As := [.int o1]) (rest := []) hx hb hml hown hts hK hP (kt_X4_kindOf hD hc3) cw_X10_173 rfl rfl ⟨Nat.le_of_ble_eq_true rfl, Nat.le_of_ble_eq_true rfl⟩ rfl rfl rfl hl.1 rfl (Nat.le_of_ble_eq_true rfl) dX10_byteAt_18) hS (fun H locs hP hS => ?_)
    refine lv_istore_n (lv' := [(3, .int r1), (0, .ref (a 0)), (1, .int o1), (2, .int o2)]) hx hb dX10_byteAt_21 rfl hl (by decide) rfl (fun ls hl => ?_)
    refine lv_iload_n hx hb dX10_byteAt_22 rfl (lv_at hl 0 rfl) ?_
    refine lv_iconst (v := 1) hx hb dX10_byteAt_23 (by decide) ?_
    refine sx_icmp_eq (tgt := 40) hx hb hF dX10_byteAt_24 (by decide) (fun hF => ?_) (fun hF => ?_)
    · exact hB40 o1 o2 r1 u2 ls (lv_sub hl [1, 2, 3, 0] rfl) hF _ _ hP hS
    · refine lv_iload_n hx hb dX10_byteAt_27 rfl (lv_at hl 0 rfl) ?_
      refine lv_iconst (v := 3) hx hb dX10_byteAt_28 (by decide) ?_
      refine sx_icmp_eq (tgt := 40) hx hb hF dX10_byteAt_29 (by decide) (fun hF => ?_) (fun hF => ?_)
      · exact hB40 o1 o2 r1 u2 ls (lv_sub hl [1, 2, 3, 0] rfl) hF _ _ hP hS
      · refine lv_iload_n hx hb dX10_byteAt_32 rfl (lv_at hl 0 rfl) ?_
        refine lv_iconst (v := 4) hx hb dX10_byteAt_33 (by decide) ?_
        refine sx_icmp_eq (tgt := 40) hx hb hF dX10_byteAt_34 (by decide) (fun hF => ?_) (fun hF => ?_)
        · exact hB40 o1 o2 r1 u2 ls (lv_sub hl [1, 2, 3, 0] rfl) hF _ _ hP hS
        · refine lv_bipush (v := (-14)) hx hb dX10_byteAt_37 (by decide) ?_
          exact sx_reti (Wd := (ax_W a cI L)) (σ := u2) hx hb hr hF hP hS hlocks dX10_byteAt_39
  · refine lv_bipush (v := (-99)) hx hb dX10_byteAt_10 (by decide) ?_
    exact sx_reti (Wd := (ax_W a cI L)) (σ := u) hx hb hr hF hP hS hlocks dX10_byteAt_12
set_option maxHeartbeats 4000000 in
set_option maxRecDepth 100000 in
theorem kt_J7_fill_29 {N : Nat} {l : Launch} {D : va_G} {a : Nat → Nat} {cI : Nat → ClassId} {L : Nat → Nat} (hD : ∀ σ, va_D (ax_A a) (ax_W a cI L σ)) {o1 : Int32} {u σ0 : q_St} {r0 : Unit} (hF : fJ7_fill_29 L N o1 u = some (r0, σ0)) : Met l yJ7_fill_53178 (Cond.code yJ7_fill_53178 cJ7_fill_53178 4 none :: q_T) ({ frames := 0, cells := 0, slots := 0, locals := 0 } : Room) (q_P D vwCl (ax_T cI) (ax_W a cI L) [.ref (a 29), .int o1] u) (q_Qv D vwCl (ax_W a cI L) (ax_A a) σ0) 0 0 (ax_A a) := by
  refine Met.ofW (cc := cJ7_fill_53178) (maxL := 4) (ret := none) (by decide) rfl ?_
  intro p e s m args below meth c s₁ B hml hv
  obtain ⟨rfl, hP, hK⟩ := hv
  have hx := B.exec
  have hb := B.bytes
  have hr := B.returns
  have hts := q_ts (atoms_spec (ws := Cond.code yJ7_fill_53178 cJ7_fill_53178 4 none :: q_T) B.pre)
  have hown : s.vm.findClass RJ7 = some m.cls := findClass_of_methodNamed B.named
  have hlocks := B.notSynchronized
  have hS : va_S (ax_A a) s.heap s.heap [] := va_S.rf
  have hl := lv_entry ([.ref (a 29), .int o1]) (n := 4) (Nat.le_of_ble_eq_true rfl)
  rw [lg_entry_eq]
  generalize (lg_sl ([.ref (a 29), .int o1]) ++ List.replicate (4 - (lg_sl ([.ref (a 29), .int o1])).length) Slot.unset).toArray = ls at hl ⊢
  have hl : lv_has ls 4 [(0, .ref (a 29)), (1, .int o1)] := hl
  have hB5 : ∀ (n : Nat) (x1 : Int32) (x2 : Int32) (x3 : Int32) (u : q_St) (ls : Array Slot), lv_has ls 4 [(0, .ref (a 29)), (1, .int x1), (2, .int x2), (3, .int x3)] → q_lp (fJ7_fill_29_b5 L N) (fun _ _ _ _ => none) n x1 x2 x3 u = some (r0, σ0) → ∀ (H : Heap) (locs : List Loc), va_P D vwCl (ax_W a cI L u) H → va_S (ax_A a) s.heap H locs → W p l e (headSpec (Cond.code yJ7_fill_53178 cJ7_fill_53178 4 none :: q_T) ({ frames := 0, cells := 0, slots := 0, locals := 0 } : Room)).room s m ([.ref (a 29), .int o1] : List Value).toArray below meth c H locs 0 0 (MQ below (q_Qv D vwCl (ax_W a cI L) (ax_A a) σ0) ([.ref (a 29), .int o1] : List Value).toArray s 0 0 (ax_A a)) (F0 m 5 ls []) := by
    intro n
    induction n with
    | zero => intro x1 x2 x3 u ls hl hF; exact absurd (show (none : Option (Unit × q_St)) = some _ from hF) (fun h => nomatch h)
    | succ n hi5 =>
      intro x1 x2 x3 u ls hl hF _ _ hP hS
      obtain ⟨ih5, hih⟩ : ∃ q, q = q_lp (fJ7_fill_29_b5 L N) (fun _ _ _ _ => none) n := ⟨_, rfl⟩
      rw [← hih] at hi5
      have hF : fJ7_fill_29_b5 L N (q_lp (fJ7_fill_29_b5 L N) (fun _ _ _ _ => none) n) x1 x2 x3 u = some (r0, σ0) := hF
      rw [← hih] at hF
      clear hih
      unfold fJ7_fill_29_b5 at hF
      refine lv_iload_n hx hb dJ7_fill_53178_5 rfl (lv_at hl 2 rfl) ?_
      refine lv_iload_n hx hb dJ7_fill_53178_6 rfl (lv_at hl 3 rfl) ?_
      refine sx_icmp_ge (tgt := 20) hx hb hF dJ7_fill_53178_7 (by decide) (fun hF => ?_) (fun hF => ?_)
      · exact sx_retv (Wd := (ax_W a cI L)) (σ := u) hx hb hr hF hP hS hlocks dJ7_fill_53178_20
      · refine lv_aload_n hx hb dJ7_fill_53178_10 rfl (lv_at hl 0 rfl) ?_
        refine lv_iload_n hx hb dJ7_fill_53178_11 rfl (lv_at hl 2 rfl) ?_
        refine lv_iload_n hx hb dJ7_fill_53178_12 rfl (lv_at hl 1 rfl) ?_
        refine ux_checker_uses hx hb hK hP hD hS hF dJ7_fill_53178_13 (fun u2 H locs hF hP hS => ?_)
        refine sx_iinc (d := 1) (k := 2) (lv2 := [(0, .ref (a 29)), (1, .int x1), (3, .int x3)]) hx hb hF dJ7_fill_53178_14 hl rfl (by decide) (by decide) rfl (fun v3 hF ls hl => ?_)
        refine lv_goto (tgt := 5) hx hb dJ7_fill_53178_17 (by decide) ?_
        exact hi5 x1 v3 x3 u2 ls (lv_sub hl [1, 2, 0, 3] rfl) hF _ _ hP hS
  unfold fJ7_fill_29 at hF
  refine lv_iconst (v := 0) hx hb dJ7_fill_53178_0 (by decide) ?_
  refine lv_istore_n (lv' := [(2, .int 0), (0, .ref (a 29)), (1, .int o1)]) hx hb dJ7_fill_53178_1 rfl hl (by decide) rfl (fun ls hl => ?_)
  refine lv_aload_n hx hb dJ7_fill_53178_2 rfl (lv_at hl 1 rfl) ?_
  refine nx_checker_uses hx hb hK hP dJ7_fill_53178_3 ?_
  refine sx_istore_n (lv2 := [(2, .int 0), (0, .ref (a 29)), (1, .int o1)]) hx hb hF dJ7_fill_53178_4 rfl hl (by decide) rfl (fun v1 hF ls hl => ?_)
  exact hB5 N o1 0 v1 u ls (lv_sub hl [2, 3, 1, 0] rfl) hF _ _ hP hS
