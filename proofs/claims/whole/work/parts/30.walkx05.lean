set_option maxHeartbeats 4000000 in
set_option maxRecDepth 100000 in
theorem kt_X5_giveBackBand {N : Nat} {l : Launch} {D : va_G} {a : Nat → Nat} {cI : Nat → ClassId} {L : Nat → Nat} (hD : ∀ σ, va_D (ax_A a) (ax_W a cI L σ)) {o1 : Int32} {u σ0 : q_St} {r0 : Int32} (hF : fX5_giveBackBand L N o1 u = some (r0, σ0)) : Met l yX5_giveBackBand (Cond.code yX5_giveBackBand cX5_giveBackBand 4 (some .int) :: q_T) ({ frames := 3, cells := 0, slots := 0, locals := 78 } : Room) (q_P D vwCl (ax_T cI) (ax_W a cI L) [.ref (a 4), .int o1] u) (q_Qi D vwCl (ax_W a cI L) (ax_A a) r0 σ0) 0 0 (ax_A a) := by
  refine Met.ofW (cc := cX5_giveBackBand) (maxL := 4) (ret := (some .int)) (by decide) rfl ?_
  intro p e s m args below meth c s₁ B hml hv
  obtain ⟨rfl, hP, hK⟩ := hv
  have hx := B.exec
  have hb := B.bytes
  have hr := B.returns
  have hts := q_ts (atoms_spec (ws := Cond.code yX5_giveBackBand cX5_giveBackBand 4 (some .int) :: q_T) B.pre)
  have hown : s.vm.findClass RX5 = some m.cls := findClass_of_methodNamed B.named
  have hlocks := B.notSynchronized
  have hS : va_S (ax_A a) s.heap s.heap [] := va_S.rf
  have hl := lv_entry ([.ref (a 4), .int o1]) (n := 4) (Nat.le_of_ble_eq_true rfl)
  rw [lg_entry_eq]
  generalize (lg_sl ([.ref (a 4), .int o1]) ++ List.replicate (4 - (lg_sl ([.ref (a 4), .int o1])).length) Slot.unset).toArray = ls at hl ⊢
  have hl : lv_has ls 4 [(0, .ref (a 4)), (1, .int o1)] := hl
  have hB9 : ∀ (n : Nat) (x2 : Int32) (x3 : Int32) (u : q_St) (ls : Array Slot), lv_has ls 4 [(0, .ref (a 4)), (2, .int x2), (3, .int x3)] → q_lp (fX5_giveBackBand_b9 L N) (fun _ _ _ => none) n x2 x3 u = some (r0, σ0) → ∀ (H : Heap) (locs : List Loc), va_P D vwCl (ax_W a cI L u) H → va_S (ax_A a) s.heap H locs → W p l e (headSpec (Cond.code yX5_giveBackBand cX5_giveBackBand 4 (some .int) :: q_T) ({ frames := 3, cells := 0, slots := 0, locals := 78 } : Room)).room s m ([.ref (a 4), .int o1] : List Value).toArray below meth c H locs 0 0 (MQ below (q_Qi D vwCl (ax_W a cI L) (ax_A a) r0 σ0) ([.ref (a 4), .int o1] : List Value).toArray s 0 0 (ax_A a)) (F0 m 9 ls []) := by
    intro n
    induction n with
    | zero => intro x2 x3 u ls hl hF; exact absurd (show (none : Option (Int32 × q_St)) = some _ from hF) (fun h => nomatch h)
    | succ n hi9 =>
      intro x2 x3 u ls hl hF _ _ hP hS
      obtain ⟨ih9, hih⟩ : ∃ q, q = q_lp (fX5_giveBackBand_b9 L N) (fun _ _ _ => none) n := ⟨_, rfl⟩
      rw [← hih] at hi9
      have hF : fX5_giveBackBand_b9 L N (q_lp (fX5_giveBackBand_b9 L N) (fun _ _ _ => none) n) x2 x3 u = some (r0, σ0) := hF
      rw [← hih] at hF
      clear hih
      unfold fX5_giveBackBand_b9 at hF
      refine lv_iload_n hx hb dX5_giveBackBand_9 rfl (lv_at hl 2 rfl) ?_
      refine lv_iload_n hx hb dX5_giveBackBand_10 rfl (lv_at hl 1 rfl) ?_
      refine lv_aload_n hx hb dX5_giveBackBand_11 rfl (lv_at hl 0 rfl) ?_
      refine gx_space_bandSize hx hb hts hown hK hP fl_X5_25 dX5_giveBackBand_12 ?_
      refine lv_iadd hx hb dX5_giveBackBand_15 ?_
      refine sx_icmp_ge (tgt := 30) hx hb hF dX5_giveBackBand_16 (by decide) (fun hF => ?_) (fun hF => ?_)
      · refine lv_aload_n hx hb dX5_giveBackBand_30 rfl (lv_at hl 0 rfl) ?_
        refine gx_space_bandSize hx hb hts hown hK hP fl_X5_25 dX5_giveBackBand_31 ?_
        exact sx_reti (Wd := (ax_W a cI L)) (σ := u) hx hb hr hF hP hS hlocks dX5_giveBackBand_34
      · refine lv_aload_n hx hb dX5_giveBackBand_19 rfl (lv_at hl 0 rfl) ?_
        refine lv_iload_n hx hb dX5_giveBackBand_20 rfl (lv_at hl 2 rfl) ?_
        obtain ⟨r2, u3, hc4, hF⟩ := q_bnd_some hF
        refine sx_cv (Wd := (ax_W a cI L)) (σ1 := u3) (q_runV (Wd := (ax_W a cI L)) (σ := u) (q0 := 4) (ci := 5) (T := TX5) (N := 6) (As := [.int x3]) (rest := []) hx hb hml hown hts hK hP (kt_X5_giveBack hD hc4) cw_X5_73 rfl rfl ⟨Nat.le_of_ble_eq_true rfl, Nat.le_of_ble_eq_true rfl⟩ rfl rfl rfl hl.1 rfl (Nat.le_of_ble_eq_true rfl) dX5_giveBackBand_21) hS (fun H locs hP hS => ?_)
        refine sx_iinc (d := 1) (k := 2) (lv2 := [(0, .ref (a 4)), (2, .int x2)]) hx hb hF dX5_giveBackBand_24 hl rfl (by decide) (by decide) rfl (fun v5 hF ls hl => ?_)
        refine lv_goto (tgt := 9) hx hb dX5_giveBackBand_27 (by decide) ?_
        exact hi9 x2 v5 u3 ls (lv_sub hl [1, 2, 0] rfl) hF _ _ hP hS
  unfold fX5_giveBackBand at hF
  refine lv_iload_n hx hb dX5_giveBackBand_0 rfl (lv_at hl 1 rfl) ?_
  refine lv_aload_n hx hb dX5_giveBackBand_1 rfl (lv_at hl 0 rfl) ?_
  refine gx_space_bandSize hx hb hts hown hK hP fl_X5_25 dX5_giveBackBand_2 ?_
  refine lv_imul hx hb dX5_giveBackBand_5 ?_
  refine sx_istore_n (lv2 := [(0, .ref (a 4)), (1, .int o1)]) hx hb hF dX5_giveBackBand_6 rfl hl (by decide) rfl (fun v1 hF ls hl => ?_)
  refine lv_iload_n hx hb dX5_giveBackBand_7 rfl (lv_at hl 0 rfl) ?_
  refine lv_istore_n (lv' := [(3, .int v1), (2, .int v1), (0, .ref (a 4)), (1, .int o1)]) hx hb dX5_giveBackBand_8 rfl hl (by decide) rfl (fun ls hl => ?_)
  exact hB9 N v1 v1 u ls (lv_sub hl [2, 1, 0] rfl) hF _ _ hP hS
set_option maxHeartbeats 4000000 in
set_option maxRecDepth 100000 in
theorem kt_X0_dropOne {N : Nat} {l : Launch} {D : va_G} {a : Nat → Nat} {cI : Nat → ClassId} {L : Nat → Nat} (hD : ∀ σ, va_D (ax_A a) (ax_W a cI L σ)) {o1 : Int32} {u σ0 : q_St} {r0 : Int32} (hF : fX0_dropOne L N o1 u = some (r0, σ0)) : Met l yX0_dropOne (Cond.code yX0_dropOne cX0_dropOne 6 (some .int) :: q_T) ({ frames := 6, cells := 0, slots := 0, locals := 157 } : Room) (q_P D vwCl (ax_T cI) (ax_W a cI L) [.ref (a 7), .int o1] u) (q_Qi D vwCl (ax_W a cI L) (ax_A a) r0 σ0) 0 0 (ax_A a) := by
  refine Met.ofW (cc := cX0_dropOne) (maxL := 6) (ret := (some .int)) (by decide) rfl ?_
  intro p e s m args below meth c s₁ B hml hv
  obtain ⟨rfl, hP, hK⟩ := hv
  have hx := B.exec
  have hb := B.bytes
  have hr := B.returns
  have hts := q_ts (atoms_spec (ws := Cond.code yX0_dropOne cX0_dropOne 6 (some .int) :: q_T) B.pre)
  have hown : s.vm.findClass RX0 = some m.cls := findClass_of_methodNamed B.named
  have hlocks := B.notSynchronized
  have hS : va_S (ax_A a) s.heap s.heap [] := va_S.rf
  have hl := lv_entry ([.ref (a 7), .int o1]) (n := 6) (Nat.le_of_ble_eq_true rfl)
  rw [lg_entry_eq]
  generalize (lg_sl ([.ref (a 7), .int o1]) ++ List.replicate (6 - (lg_sl ([.ref (a 7), .int o1])).length) Slot.unset).toArray = ls at hl ⊢
  have hl : lv_has ls 6 [(0, .ref (a 7)), (1, .int o1)] := hl
  have hB106 : ∀ (x4 : Int32) (x5 : Int32) (u : q_St) (ls : Array Slot), lv_has ls 6 [(0, .ref (a 7)), (4, .int x4), (5, .int x5)] → fX0_dropOne_b106 L N x4 x5 u = some (r0, σ0) → ∀ (H : Heap) (locs : List Loc), va_P D vwCl (ax_W a cI L u) H → va_S (ax_A a) s.heap H locs → W p l e (headSpec (Cond.code yX0_dropOne cX0_dropOne 6 (some .int) :: q_T) ({ frames := 6, cells := 0, slots := 0, locals := 157 } : Room)).room s m ([.ref (a 7), .int o1] : List Value).toArray below meth c H locs 0 0 (MQ below (q_Qi D vwCl (ax_W a cI L) (ax_A a) r0 σ0) ([.ref (a 7), .int o1] : List Value).toArray s 0 0 (ax_A a)) (F0 m 106 ls []) := by
    intro x4 x5 u ls hl hF _ _ hP hS
    unfold fX0_dropOne_b106 at hF
    refine lv_aload_n hx hb dX0_dropOne_106 rfl (lv_at hl 0 rfl) ?_
    refine gx_bodies_store hx hb hts hown hK hP fl_X0_11 dX0_dropOne_107 ?_
    refine lv_iload hx hb dX0_dropOne_110 (lv_at hl 1 rfl) ?_
    obtain ⟨r10, u11, hc12, hF⟩ := q_bnd_some hF
    refine sx_cv (Wd := (ax_W a cI L)) (σ1 := u11) (q_runV (Wd := (ax_W a cI L)) (σ := u) (q0 := 3) (ci := 6) (T := TX6) (N := 9) (As := [.int x4]) (rest := []) hx hb hml hown hts hK hP (kt_X6_clear hD hc12) cw_X0_129 rfl rfl ⟨Nat.le_of_ble_eq_true rfl, Nat.le_of_ble_eq_true rfl⟩ rfl rfl rfl hl.1 rfl (Nat.le_of_ble_eq_true rfl) dX0_dropOne_112) hS (fun H locs hP hS => ?_)
    refine lv_iload hx hb dX0_dropOne_115 (lv_at hl 2 rfl) ?_
    exact sx_reti (Wd := (ax_W a cI L)) (σ := u11) hx hb hr hF hP hS hlocks dX0_dropOne_117
  unfold fX0_dropOne at hF
  refine lv_aload_n hx hb dX0_dropOne_0 rfl (lv_at hl 0 rfl) ?_
  refine gx_bodies_nodes hx hb hts hown hK hP fl_X0_19 dX0_dropOne_1 ?_
  refine lv_iload_n hx hb dX0_dropOne_4 rfl (lv_at hl 1 rfl) ?_
  obtain ⟨r1, u2, hc3, hF⟩ := q_bnd_some hF
  refine sx_ci (Wd := (ax_W a cI L)) (σ1 := u2) (q_runV (Wd := (ax_W a cI L)) (σ := u) (q0 := 5) (ci := 4) (T := TX4) (N := 2) (As := [.int o1]) (rest := []) hx hb hml hown hts hK hP (kt_X4_linksOf hD hc3) cw_X0_120 rfl rfl ⟨Nat.le_of_ble_eq_true rfl, Nat.le_of_ble_eq_true rfl⟩ rfl rfl rfl hl.1 rfl (Nat.le_of_ble_eq_true rfl) dX0_dropOne_5) hS (fun H locs hP hS => ?_)
  refine lv_istore_n (lv' := [(2, .int r1), (0, .ref (a 7)), (1, .int o1)]) hx hb dX0_dropOne_8 rfl hl (by decide) rfl (fun ls hl => ?_)
  refine lv_iload_n hx hb dX0_dropOne_9 rfl (lv_at hl 0 rfl) ?_
  refine lv_iconst (v := 1) hx hb dX0_dropOne_10 (by decide) ?_
  refine sx_icmp_le (tgt := 27) hx hb hF dX0_dropOne_11 (by decide) (fun hF => ?_) (fun hF => ?_)
  · refine lv_aload_n hx hb dX0_dropOne_27 rfl (lv_at hl 1 rfl) ?_
    refine gx_bodies_nodes hx hb hts hown hK hP fl_X0_19 dX0_dropOne_28 ?_
    refine lv_iload_n hx hb dX0_dropOne_31 rfl (lv_at hl 2 rfl) ?_
    obtain ⟨r4, u5, hc6, hF⟩ := q_bnd_some hF
    refine sx_ci (Wd := (ax_W a cI L)) (σ1 := u5) (q_runV (Wd := (ax_W a cI L)) (σ := u2) (q0 := 5) (ci := 4) (T := TX4) (N := 2) (As := [.int o1]) (rest := []) hx hb hml hown hts hK hP (kt_X4_kindOf hD hc6) cw_X0_27 rfl rfl ⟨Nat.le_of_ble_eq_true rfl, Nat.le_of_ble_eq_true rfl⟩ rfl rfl rfl hl.1 rfl (Nat.le_of_ble_eq_true rfl) dX0_dropOne_32) hS (fun H locs hP hS => ?_)
    refine lv_istore_n (lv' := [(3, .int r4), (2, .int r1), (0, .ref (a 7)), (1, .int o1)]) hx hb dX0_dropOne_35 rfl hl (by decide) rfl (fun ls hl => ?_)
    refine lv_aload_n hx hb dX0_dropOne_36 rfl (lv_at hl 2 rfl) ?_
    refine gx_bodies_nodes hx hb hts hown hK hP fl_X0_19 dX0_dropOne_37 ?_
    refine lv_iload_n hx hb dX0_dropOne_40 rfl (lv_at hl 3 rfl) ?_
    obtain ⟨r7, u8, hc9, hF⟩ := q_bnd_some hF
    refine sx_ci (Wd := (ax_W a cI L)) (σ1 := u8) (q_runV (Wd := (ax_W a cI L)) (σ := u5) (q0 := 5) (ci := 4) (T := TX4) (N := 2) (As := [.int o1]) (rest := []) hx hb hml hown hts hK hP (kt_X4_sectorOf hD hc9) cw_X0_36 rfl rfl ⟨Nat.le_of_ble_eq_true rfl, Nat.le_of_ble_eq_true rfl⟩ rfl rfl rfl hl.1 rfl (Nat.le_of_ble_eq_true rfl) dX0_dropOne_41) hS (fun H locs hP hS => ?_)
    refine lv_istore (lv' := [(4, .int r7), (3, .int r4), (2, .int r1), (0, .ref (a 7)), (1, .int o1)]) hx hb dX0_dropOne_44 hl (by decide) rfl (fun ls hl => ?_)
    refine lv_iconst (v := 0) hx hb dX0_dropOne_46 (by decide) ?_
    refine lv_istore (lv' := [(5, .int 0), (4, .int r7), (3, .int r4), (2, .int r1), (0, .ref (a 7)), (1, .int o1)]) hx hb dX0_dropOne_47 hl (by decide) rfl (fun ls hl => ?_)
    refine lv_iload_n hx hb dX0_dropOne_49 rfl (lv_at hl 2 rfl) ?_
    refine lv_iconst (v := 1) hx hb dX0_dropOne_50 (by decide) ?_
    refine sx_icmp_ne (tgt := 65) hx hb hF dX0_dropOne_51 (by decide) (fun hF => ?_) (fun hF => ?_)
    · refine lv_iload_n hx hb dX0_dropOne_65 rfl (lv_at hl 2 rfl) ?_
      refine lv_iconst (v := 3) hx hb dX0_dropOne_66 (by decide) ?_
      refine sx_icmp_ne (tgt := 90) hx hb hF dX0_dropOne_67 (by decide) (fun hF => ?_) (fun hF => ?_)
      · refine lv_iload_n hx hb dX0_dropOne_90 rfl (lv_at hl 2 rfl) ?_
        refine lv_iconst (v := 2) hx hb dX0_dropOne_91 (by decide) ?_
        refine sx_icmp_ne (tgt := 106) hx hb hF dX0_dropOne_92 (by decide) (fun hF => ?_) (fun hF => ?_)
        · exact hB106 r7 0 u8 ls (lv_sub hl [4, 1, 0] rfl) hF _ _ hP hS
        · refine lv_aload_n hx hb dX0_dropOne_95 rfl (lv_at hl 4 rfl) ?_
          refine lv_iload hx hb dX0_dropOne_96 (lv_at hl 1 rfl) ?_
          refine lv_iconst (v := 4) hx hb dX0_dropOne_98 (by decide) ?_
          refine lv_bipush (v := 16) hx hb dX0_dropOne_99 (by decide) ?_
          obtain ⟨r13, u14, hc15, hF⟩ := q_bnd_some hF
          refine sx_ci (Wd := (ax_W a cI L)) (σ1 := u14) (q_runV (Wd := (ax_W a cI L)) (σ := u8) (q0 := 7) (ci := 0) (T := TX0) (N := 4) (As := [.int r7, .int 4, .int 16]) (rest := []) hx hb hml hown hts hK hP (kt_X0_giveBackTold hD hc15) cw_X0_99 rfl rfl ⟨Nat.le_of_ble_eq_true rfl, Nat.le_of_ble_eq_true rfl⟩ rfl rfl rfl hl.1 rfl (Nat.le_of_ble_eq_true rfl) dX0_dropOne_101) hS (fun H locs hP hS => ?_)
          refine lv_istore (lv' := [(5, .int r13), (4, .int r7), (3, .int r4), (2, .int r1), (0, .ref (a 7)), (1, .int o1)]) hx hb dX0_dropOne_104 hl (by decide) rfl (fun ls hl => ?_)
          exact hB106 r7 r13 u14 ls (lv_sub hl [4, 1, 0] rfl) hF _ _ hP hS
      · refine lv_aload_n hx hb dX0_dropOne_70 rfl (lv_at hl 4 rfl) ?_
        refine gx_bodies_space hx hb hts hown hK hP fl_X0_15 dX0_dropOne_71 ?_
        refine lv_aload_n hx hb dX0_dropOne_74 rfl (lv_at hl 4 rfl) ?_
        refine gx_bodies_nodes hx hb hts hown hK hP fl_X0_19 dX0_dropOne_75 ?_
        refine lv_iload_n hx hb dX0_dropOne_78 rfl (lv_at hl 5 rfl) ?_
        obtain ⟨r16, u17, hc18, hF⟩ := q_bnd_some hF
        refine sx_ci (Wd := (ax_W a cI L)) (σ1 := u17) (q_runV (Wd := (ax_W a cI L)) (σ := u8) (q0 := 5) (ci := 4) (T := TX4) (N := 2) (As := [.int o1]) (rest := [.ref (a 4)]) hx hb hml hown hts hK hP (kt_X4_holderOf hD hc18) cw_X0_51 rfl rfl ⟨Nat.le_of_ble_eq_true rfl, Nat.le_of_ble_eq_true rfl⟩ rfl rfl rfl hl.1 rfl (Nat.le_of_ble_eq_true rfl) dX0_dropOne_79) hS (fun H locs hP hS => ?_)
        obtain ⟨r19, u20, hc21, hF⟩ := q_bnd_some hF
        refine sx_ci (Wd := (ax_W a cI L)) (σ1 := u20) (q_runV (Wd := (ax_W a cI L)) (σ := u17) (q0 := 4) (ci := 5) (T := TX5) (N := 6) (As := [.int r16]) (rest := []) hx hb hml hown hts hK hP (kt_X5_giveBackBand hD hc21) cw_X0_126 rfl rfl ⟨Nat.le_of_ble_eq_true rfl, Nat.le_of_ble_eq_true rfl⟩ rfl rfl rfl hl.1 rfl (Nat.le_of_ble_eq_true rfl) dX0_dropOne_82) hS (fun H locs hP hS => ?_)
        refine lv_istore (lv' := [(5, .int r19), (4, .int r7), (3, .int r4), (2, .int r1), (0, .ref (a 7)), (1, .int o1)]) hx hb dX0_dropOne_85 hl (by decide) rfl (fun ls hl => ?_)
        refine lv_goto (tgt := 106) hx hb dX0_dropOne_87 (by decide) ?_
        exact hB106 r7 r19 u20 ls (lv_sub hl [4, 1, 0] rfl) hF _ _ hP hS
    · refine lv_aload_n hx hb dX0_dropOne_54 rfl (lv_at hl 4 rfl) ?_
      refine lv_iload_n hx hb dX0_dropOne_55 rfl (lv_at hl 5 rfl) ?_
      refine lv_iconst (v := 0) hx hb dX0_dropOne_56 (by decide) ?_
      obtain ⟨r22, u23, hc24, hF⟩ := q_bnd_some hF
      refine sx_ci (Wd := (ax_W a cI L)) (σ1 := u23) (q_runV (Wd := (ax_W a cI L)) (σ := u8) (q0 := 7) (ci := 0) (T := TX0) (N := 4) (As := [.int o1, .int 0]) (rest := []) hx hb hml hown hts hK hP (kt_X0_giveBackFrom hD hc24) cw_X0_91 rfl rfl ⟨Nat.le_of_ble_eq_true rfl, Nat.le_of_ble_eq_true rfl⟩ rfl rfl rfl hl.1 rfl (Nat.le_of_ble_eq_true rfl) dX0_dropOne_57) hS (fun H locs hP hS => ?_)
      refine lv_istore (lv' := [(5, .int r22), (4, .int r7), (3, .int r4), (2, .int r1), (0, .ref (a 7)), (1, .int o1)]) hx hb dX0_dropOne_60 hl (by decide) rfl (fun ls hl => ?_)
      refine lv_goto (tgt := 106) hx hb dX0_dropOne_62 (by decide) ?_
      exact hB106 r7 r22 u23 ls (lv_sub hl [4, 1, 0] rfl) hF _ _ hP hS
  · refine lv_aload_n hx hb dX0_dropOne_14 rfl (lv_at hl 1 rfl) ?_
    refine gx_bodies_nodes hx hb hts hown hK hP fl_X0_19 dX0_dropOne_15 ?_
    refine lv_iload_n hx hb dX0_dropOne_18 rfl (lv_at hl 2 rfl) ?_
    refine lv_iload_n hx hb dX0_dropOne_19 rfl (lv_at hl 0 rfl) ?_
    refine lv_iconst (v := 1) hx hb dX0_dropOne_20 (by decide) ?_
    refine lv_isub hx hb dX0_dropOne_21 ?_
    obtain ⟨r25, u26, hc27, hF⟩ := q_bnd_some hF
    refine sx_cv (Wd := (ax_W a cI L)) (σ1 := u26) (q_runV (Wd := (ax_W a cI L)) (σ := u2) (q0 := 5) (ci := 4) (T := TX4) (N := 2) (As := [.int o1, .int (r1 - 1)]) (rest := []) hx hb hml hown hts hK hP (kt_X4_setLinks hD hc27) cw_X0_123 rfl rfl ⟨Nat.le_of_ble_eq_true rfl, Nat.le_of_ble_eq_true rfl⟩ rfl rfl rfl hl.1 rfl (Nat.le_of_ble_eq_true rfl) dX0_dropOne_22) hS (fun H locs hP hS => ?_)
    refine lv_iconst (v := 0) hx hb dX0_dropOne_25 (by decide) ?_
    exact sx_reti (Wd := (ax_W a cI L)) (σ := u26) hx hb hr hF hP hS hlocks dX0_dropOne_26
set_option maxHeartbeats 4000000 in
set_option maxRecDepth 100000 in
theorem kt_X3_nameAt {N : Nat} {l : Launch} {D : va_G} {a : Nat → Nat} {cI : Nat → ClassId} {L : Nat → Nat} (hD : ∀ σ, va_D (ax_A a) (ax_W a cI L σ)) {o1 : Int32} {o2 : Int32} {u σ0 : q_St} {r0 : Int64} (hF : fX3_nameAt L N o1 o2 u = some (r0, σ0)) : Met l yX3_nameAt (Cond.code yX3_nameAt cX3_nameAt 4 (some .long) :: q_T) ({ frames := 4, cells := 0, slots := 0, locals := 90 } : Room) (q_P D vwCl (ax_T cI) (ax_W a cI L) [.ref (a 6), .int o1, .int o2] u) (q_Ql D vwCl (ax_W a cI L) (ax_A a) r0 σ0) 0 0 (ax_A a) := by
  refine Met.ofW (cc := cX3_nameAt) (maxL := 4) (ret := (some .long)) (by decide) rfl ?_
  intro p e s m args below meth c s₁ B hml hv
  obtain ⟨rfl, hP, hK⟩ := hv
  have hx := B.exec
  have hb := B.bytes
  have hr := B.returns
  have hts := q_ts (atoms_spec (ws := Cond.code yX3_nameAt cX3_nameAt 4 (some .long) :: q_T) B.pre)
  have hown : s.vm.findClass RX3 = some m.cls := findClass_of_methodNamed B.named
  have hlocks := B.notSynchronized
  have hS : va_S (ax_A a) s.heap s.heap [] := va_S.rf
  have hl := lv_entry ([.ref (a 6), .int o1, .int o2]) (n := 4) (Nat.le_of_ble_eq_true rfl)
  rw [lg_entry_eq]
  generalize (lg_sl ([.ref (a 6), .int o1, .int o2]) ++ List.replicate (4 - (lg_sl ([.ref (a 6), .int o1, .int o2])).length) Slot.unset).toArray = ls at hl ⊢
  have hl : lv_has ls 4 [(0, .ref (a 6)), (1, .int o1), (2, .int o2)] := hl
  unfold fX3_nameAt at hF
  refine lv_aload_n hx hb dX3_nameAt_0 rfl (lv_at hl 0 rfl) ?_
  refine lv_iload_n hx hb dX3_nameAt_1 rfl (lv_at hl 1 rfl) ?_
  refine lv_iload_n hx hb dX3_nameAt_2 rfl (lv_at hl 2 rfl) ?_
  refine lv_iconst (v := 4) hx hb dX3_nameAt_3 (by decide) ?_
  refine lv_idiv hx hb dX3_nameAt_4 (by decide) ?_
  obtain ⟨r1, u2, hc3, hF⟩ := q_bnd_some hF
  refine sx_ci (Wd := (ax_W a cI L)) (σ1 := u2) (q_runV (Wd := (ax_W a cI L)) (σ := u) (q0 := 6) (ci := 3) (T := TX3) (N := 5) (As := [.int o1, .int (o2 / 4)]) (rest := []) hx hb hml hown hts hK hP (kt_X3_blockAt hD hc3) cw_X3_49 rfl rfl ⟨Nat.le_of_ble_eq_true rfl, Nat.le_of_ble_eq_true rfl⟩ rfl rfl rfl hl.1 rfl (Nat.le_of_ble_eq_true rfl) dX3_nameAt_5) hS (fun H locs hP hS => ?_)
  refine lv_istore_n (lv' := [(3, .int r1), (0, .ref (a 6)), (1, .int o1), (2, .int o2)]) hx hb dX3_nameAt_8 rfl hl (by decide) rfl (fun ls hl => ?_)
  refine lv_iload_n hx hb dX3_nameAt_9 rfl (lv_at hl 0 rfl) ?_
  refine sx_if_ne (tgt := 17) hx hb hF dX3_nameAt_10 (by decide) (fun hF => ?_) (fun hF => ?_)
  · refine lv_aload_n hx hb dX3_nameAt_17 rfl (lv_at hl 1 rfl) ?_
    refine gx_folders_store hx hb hts hown hK hP fl_X3_9 dX3_nameAt_18 ?_
    refine lv_iload_n hx hb dX3_nameAt_21 rfl (lv_at hl 0 rfl) ?_
    refine lv_iload_n hx hb dX3_nameAt_22 rfl (lv_at hl 3 rfl) ?_
    refine lv_iconst (v := 4) hx hb dX3_nameAt_23 (by decide) ?_
    refine lv_irem hx hb dX3_nameAt_24 (by decide) ?_
    obtain ⟨r4, u5, hc6, hF⟩ := q_bnd_some hF
    refine sx_cl (Wd := (ax_W a cI L)) (σ1 := u5) (q_runV (Wd := (ax_W a cI L)) (σ := u2) (q0 := 3) (ci := 6) (T := TX6) (N := 9) (As := [.int r1, .int (o2 - o2 / 4 * 4)]) (rest := []) hx hb hml hown hts hK hP (kt_X6_word hD hc6) cw_X3_52 rfl rfl ⟨Nat.le_of_ble_eq_true rfl, Nat.le_of_ble_eq_true rfl⟩ rfl rfl rfl hl.1 rfl (Nat.le_of_ble_eq_true rfl) dX3_nameAt_25) hS (fun H locs hP hS => ?_)
    exact sx_retl (Wd := (ax_W a cI L)) (σ := u5) hx hb hr hF hP hS hlocks dX3_nameAt_28
  · refine lv_lconst (v := 0) hx hb dX3_nameAt_13 (by decide) ?_
    refine lv_goto (tgt := 28) hx hb dX3_nameAt_14 (by decide) ?_
    exact sx_retl (Wd := (ax_W a cI L)) (σ := u2) hx hb hr hF hP hS hlocks dX3_nameAt_28
set_option maxHeartbeats 4000000 in
set_option maxRecDepth 100000 in
theorem kt_X3_nameCount {N : Nat} {l : Launch} {D : va_G} {a : Nat → Nat} {cI : Nat → ClassId} {L : Nat → Nat} (hD : ∀ σ, va_D (ax_A a) (ax_W a cI L σ)) {o1 : Int32} {u σ0 : q_St} {r0 : Int32} (hF : fX3_nameCount L N o1 u = some (r0, σ0)) : Met l yX3_nameCount (Cond.code yX3_nameCount cX3_nameCount 4 (some .int) :: q_T) ({ frames := 5, cells := 0, slots := 0, locals := 113 } : Room) (q_P D vwCl (ax_T cI) (ax_W a cI L) [.ref (a 6), .int o1] u) (q_Qi D vwCl (ax_W a cI L) (ax_A a) r0 σ0) 0 0 (ax_A a) := by
  refine Met.ofW (cc := cX3_nameCount) (maxL := 4) (ret := (some .int)) (by decide) rfl ?_
  intro p e s m args below meth c s₁ B hml hv
  obtain ⟨rfl, hP, hK⟩ := hv
  have hx := B.exec
  have hb := B.bytes
  have hr := B.returns
  have hts := q_ts (atoms_spec (ws := Cond.code yX3_nameCount cX3_nameCount 4 (some .int) :: q_T) B.pre)
  have hown : s.vm.findClass RX3 = some m.cls := findClass_of_methodNamed B.named
  have hlocks := B.notSynchronized
  have hS : va_S (ax_A a) s.heap s.heap [] := va_S.rf
  have hl := lv_entry ([.ref (a 6), .int o1]) (n := 4) (Nat.le_of_ble_eq_true rfl)
  rw [lg_entry_eq]
  generalize (lg_sl ([.ref (a 6), .int o1]) ++ List.replicate (4 - (lg_sl ([.ref (a 6), .int o1])).length) Slot.unset).toArray = ls at hl ⊢
  have hl : lv_has ls 4 [(0, .ref (a 6)), (1, .int o1)] := hl
  have hB24 : ∀ (ih4 : Int32 → Int32 → Int32 → q_St → Option (Int32 × q_St)) (hi4 : ∀ (x1 : Int32) (x2 : Int32) (x3 : Int32) (u : q_St) (ls : Array Slot), lv_has ls 4 [(0, .ref (a 6)), (1, .int x1), (2, .int x2), (3, .int x3)] → ih4 x1 x2 x3 u = some (r0, σ0) → ∀ (H : Heap) (locs : List Loc), va_P D vwCl (ax_W a cI L u) H → va_S (ax_A a) s.heap H locs → W p l e (headSpec (Cond.code yX3_nameCount cX3_nameCount 4 (some .int) :: q_T) ({ frames := 5, cells := 0, slots := 0, locals := 113 } : Room)).room s m ([.ref (a 6), .int o1] : List Value).toArray below meth c H locs 0 0 (MQ below (q_Qi D vwCl (ax_W a cI L) (ax_A a) r0 σ0) ([.ref (a 6), .int o1] : List Value).toArray s 0 0 (ax_A a)) (F0 m 4 ls [])), ∀ (x1 : Int32) (x2 : Int32) (x3 : Int32) (u : q_St) (ls : Array Slot), lv_has ls 4 [(0, .ref (a 6)), (1, .int x1), (2, .int x2), (3, .int x3)] → fX3_nameCount_b24 L N ih4 x1 x2 x3 u = some (r0, σ0) → ∀ (H : Heap) (locs : List Loc), va_P D vwCl (ax_W a cI L u) H → va_S (ax_A a) s.heap H locs → W p l e (headSpec (Cond.code yX3_nameCount cX3_nameCount 4 (some .int) :: q_T) ({ frames := 5, cells := 0, slots := 0, locals := 113 } : Room)).room s m ([.ref (a 6), .int o1] : List Value).toArray below meth c H locs 0 0 (MQ below (q_Qi D vwCl (ax_W a cI L) (ax_A a) r0 σ0) ([.ref (a 6), .int o1] : List Value).toArray s 0 0 (ax_A a)) (F0 m 24 ls []) := by
    intro ih4 hi4 x1 x2 x3 u ls hl hF _ _ hP hS
    unfold fX3_nameCount_b24 at hF
    refine sx_iinc (d := 1) (k := 3) (lv2 := [(0, .ref (a 6)), (1, .int x1), (2, .int x2)]) hx hb hF dX3_nameCount_24 hl rfl (by decide) (by decide) rfl (fun v4 hF ls hl => ?_)
    refine lv_goto (tgt := 4) hx hb dX3_nameCount_27 (by decide) ?_
    exact hi4 x1 x2 v4 u ls (lv_sub hl [1, 2, 3, 0] rfl) hF _ _ hP hS
  have hB4 : ∀ (n : Nat) (x1 : Int32) (x2 : Int32) (x3 : Int32) (u : q_St) (ls : Array Slot), lv_has ls 4 [(0, .ref (a 6)), (1, .int x1), (2, .int x2), (3, .int x3)] → q_lp (fX3_nameCount_b4 L N) (fun _ _ _ _ => none) n x1 x2 x3 u = some (r0, σ0) → ∀ (H : Heap) (locs : List Loc), va_P D vwCl (ax_W a cI L u) H → va_S (ax_A a) s.heap H locs → W p l e (headSpec (Cond.code yX3_nameCount cX3_nameCount 4 (some .int) :: q_T) ({ frames := 5, cells := 0, slots := 0, locals := 113 } : Room)).room s m ([.ref (a 6), .int o1] : List Value).toArray below meth c H locs 0 0 (MQ below (q_Qi D vwCl (ax_W a cI L) (ax_A a) r0 σ0) ([.ref (a 6), .int o1] : List Value).toArray s 0 0 (ax_A a)) (F0 m 4 ls []) := by
    intro n
    induction n with
    | zero => intro x1 x2 x3 u ls hl hF; exact absurd (show (none : Option (Int32 × q_St)) = some _ from hF) (fun h => nomatch h)
    | succ n hi4 =>
      intro x1 x2 x3 u ls hl hF _ _ hP hS
      obtain ⟨ih4, hih⟩ : ∃ q, q = q_lp (fX3_nameCount_b4 L N) (fun _ _ _ _ => none) n := ⟨_, rfl⟩
      rw [← hih] at hi4
      have hF : fX3_nameCount_b4 L N (q_lp (fX3_nameCount_b4 L N) (fun _ _ _ _ => none) n) x1 x2 x3 u = some (r0, σ0) := hF
      rw [← hih] at hF
      clear hih
      unfold fX3_nameCount_b4 at hF
      refine lv_iload_n hx hb dX3_nameCount_4 rfl (lv_at hl 3 rfl) ?_
      refine lv_bipush (v := 48) hx hb dX3_nameCount_5 (by decide) ?_
      refine sx_icmp_ge (tgt := 30) hx hb hF dX3_nameCount_7 (by decide) (fun hF => ?_) (fun hF => ?_)
      · refine lv_iload_n hx hb dX3_nameCount_30 rfl (lv_at hl 2 rfl) ?_
        exact sx_reti (Wd := (ax_W a cI L)) (σ := u) hx hb hr hF hP hS hlocks dX3_nameCount_31
      · refine lv_aload_n hx hb dX3_nameCount_10 rfl (lv_at hl 0 rfl) ?_
        refine lv_iload_n hx hb dX3_nameCount_11 rfl (lv_at hl 1 rfl) ?_
        refine lv_iload_n hx hb dX3_nameCount_12 rfl (lv_at hl 3 rfl) ?_
        obtain ⟨r1, u2, hc3, hF⟩ := q_bnd_some hF
        refine sx_cl (Wd := (ax_W a cI L)) (σ1 := u2) (q_runV (Wd := (ax_W a cI L)) (σ := u) (q0 := 6) (ci := 3) (T := TX3) (N := 5) (As := [.int x1, .int x3]) (rest := []) hx hb hml hown hts hK hP (kt_X3_nameAt hD hc3) cw_X3_81 rfl rfl ⟨Nat.le_of_ble_eq_true rfl, Nat.le_of_ble_eq_true rfl⟩ rfl rfl rfl hl.1 rfl (Nat.le_of_ble_eq_true rfl) dX3_nameCount_13) hS (fun H locs hP hS => ?_)
        refine lv_lconst (v := 0) hx hb dX3_nameCount_16 (by decide) ?_
        refine W.lcmp hx hb dX3_nameCount_17 ?_
        refine sx_if_eq (tgt := 24) hx hb hF dX3_nameCount_18 (by decide) (fun hF => ?_) (fun hF => ?_)
        · exact hB24 ih4 hi4 x1 x2 x3 u2 ls (lv_sub hl [0, 1, 2, 3] rfl) hF _ _ hP hS
        · refine sx_iinc (d := 1) (k := 2) (lv2 := [(0, .ref (a 6)), (1, .int x1), (3, .int x3)]) hx hb hF dX3_nameCount_21 hl rfl (by decide) (by decide) rfl (fun v5 hF ls hl => ?_)
          exact hB24 ih4 hi4 x1 v5 x3 u2 ls (lv_sub hl [1, 2, 0, 3] rfl) hF _ _ hP hS
  unfold fX3_nameCount at hF
  refine lv_iconst (v := 0) hx hb dX3_nameCount_0 (by decide) ?_
  refine lv_istore_n (lv' := [(2, .int 0), (0, .ref (a 6)), (1, .int o1)]) hx hb dX3_nameCount_1 rfl hl (by decide) rfl (fun ls hl => ?_)
  refine lv_iconst (v := 0) hx hb dX3_nameCount_2 (by decide) ?_
  refine lv_istore_n (lv' := [(3, .int 0), (2, .int 0), (0, .ref (a 6)), (1, .int o1)]) hx hb dX3_nameCount_3 rfl hl (by decide) rfl (fun ls hl => ?_)
  exact hB4 N o1 0 0 u ls (lv_sub hl [2, 3, 1, 0] rfl) hF _ _ hP hS
set_option maxHeartbeats 4000000 in
set_option maxRecDepth 100000 in
theorem kt_X10_drop {N : Nat} {l : Launch} {D : va_G} {a : Nat → Nat} {cI : Nat → ClassId} {L : Nat → Nat} (hD : ∀ σ, va_D (ax_A a) (ax_W a cI L σ)) {o1 : Int32} {o2 : Int64} {u σ0 : q_St} {r0 : Int32} (hF : fX10_drop L N o1 o2 u = some (r0, σ0)) : Met l yX10_drop (Cond.code yX10_drop cX10_drop 7 (some .int) :: q_T) ({ frames := 7, cells := 0, slots := 0, locals := 182 } : Room) (q_P D vwCl (ax_T cI) (ax_W a cI L) [.ref (a 0), .int o1, .long o2] u) (q_Qi D vwCl (ax_W a cI L) (ax_A a) r0 σ0) 0 0 (ax_A a) := by
  refine Met.ofW (cc := cX10_drop) (maxL := 7) (ret := (some .int)) (by decide) rfl ?_
  intro p e s m args below meth c s₁ B hml hv
  obtain ⟨rfl, hP, hK⟩ := hv
  have hx := B.exec
  have hb := B.bytes
  have hr := B.returns
  have hts := q_ts (atoms_spec (ws := Cond.code yX10_drop cX10_drop 7 (some .int) :: q_T) B.pre)
  have hown : s.vm.findClass RX10 = some m.cls := findClass_of_methodNamed B.named
  have hlocks := B.notSynchronized
  have hS : va_S (ax_A a) s.heap s.heap [] := va_S.rf
  have hl := lv_entry ([.ref (a 0), .int o1, .long o2]) (n := 7) (Nat.le_of_ble_eq_true rfl)
  rw [lg_entry_eq]
  generalize (lg_sl ([.ref (a 0), .int o1, .long o2]) ++ List.replicate (7 - (lg_sl ([.ref (a 0), .int o1, .long o2])).length) Slot.unset).toArray = ls at hl ⊢
  have hl : lv_has ls 7 [(0, .ref (a 0)), (1, .int o1), (2, .long o2)] := hl
  have hB91 : ∀ (x1 : Int32) (x5 : Int32) (x6 : Int32) (u : q_St) (ls : Array Slot), lv_has ls 7 [(0, .ref (a 0)), (1, .int x1), (5, .int x5), (6, .int x6)] → fX10_drop_b91 L N x1 x5 x6 u = some (r0, σ0) → ∀ (H : Heap) (locs : List Loc), va_P D vwCl (ax_W a cI L u) H → va_S (ax_A a) s.heap H locs → W p l e (headSpec (Cond.code yX10_drop cX10_drop 7 (some .int) :: q_T) ({ frames := 7, cells := 0, slots := 0, locals := 182 } : Room)).room s m ([.ref (a 0), .int o1, .long o2] : List Value).toArray below meth c H locs 0 0 (MQ below (q_Qi D vwCl (ax_W a cI L) (ax_A a) r0 σ0) ([.ref (a 0), .int o1, .long o2] : List Value).toArray s 0 0 (ax_A a)) (F0 m 91 ls []) := by
    intro x1 x5 x6 u ls hl hF _ _ hP hS
    unfold fX10_drop_b91 at hF
    refine lv_aload_n hx hb dX10_drop_91 rfl (lv_at hl 0 rfl) ?_
    refine gx_h_folders hx hb hts hown hK hP fl_X10_75 dX10_drop_92 ?_
    refine lv_iload_n hx hb dX10_drop_95 rfl (lv_at hl 1 rfl) ?_
    refine lv_iload hx hb dX10_drop_96 (lv_at hl 2 rfl) ?_
    obtain ⟨r16, u17, hc18, hF⟩ := q_bnd_some hF
    refine sx_cv (Wd := (ax_W a cI L)) (σ1 := u17) (q_runV (Wd := (ax_W a cI L)) (σ := u) (q0 := 6) (ci := 3) (T := TX3) (N := 5) (As := [.int x1, .int x5]) (rest := []) hx hb hml hown hts hK hP (kt_X3_takeOut hD hc18) cw_X10_192 rfl rfl ⟨Nat.le_of_ble_eq_true rfl, Nat.le_of_ble_eq_true rfl⟩ rfl rfl rfl hl.1 rfl (Nat.le_of_ble_eq_true rfl) dX10_drop_98) hS (fun H locs hP hS => ?_)
    refine lv_aload_n hx hb dX10_drop_101 rfl (lv_at hl 0 rfl) ?_
    refine gx_h_bodies hx hb hts hown hK hP fl_X10_91 dX10_drop_102 ?_
    refine lv_iload hx hb dX10_drop_105 (lv_at hl 3 rfl) ?_
    obtain ⟨r19, u20, hc21, hF⟩ := q_bnd_some hF
    refine sx_ci (Wd := (ax_W a cI L)) (σ1 := u20) (q_runV (Wd := (ax_W a cI L)) (σ := u17) (q0 := 7) (ci := 0) (T := TX0) (N := 4) (As := [.int x6]) (rest := []) hx hb hml hown hts hK hP (kt_X0_dropOne hD hc21) cw_X10_195 rfl rfl ⟨Nat.le_of_ble_eq_true rfl, Nat.le_of_ble_eq_true rfl⟩ rfl rfl rfl hl.1 rfl (Nat.le_of_ble_eq_true rfl) dX10_drop_107) hS (fun H locs hP hS => ?_)
    exact sx_reti (Wd := (ax_W a cI L)) (σ := u20) hx hb hr hF hP hS hlocks dX10_drop_110
  unfold fX10_drop at hF
  refine lv_aload_n hx hb dX10_drop_0 rfl (lv_at hl 0 rfl) ?_
  refine gx_h_store hx hb hts hown hK hP fl_X10_63 dX10_drop_1 ?_
  refine lv_bipush (v := 40) hx hb dX10_drop_4 (by decide) ?_
  obtain ⟨r1, u2, hc3, hF⟩ := q_bnd_some hF
  refine sx_ci (Wd := (ax_W a cI L)) (σ1 := u2) (q_runV (Wd := (ax_W a cI L)) (σ := u) (q0 := 3) (ci := 6) (T := TX6) (N := 9) (As := [.int 40]) (rest := []) hx hb hml hown hts hK hP (kt_X6_commitOver hD hc3) cw_X10_126 rfl rfl ⟨Nat.le_of_ble_eq_true rfl, Nat.le_of_ble_eq_true rfl⟩ rfl rfl rfl hl.1 rfl (Nat.le_of_ble_eq_true rfl) dX10_drop_6) hS (fun H locs hP hS => ?_)
  refine sx_if_ne (tgt := 15) hx hb hF dX10_drop_9 (by decide) (fun hF => ?_) (fun hF => ?_)
  · refine lv_aload_n hx hb dX10_drop_15 rfl (lv_at hl 0 rfl) ?_
    refine lv_iload_n hx hb dX10_drop_16 rfl (lv_at hl 1 rfl) ?_
    refine lv_lload_n hx hb dX10_drop_17 rfl (lv_at hl 2 rfl) ?_
    obtain ⟨r4, u5, hc6, hF⟩ := q_bnd_some hF
    refine sx_ci (Wd := (ax_W a cI L)) (σ1 := u5) (q_runV (Wd := (ax_W a cI L)) (σ := u2) (q0 := 0) (ci := 10) (T := TX10) (N := 11) (As := [.int o1, .long o2]) (rest := []) hx hb hml hown hts hK hP (kt_X10_refusalToGoBy hD hc6) cw_X10_145 rfl rfl ⟨Nat.le_of_ble_eq_true rfl, Nat.le_of_ble_eq_true rfl⟩ rfl rfl rfl hl.1 rfl (Nat.le_of_ble_eq_true rfl) dX10_drop_18) hS (fun H locs hP hS => ?_)
    refine lv_istore (lv' := [(4, .int r4), (0, .ref (a 0)), (1, .int o1), (2, .long o2)]) hx hb dX10_drop_21 hl (by decide) rfl (fun ls hl => ?_)
    refine lv_iload hx hb dX10_drop_23 (lv_at hl 0 rfl) ?_
    refine sx_if_eq (tgt := 31) hx hb hF dX10_drop_25 (by decide) (fun hF => ?_) (fun hF => ?_)
    · refine lv_aload_n hx hb dX10_drop_31 rfl (lv_at hl 1 rfl) ?_
      refine gx_h_folders hx hb hts hown hK hP fl_X10_75 dX10_drop_32 ?_
      refine lv_iload_n hx hb dX10_drop_35 rfl (lv_at hl 2 rfl) ?_
      refine lv_lload_n hx hb dX10_drop_36 rfl (lv_at hl 3 rfl) ?_
      obtain ⟨r7, u8, hc9, hF⟩ := q_bnd_some hF
      refine sx_ci (Wd := (ax_W a cI L)) (σ1 := u8) (q_runV (Wd := (ax_W a cI L)) (σ := u5) (q0 := 6) (ci := 3) (T := TX3) (N := 5) (As := [.int o1, .long o2]) (rest := []) hx hb hml hown hts hK hP (kt_X3_seek hD hc9) cw_X10_151 rfl rfl ⟨Nat.le_of_ble_eq_true rfl, Nat.le_of_ble_eq_true rfl⟩ rfl rfl rfl hl.1 rfl (Nat.le_of_ble_eq_true rfl) dX10_drop_37) hS (fun H locs hP hS => ?_)
      refine lv_istore (lv' := [(5, .int r7), (4, .int r4), (0, .ref (a 0)), (1, .int o1), (2, .long o2)]) hx hb dX10_drop_40 hl (by decide) rfl (fun ls hl => ?_)
      refine lv_iload hx hb dX10_drop_42 (lv_at hl 0 rfl) ?_
      refine lv_iconst (v := (-1)) hx hb dX10_drop_44 (by decide) ?_
      refine sx_icmp_ne (tgt := 51) hx hb hF dX10_drop_45 (by decide) (fun hF => ?_) (fun hF => ?_)
      · refine lv_aload_n hx hb dX10_drop_51 rfl (lv_at hl 2 rfl) ?_
        refine gx_h_folders hx hb hts hown hK hP fl_X10_75 dX10_drop_52 ?_
        refine lv_iload_n hx hb dX10_drop_55 rfl (lv_at hl 3 rfl) ?_
        refine lv_iload hx hb dX10_drop_56 (lv_at hl 0 rfl) ?_
        obtain ⟨r10, u11, hc12, hF⟩ := q_bnd_some hF
        refine sx_ci (Wd := (ax_W a cI L)) (σ1 := u11) (q_runV (Wd := (ax_W a cI L)) (σ := u8) (q0 := 6) (ci := 3) (T := TX3) (N := 5) (As := [.int o1, .int r7]) (rest := []) hx hb hml hown hts hK hP (kt_X3_nodeAt hD hc12) cw_X10_186 rfl rfl ⟨Nat.le_of_ble_eq_true rfl, Nat.le_of_ble_eq_true rfl⟩ rfl rfl rfl hl.1 rfl (Nat.le_of_ble_eq_true rfl) dX10_drop_58) hS (fun H locs hP hS => ?_)
        refine lv_istore (lv' := [(6, .int r10), (5, .int r7), (4, .int r4), (0, .ref (a 0)), (1, .int o1), (2, .long o2)]) hx hb dX10_drop_61 hl (by decide) rfl (fun ls hl => ?_)
        refine lv_aload_n hx hb dX10_drop_63 rfl (lv_at hl 3 rfl) ?_
        refine gx_h_nodes hx hb hts hown hK hP fl_X10_71 dX10_drop_64 ?_
        refine lv_iload hx hb dX10_drop_67 (lv_at hl 0 rfl) ?_
        obtain ⟨r13, u14, hc15, hF⟩ := q_bnd_some hF
        refine sx_ci (Wd := (ax_W a cI L)) (σ1 := u14) (q_runV (Wd := (ax_W a cI L)) (σ := u11) (q0 := 5) (ci := 4) (T := TX4) (N := 2) (As := [.int r10]) (rest := []) hx hb hml hown hts hK hP (kt_X4_kindOf hD hc15) cw_X10_173 rfl rfl ⟨Nat.le_of_ble_eq_true rfl, Nat.le_of_ble_eq_true rfl⟩ rfl rfl rfl hl.1 rfl (Nat.le_of_ble_eq_true rfl) dX10_drop_69) hS (fun H locs hP hS => ?_)
        refine lv_iconst (v := 2) hx hb dX10_drop_72 (by decide) ?_
        refine sx_icmp_ne (tgt := 91) hx hb hF dX10_drop_73 (by decide) (fun hF => ?_) (fun hF => ?_)
        · exact hB91 o1 r7 r10 u14 ls (lv_sub hl [3, 4, 1, 0] rfl) hF _ _ hP hS
        · refine lv_aload_n hx hb dX10_drop_76 rfl (lv_at hl 3 rfl) ?_
          refine gx_h_folders hx hb hts hown hK hP fl_X10_75 dX10_drop_77 ?_
          refine lv_iload hx hb dX10_drop_80 (lv_at hl 0 rfl) ?_
          obtain ⟨r22, u23, hc24, hF⟩ := q_bnd_some hF
          refine sx_ci (Wd := (ax_W a cI L)) (σ1 := u23) (q_runV (Wd := (ax_W a cI L)) (σ := u14) (q0 := 6) (ci := 3) (T := TX3) (N := 5) (As := [.int r10]) (rest := []) hx hb hml hown hts hK hP (kt_X3_nameCount hD hc24) cw_X10_189 rfl rfl ⟨Nat.le_of_ble_eq_true rfl, Nat.le_of_ble_eq_true rfl⟩ rfl rfl rfl hl.1 rfl (Nat.le_of_ble_eq_true rfl) dX10_drop_82) hS (fun H locs hP hS => ?_)
          refine sx_if_le (tgt := 91) hx hb hF dX10_drop_85 (by decide) (fun hF => ?_) (fun hF => ?_)
          · exact hB91 o1 r7 r10 u23 ls (lv_sub hl [3, 4, 1, 0] rfl) hF _ _ hP hS
          · refine lv_bipush (v := (-17)) hx hb dX10_drop_88 (by decide) ?_
            exact sx_reti (Wd := (ax_W a cI L)) (σ := u23) hx hb hr hF hP hS hlocks dX10_drop_90
      · refine lv_bipush (v := (-12)) hx hb dX10_drop_48 (by decide) ?_
        exact sx_reti (Wd := (ax_W a cI L)) (σ := u8) hx hb hr hF hP hS hlocks dX10_drop_50
    · refine lv_iload hx hb dX10_drop_28 (lv_at hl 0 rfl) ?_
      exact sx_reti (Wd := (ax_W a cI L)) (σ := u5) hx hb hr hF hP hS hlocks dX10_drop_30
  · refine lv_bipush (v := (-99)) hx hb dX10_drop_12 (by decide) ?_
    exact sx_reti (Wd := (ax_W a cI L)) (σ := u2) hx hb hr hF hP hS hlocks dX10_drop_14
set_option maxHeartbeats 4000000 in
set_option maxRecDepth 100000 in
theorem kt_X10_refusalToGoByBoth {N : Nat} {l : Launch} {D : va_G} {a : Nat → Nat} {cI : Nat → ClassId} {L : Nat → Nat} (hD : ∀ σ, va_D (ax_A a) (ax_W a cI L σ)) {o1 : Int32} {o2 : Int64} {o4 : Int32} {o5 : Int64} {u σ0 : q_St} {r0 : Int32} (hF : fX10_refusalToGoByBoth L N o1 o2 o4 o5 u = some (r0, σ0)) : Met l yX10_refusalToGoByBoth (Cond.code yX10_refusalToGoByBoth cX10_refusalToGoByBoth 9 (some .int) :: q_T) ({ frames := 5, cells := 0, slots := 0, locals := 112 } : Room) (q_P D vwCl (ax_T cI) (ax_W a cI L) [.ref (a 0), .int o1, .long o2, .int o4, .long o5] u) (q_Qi D vwCl (ax_W a cI L) (ax_A a) r0 σ0) 0 0 (ax_A a) := by
  refine Met.ofW (cc := cX10_refusalToGoByBoth) (maxL := 9) (ret := (some .int)) (by decide) rfl ?_
  intro p e s m args below meth c s₁ B hml hv
  obtain ⟨rfl, hP, hK⟩ := hv
  have hx := B.exec
  have hb := B.bytes
  have hr := B.returns
  have hts := q_ts (atoms_spec (ws := Cond.code yX10_refusalToGoByBoth cX10_refusalToGoByBoth 9 (some .int) :: q_T) B.pre)
  have hown : s.vm.findClass RX10 = some m.cls := findClass_of_methodNamed B.named
  have hlocks := B.notSynchronized
  have hS : va_S (ax_A a) s.heap s.heap [] := va_S.rf
  have hl := lv_entry ([.ref (a 0), .int o1, .long o2, .int o4, .long o5]) (n := 9) (Nat.le_of_ble_eq_true rfl)
  rw [lg_entry_eq]
  generalize (lg_sl ([.ref (a 0), .int o1, .long o2, .int o4, .long o5]) ++ List.replicate (9 - (lg_sl ([.ref (a 0), .int o1, .long o2, .int o4, .long o5])).length) Slot.unset).toArray = ls at hl ⊢
  have hl : lv_has ls 9 [(0, .ref (a 0)), (1, .int o1), (2, .long o2), (4, .int o4), (5, .long o5)] := hl
  have hB28 : ∀ (x7 : Int32) (x8 : Int32) (u : q_St) (ls : Array Slot), lv_has ls 9 [(7, .int x7), (8, .int x8)] → fX10_refusalToGoByBoth_b28 L N x7 x8 u = some (r0, σ0) → ∀ (H : Heap) (locs : List Loc), va_P D vwCl (ax_W a cI L u) H → va_S (ax_A a) s.heap H locs → W p l e (headSpec (Cond.code yX10_refusalToGoByBoth cX10_refusalToGoByBoth 9 (some .int) :: q_T) ({ frames := 5, cells := 0, slots := 0, locals := 112 } : Room)).room s m ([.ref (a 0), .int o1, .long o2, .int o4, .long o5] : List Value).toArray below meth c H locs 0 0 (MQ below (q_Qi D vwCl (ax_W a cI L) (ax_A a) r0 σ0) ([.ref (a 0), .int o1, .long o2, .int o4, .long o5] : List Value).toArray s 0 0 (ax_A a)) (F0 m 28 ls []) := by
    intro x7 x8 u ls hl hF _ _ hP hS
    unfold fX10_refusalToGoByBoth_b28 at hF
    refine lv_iload hx hb dX10_refusalToGoByBoth_28 (lv_at hl 0 rfl) ?_
    refine lv_iload hx hb dX10_refusalToGoByBoth_30 (lv_at hl 1 rfl) ?_
    refine sx_min hx hb (hml.trans hl.1.symm) hown hts lw_X10_339 lb_min_s lb_math lb_min_c (Nat.le_of_ble_eq_true rfl) (Nat.le_of_ble_eq_true rfl) dX10_refusalToGoByBoth_32 ?_
    refine lv_goto (tgt := 45) hx hb dX10_refusalToGoByBoth_35 (by decide) ?_
    exact sx_reti (Wd := (ax_W a cI L)) (σ := u) hx hb hr hF hP hS hlocks dX10_refusalToGoByBoth_45
  unfold fX10_refusalToGoByBoth at hF
  refine lv_aload_n hx hb dX10_refusalToGoByBoth_0 rfl (lv_at hl 0 rfl) ?_
  refine lv_iload_n hx hb dX10_refusalToGoByBoth_1 rfl (lv_at hl 1 rfl) ?_
  refine lv_lload_n hx hb dX10_refusalToGoByBoth_2 rfl (lv_at hl 2 rfl) ?_
  obtain ⟨r1, u2, hc3, hF⟩ := q_bnd_some hF
  refine sx_ci (Wd := (ax_W a cI L)) (σ1 := u2) (q_runV (Wd := (ax_W a cI L)) (σ := u) (q0 := 0) (ci := 10) (T := TX10) (N := 11) (As := [.int o1, .long o2]) (rest := []) hx hb hml hown hts hK hP (kt_X10_refusalToGoBy hD hc3) cw_X10_145 rfl rfl ⟨Nat.le_of_ble_eq_true rfl, Nat.le_of_ble_eq_true rfl⟩ rfl rfl rfl hl.1 rfl (Nat.le_of_ble_eq_true rfl) dX10_refusalToGoByBoth_3) hS (fun H locs hP hS => ?_)
  refine lv_istore (lv' := [(7, .int r1), (0, .ref (a 0)), (1, .int o1), (2, .long o2), (4, .int o4), (5, .long o5)]) hx hb dX10_refusalToGoByBoth_6 hl (by decide) rfl (fun ls hl => ?_)
  refine lv_aload_n hx hb dX10_refusalToGoByBoth_8 rfl (lv_at hl 1 rfl) ?_
  refine lv_iload hx hb dX10_refusalToGoByBoth_9 (lv_at hl 4 rfl) ?_
  refine lv_lload hx hb dX10_refusalToGoByBoth_11 (lv_at hl 5 rfl) ?_
  obtain ⟨r4, u5, hc6, hF⟩ := q_bnd_some hF
  refine sx_ci (Wd := (ax_W a cI L)) (σ1 := u5) (q_runV (Wd := (ax_W a cI L)) (σ := u2) (q0 := 0) (ci := 10) (T := TX10) (N := 11) (As := [.int o4, .long o5]) (rest := []) hx hb hml hown hts hK hP (kt_X10_refusalToGoBy hD hc6) cw_X10_145 rfl rfl ⟨Nat.le_of_ble_eq_true rfl, Nat.le_of_ble_eq_true rfl⟩ rfl rfl rfl hl.1 rfl (Nat.le_of_ble_eq_true rfl) dX10_refusalToGoByBoth_13) hS (fun H locs hP hS => ?_)
  refine lv_istore (lv' := [(8, .int r4), (7, .int r1), (0, .ref (a 0)), (1, .int o1), (2, .long o2), (4, .int o4), (5, .long o5)]) hx hb dX10_refusalToGoByBoth_16 hl (by decide) rfl (fun ls hl => ?_)
  refine lv_iload hx hb dX10_refusalToGoByBoth_18 (lv_at hl 1 rfl) ?_
  refine sx_if_eq (tgt := 28) hx hb hF dX10_refusalToGoByBoth_20 (by decide) (fun hF => ?_) (fun hF => ?_)
  · exact hB28 r1 r4 u5 ls (lv_sub hl [1, 0] rfl) hF _ _ hP hS
  · refine lv_iload hx hb dX10_refusalToGoByBoth_23 (lv_at hl 0 rfl) ?_
    refine sx_if_ne (tgt := 38) hx hb hF dX10_refusalToGoByBoth_25 (by decide) (fun hF => ?_) (fun hF => ?_)
    · refine lv_iload hx hb dX10_refusalToGoByBoth_38 (lv_at hl 1 rfl) ?_
      refine lv_iload hx hb dX10_refusalToGoByBoth_40 (lv_at hl 0 rfl) ?_
      refine sx_max hx hb (hml.trans hl.1.symm) hown hts lw_X10_274 lb_max_s lb_math lb_max_c (Nat.le_of_ble_eq_true rfl) (Nat.le_of_ble_eq_true rfl) dX10_refusalToGoByBoth_42 ?_
      exact sx_reti (Wd := (ax_W a cI L)) (σ := u5) hx hb hr hF hP hS hlocks dX10_refusalToGoByBoth_45
    · exact hB28 r1 r4 u5 ls (lv_sub hl [1, 0] rfl) hF _ _ hP hS
set_option maxHeartbeats 4000000 in
set_option maxRecDepth 100000 in
theorem kt_X4_isWithin {N : Nat} {l : Launch} {D : va_G} {a : Nat → Nat} {cI : Nat → ClassId} {L : Nat → Nat} (hD : ∀ σ, va_D (ax_A a) (ax_W a cI L σ)) {o1 : Int32} {o2 : Int32} {u σ0 : q_St} {r0 : Int32} (hF : fX4_isWithin L N o1 o2 u = some (r0, σ0)) : Met l yX4_isWithin (Cond.code yX4_isWithin cX4_isWithin 5 (some .boolean) :: q_T) ({ frames := 4, cells := 0, slots := 0, locals := 89 } : Room) (q_P D vwCl (ax_T cI) (ax_W a cI L) [.ref (a 5), .int o1, .int o2] u) (q_Qi D vwCl (ax_W a cI L) (ax_A a) r0 σ0) 0 0 (ax_A a) := by
  refine Met.ofW (cc := cX4_isWithin) (maxL := 5) (ret := (some .boolean)) (by decide) rfl ?_
  intro p e s m args below meth c s₁ B hml hv
  obtain ⟨rfl, hP, hK⟩ := hv
  have hx := B.exec
  have hb := B.bytes
  have hr := B.returns
  have hts := q_ts (atoms_spec (ws := Cond.code yX4_isWithin cX4_isWithin 5 (some .boolean) :: q_T) B.pre)
  have hown : s.vm.findClass RX4 = some m.cls := findClass_of_methodNamed B.named
  have hlocks := B.notSynchronized
  have hS : va_S (ax_A a) s.heap s.heap [] := va_S.rf
  have hl := lv_entry ([.ref (a 5), .int o1, .int o2]) (n := 5) (Nat.le_of_ble_eq_true rfl)
  rw [lg_entry_eq]
  generalize (lg_sl ([.ref (a 5), .int o1, .int o2]) ++ List.replicate (5 - (lg_sl ([.ref (a 5), .int o1, .int o2])).length) Slot.unset).toArray = ls at hl ⊢
  have hl : lv_has ls 5 [(0, .ref (a 5)), (1, .int o1), (2, .int o2)] := hl
  have hB5 : ∀ (n : Nat) (x2 : Int32) (x3 : Int32) (x4 : Int32) (u : q_St) (ls : Array Slot), lv_has ls 5 [(0, .ref (a 5)), (2, .int x2), (3, .int x3), (4, .int x4)] → q_lp (fX4_isWithin_b5 L N) (fun _ _ _ _ => none) n x2 x3 x4 u = some (r0, σ0) → ∀ (H : Heap) (locs : List Loc), va_P D vwCl (ax_W a cI L u) H → va_S (ax_A a) s.heap H locs → W p l e (headSpec (Cond.code yX4_isWithin cX4_isWithin 5 (some .boolean) :: q_T) ({ frames := 4, cells := 0, slots := 0, locals := 89 } : Room)).room s m ([.ref (a 5), .int o1, .int o2] : List Value).toArray below meth c H locs 0 0 (MQ below (q_Qi D vwCl (ax_W a cI L) (ax_A a) r0 σ0) ([.ref (a 5), .int o1, .int o2] : List Value).toArray s 0 0 (ax_A a)) (F0 m 5 ls []) := by
    intro n
    induction n with
    | zero => intro x2 x3 x4 u ls hl hF; exact absurd (show (none : Option (Int32 × q_St)) = some _ from hF) (fun h => nomatch h)
    | succ n hi5 =>
      intro x2 x3 x4 u ls hl hF _ _ hP hS
      obtain ⟨ih5, hih⟩ : ∃ q, q = q_lp (fX4_isWithin_b5 L N) (fun _ _ _ _ => none) n := ⟨_, rfl⟩
      rw [← hih] at hi5
      have hF : fX4_isWithin_b5 L N (q_lp (fX4_isWithin_b5 L N) (fun _ _ _ _ => none) n) x2 x3 x4 u = some (r0, σ0) := hF
      rw [← hih] at hF
      clear hih
      unfold fX4_isWithin_b5 at hF
      refine lv_iload hx hb dX4_isWithin_5 (lv_at hl 3 rfl) ?_
      refine lv_bipush (v := 64) hx hb dX4_isWithin_7 (by decide) ?_
      refine sx_icmp_ge (tgt := 31) hx hb hF dX4_isWithin_9 (by decide) (fun hF => ?_) (fun hF => ?_)
      · refine lv_iconst (v := 0) hx hb dX4_isWithin_31 (by decide) ?_
        exact sx_retz (Wd := (ax_W a cI L)) (σ := u) hx hb hr (by decide) hF hP hS hlocks dX4_isWithin_32
      · refine lv_iload_n hx hb dX4_isWithin_12 rfl (lv_at hl 2 rfl) ?_
        refine lv_iload_n hx hb dX4_isWithin_13 rfl (lv_at hl 1 rfl) ?_
        refine sx_icmp_ne (tgt := 19) hx hb hF dX4_isWithin_14 (by decide) (fun hF => ?_) (fun hF => ?_)
        · refine lv_aload_n hx hb dX4_isWithin_19 rfl (lv_at hl 0 rfl) ?_
          refine lv_iload_n hx hb dX4_isWithin_20 rfl (lv_at hl 2 rfl) ?_
          obtain ⟨r1, u2, hc3, hF⟩ := q_bnd_some hF
          refine sx_ci (Wd := (ax_W a cI L)) (σ1 := u2) (q_runV (Wd := (ax_W a cI L)) (σ := u) (q0 := 5) (ci := 4) (T := TX4) (N := 2) (As := [.int x3]) (rest := []) hx hb hml hown hts hK hP (kt_X4_holderOf hD hc3) cw_X4_70 rfl rfl ⟨Nat.le_of_ble_eq_true rfl, Nat.le_of_ble_eq_true rfl⟩ rfl rfl rfl hl.1 rfl (Nat.le_of_ble_eq_true rfl) dX4_isWithin_21) hS (fun H locs hP hS => ?_)
          refine lv_istore_n (lv' := [(3, .int r1), (0, .ref (a 5)), (2, .int x2), (4, .int x4)]) hx hb dX4_isWithin_24 rfl hl (by decide) rfl (fun ls hl => ?_)
          refine sx_iinc (d := 1) (k := 3) (lv2 := [(3, .int r1), (0, .ref (a 5)), (2, .int x2)]) hx hb hF dX4_isWithin_25 hl rfl (by decide) (by decide) rfl (fun v4 hF ls hl => ?_)
          refine lv_goto (tgt := 5) hx hb dX4_isWithin_28 (by decide) ?_
          exact hi5 x2 r1 v4 u2 ls (lv_sub hl [2, 3, 1, 0] rfl) hF _ _ hP hS
        · refine lv_iconst (v := 1) hx hb dX4_isWithin_17 (by decide) ?_
          exact sx_retz (Wd := (ax_W a cI L)) (σ := u) hx hb hr (by decide) hF hP hS hlocks dX4_isWithin_18
  unfold fX4_isWithin at hF
  refine lv_iload_n hx hb dX4_isWithin_0 rfl (lv_at hl 1 rfl) ?_
  refine lv_istore_n (lv' := [(3, .int o1), (0, .ref (a 5)), (1, .int o1), (2, .int o2)]) hx hb dX4_isWithin_1 rfl hl (by decide) rfl (fun ls hl => ?_)
  refine lv_iconst (v := 0) hx hb dX4_isWithin_2 (by decide) ?_
  refine lv_istore (lv' := [(4, .int 0), (3, .int o1), (0, .ref (a 5)), (1, .int o1), (2, .int o2)]) hx hb dX4_isWithin_3 hl (by decide) rfl (fun ls hl => ?_)
  exact hB5 N o2 o1 0 u ls (lv_sub hl [2, 4, 1, 0] rfl) hF _ _ hP hS
set_option maxHeartbeats 4000000 in
set_option maxRecDepth 100000 in
theorem kt_X10_refusalToMove {N : Nat} {l : Launch} {D : va_G} {a : Nat → Nat} {cI : Nat → ClassId} {L : Nat → Nat} (hD : ∀ σ, va_D (ax_A a) (ax_W a cI L σ)) {o1 : Int32} {o2 : Int32} {o3 : Int32} {o4 : Int32} {u σ0 : q_St} {r0 : Int32} (hF : fX10_refusalToMove L N o1 o2 o3 o4 u = some (r0, σ0)) : Met l yX10_refusalToMove (Cond.code yX10_refusalToMove cX10_refusalToMove 8 (some .int) :: q_T) ({ frames := 6, cells := 0, slots := 0, locals := 138 } : Room) (q_P D vwCl (ax_T cI) (ax_W a cI L) [.ref (a 0), .int o1, .int o2, .int o3, .int o4] u) (q_Qi D vwCl (ax_W a cI L) (ax_A a) r0 σ0) 0 0 (ax_A a) := by
  refine Met.ofW (cc := cX10_refusalToMove) (maxL := 8) (ret := (some .int)) (by decide) rfl ?_
  intro p e s m args below meth c s₁ B hml hv
  obtain ⟨rfl, hP, hK⟩ := hv
  have hx := B.exec
  have hb := B.bytes
  have hr := B.returns
  have hts := q_ts (atoms_spec (ws := Cond.code yX10_refusalToMove cX10_refusalToMove 8 (some .int) :: q_T) B.pre)
  have hown : s.vm.findClass RX10 = some m.cls := findClass_of_methodNamed B.named
  have hlocks := B.notSynchronized
  have hS : va_S (ax_A a) s.heap s.heap [] := va_S.rf
  have hl := lv_entry ([.ref (a 0), .int o1, .int o2, .int o3, .int o4]) (n := 8) (Nat.le_of_ble_eq_true rfl)
  rw [lg_entry_eq]
  generalize (lg_sl ([.ref (a 0), .int o1, .int o2, .int o3, .int o4]) ++ List.replicate (8 - (lg_sl ([.ref (a 0), .int o1, .int o2, .int o3, .int o4])).length) Slot.unset).toArray = ls at hl ⊢
  have hl : lv_has ls 8 [(0, .ref (a 0)), (1, .int o1), (2, .int o2), (3, .int o3), (4, .int o4)] := hl
  have hB99 : ∀ (x1 : Int32) (x5 : Int32) (x6 : Int32) (y0 : Int32) (u : q_St) (ls : Array Slot), lv_has ls 8 [(0, .ref (a 0)), (1, .int x1), (5, .int x5), (6, .int x6)] → fX10_refusalToMove_b99 L N x1 x5 x6 y0 u = some (r0, σ0) → ∀ (H : Heap) (locs : List Loc), va_P D vwCl (ax_W a cI L u) H → va_S (ax_A a) s.heap H locs → W p l e (headSpec (Cond.code yX10_refusalToMove cX10_refusalToMove 8 (some .int) :: q_T) ({ frames := 6, cells := 0, slots := 0, locals := 138 } : Room)).room s m ([.ref (a 0), .int o1, .int o2, .int o3, .int o4] : List Value).toArray below meth c H locs 0 0 (MQ below (q_Qi D vwCl (ax_W a cI L) (ax_A a) r0 σ0) ([.ref (a 0), .int o1, .int o2, .int o3, .int o4] : List Value).toArray s 0 0 (ax_A a)) (F0 m 99 ls [.int y0]) := by
    intro x1 x5 x6 y0 u ls hl hF _ _ hP hS
    unfold fX10_refusalToMove_b99 at hF
    refine lv_istore (lv' := [(7, .int y0), (0, .ref (a 0)), (1, .int x1), (5, .int x5), (6, .int x6)]) hx hb dX10_refusalToMove_99 hl (by decide) rfl (fun ls hl => ?_)
    refine lv_iload hx hb dX10_refusalToMove_101 (lv_at hl 4 rfl) ?_
    refine lv_iload_n hx hb dX10_refusalToMove_103 rfl (lv_at hl 2 rfl) ?_
    refine sx_icmp_eq (tgt := 114) hx hb hF dX10_refusalToMove_104 (by decide) (fun hF => ?_) (fun hF => ?_)
    · refine lv_bipush (v := (-13)) hx hb dX10_refusalToMove_114 (by decide) ?_
      exact sx_reti (Wd := (ax_W a cI L)) (σ := u) hx hb hr hF hP hS hlocks dX10_refusalToMove_116
    · refine lv_iload hx hb dX10_refusalToMove_107 (lv_at hl 0 rfl) ?_
      refine lv_iload hx hb dX10_refusalToMove_109 (lv_at hl 3 rfl) ?_
      refine sx_icmp_eq (tgt := 117) hx hb hF dX10_refusalToMove_111 (by decide) (fun hF => ?_) (fun hF => ?_)
      · refine lv_iload hx hb dX10_refusalToMove_117 (lv_at hl 0 rfl) ?_
        refine sx_if_eq (tgt := 139) hx hb hF dX10_refusalToMove_119 (by decide) (fun hF => ?_) (fun hF => ?_)
        · refine lv_iconst (v := 0) hx hb dX10_refusalToMove_139 (by decide) ?_
          exact sx_reti (Wd := (ax_W a cI L)) (σ := u) hx hb hr hF hP hS hlocks dX10_refusalToMove_140
        · refine lv_aload_n hx hb dX10_refusalToMove_122 rfl (lv_at hl 1 rfl) ?_
          refine gx_h_folders hx hb hts hown hK hP fl_X10_75 dX10_refusalToMove_123 ?_
          refine lv_iload hx hb dX10_refusalToMove_126 (lv_at hl 4 rfl) ?_
          obtain ⟨r10, u11, hc12, hF⟩ := q_bnd_some hF
          refine sx_ci (Wd := (ax_W a cI L)) (σ1 := u11) (q_runV (Wd := (ax_W a cI L)) (σ := u) (q0 := 6) (ci := 3) (T := TX3) (N := 5) (As := [.int x6]) (rest := []) hx hb hml hown hts hK hP (kt_X3_nameCount hD hc12) cw_X10_189 rfl rfl ⟨Nat.le_of_ble_eq_true rfl, Nat.le_of_ble_eq_true rfl⟩ rfl rfl rfl hl.1 rfl (Nat.le_of_ble_eq_true rfl) dX10_refusalToMove_128) hS (fun H locs hP hS => ?_)
          refine sx_if_le (tgt := 139) hx hb hF dX10_refusalToMove_131 (by decide) (fun hF => ?_) (fun hF => ?_)
          · refine lv_iconst (v := 0) hx hb dX10_refusalToMove_139 (by decide) ?_
            exact sx_reti (Wd := (ax_W a cI L)) (σ := u11) hx hb hr hF hP hS hlocks dX10_refusalToMove_140
          · refine lv_bipush (v := (-17)) hx hb dX10_refusalToMove_134 (by decide) ?_
            refine lv_goto (tgt := 140) hx hb dX10_refusalToMove_136 (by decide) ?_
            exact sx_reti (Wd := (ax_W a cI L)) (σ := u11) hx hb hr hF hP hS hlocks dX10_refusalToMove_140
      · refine lv_bipush (v := (-13)) hx hb dX10_refusalToMove_114 (by decide) ?_
        exact sx_reti (Wd := (ax_W a cI L)) (σ := u) hx hb hr hF hP hS hlocks dX10_refusalToMove_116
  have hB62 : ∀ (u : q_St) (ls : Array Slot), lv_has ls 8 [] → fX10_refusalToMove_b62 L N u = some (r0, σ0) → ∀ (H : Heap) (locs : List Loc), va_P D vwCl (ax_W a cI L u) H → va_S (ax_A a) s.heap H locs → W p l e (headSpec (Cond.code yX10_refusalToMove cX10_refusalToMove 8 (some .int) :: q_T) ({ frames := 6, cells := 0, slots := 0, locals := 138 } : Room)).room s m ([.ref (a 0), .int o1, .int o2, .int o3, .int o4] : List Value).toArray below meth c H locs 0 0 (MQ below (q_Qi D vwCl (ax_W a cI L) (ax_A a) r0 σ0) ([.ref (a 0), .int o1, .int o2, .int o3, .int o4] : List Value).toArray s 0 0 (ax_A a)) (F0 m 62 ls []) := by
    intro u ls hl hF _ _ hP hS
    unfold fX10_refusalToMove_b62 at hF
    refine lv_iconst (v := 0) hx hb dX10_refusalToMove_62 (by decide) ?_
    refine lv_goto (tgt := 68) hx hb dX10_refusalToMove_63 (by decide) ?_
    exact sx_reti (Wd := (ax_W a cI L)) (σ := u) hx hb hr hF hP hS hlocks dX10_refusalToMove_68
  have hB39 : ∀ (x1 : Int32) (x2 : Int32) (x3 : Int32) (x4 : Int32) (x5 : Int32) (u : q_St) (ls : Array Slot), lv_has ls 8 [(0, .ref (a 0)), (1, .int x1), (2, .int x2), (3, .int x3), (4, .int x4), (5, .int x5)] → fX10_refusalToMove_b39 L N x1 x2 x3 x4 x5 u = some (r0, σ0) → ∀ (H : Heap) (locs : List Loc), va_P D vwCl (ax_W a cI L u) H → va_S (ax_A a) s.heap H locs → W p l e (headSpec (Cond.code yX10_refusalToMove cX10_refusalToMove 8 (some .int) :: q_T) ({ frames := 6, cells := 0, slots := 0, locals := 138 } : Room)).room s m ([.ref (a 0), .int o1, .int o2, .int o3, .int o4] : List Value).toArray below meth c H locs 0 0 (MQ below (q_Qi D vwCl (ax_W a cI L) (ax_A a) r0 σ0) ([.ref (a 0), .int o1, .int o2, .int o3, .int o4] : List Value).toArray s 0 0 (ax_A a)) (F0 m 39 ls []) := by
    intro x1 x2 x3 x4 x5 u ls hl hF _ _ hP hS
    unfold fX10_refusalToMove_b39 at hF
    refine lv_iload hx hb dX10_refusalToMove_39 (lv_at hl 4 rfl) ?_
    refine lv_iconst (v := (-1)) hx hb dX10_refusalToMove_41 (by decide) ?_
    refine sx_icmp_ne (tgt := 69) hx hb hF dX10_refusalToMove_42 (by decide) (fun hF => ?_) (fun hF => ?_)
    · refine lv_aload_n hx hb dX10_refusalToMove_69 rfl (lv_at hl 0 rfl) ?_
      refine gx_h_folders hx hb hts hown hK hP fl_X10_75 dX10_refusalToMove_70 ?_
      refine lv_iload_n hx hb dX10_refusalToMove_73 rfl (lv_at hl 3 rfl) ?_
      refine lv_iload hx hb dX10_refusalToMove_74 (lv_at hl 4 rfl) ?_
      obtain ⟨r4, u5, hc6, hF⟩ := q_bnd_some hF
      refine sx_ci (Wd := (ax_W a cI L)) (σ1 := u5) (q_runV (Wd := (ax_W a cI L)) (σ := u) (q0 := 6) (ci := 3) (T := TX3) (N := 5) (As := [.int x3, .int x4]) (rest := []) hx hb hml hown hts hK hP (kt_X3_nodeAt hD hc6) cw_X10_186 rfl rfl ⟨Nat.le_of_ble_eq_true rfl, Nat.le_of_ble_eq_true rfl⟩ rfl rfl rfl hl.1 rfl (Nat.le_of_ble_eq_true rfl) dX10_refusalToMove_76) hS (fun H locs hP hS => ?_)
      refine lv_istore (lv' := [(6, .int r4), (0, .ref (a 0)), (1, .int x1), (2, .int x2), (3, .int x3), (4, .int x4), (5, .int x5)]) hx hb dX10_refusalToMove_79 hl (by decide) rfl (fun ls hl => ?_)
      refine lv_aload_n hx hb dX10_refusalToMove_81 rfl (lv_at hl 1 rfl) ?_
      refine gx_h_nodes hx hb hts hown hK hP fl_X10_71 dX10_refusalToMove_82 ?_
      refine lv_iload hx hb dX10_refusalToMove_85 (lv_at hl 0 rfl) ?_
      obtain ⟨r7, u8, hc9, hF⟩ := q_bnd_some hF
      refine sx_ci (Wd := (ax_W a cI L)) (σ1 := u8) (q_runV (Wd := (ax_W a cI L)) (σ := u5) (q0 := 5) (ci := 4) (T := TX4) (N := 2) (As := [.int r4]) (rest := []) hx hb hml hown hts hK hP (kt_X4_kindOf hD hc9) cw_X10_173 rfl rfl ⟨Nat.le_of_ble_eq_true rfl, Nat.le_of_ble_eq_true rfl⟩ rfl rfl rfl hl.1 rfl (Nat.le_of_ble_eq_true rfl) dX10_refusalToMove_87) hS (fun H locs hP hS => ?_)
      refine lv_iconst (v := 2) hx hb dX10_refusalToMove_90 (by decide) ?_
      refine sx_icmp_ne (tgt := 98) hx hb hF dX10_refusalToMove_91 (by decide) (fun hF => ?_) (fun hF => ?_)
      · refine lv_iconst (v := 0) hx hb dX10_refusalToMove_98 (by decide) ?_
        exact hB99 x1 x5 r4 0 u8 ls (lv_sub hl [1, 2, 6, 0] rfl) hF _ _ hP hS
      · refine lv_iconst (v := 1) hx hb dX10_refusalToMove_94 (by decide) ?_
        refine lv_goto (tgt := 99) hx hb dX10_refusalToMove_95 (by decide) ?_
        exact hB99 x1 x5 r4 1 u8 ls (lv_sub hl [1, 2, 6, 0] rfl) hF _ _ hP hS
    · refine lv_iload_n hx hb dX10_refusalToMove_45 rfl (lv_at hl 2 rfl) ?_
      refine lv_iload_n hx hb dX10_refusalToMove_46 rfl (lv_at hl 3 rfl) ?_
      refine sx_icmp_eq (tgt := 62) hx hb hF dX10_refusalToMove_47 (by decide) (fun hF => ?_) (fun hF => ?_)
      · exact hB62 u ls (lv_sub hl [] rfl) hF _ _ hP hS
      · refine lv_aload_n hx hb dX10_refusalToMove_50 rfl (lv_at hl 0 rfl) ?_
        refine gx_h_folders hx hb hts hown hK hP fl_X10_75 dX10_refusalToMove_51 ?_
        refine lv_iload_n hx hb dX10_refusalToMove_54 rfl (lv_at hl 3 rfl) ?_
        refine lv_iconst (v := 0) hx hb dX10_refusalToMove_55 (by decide) ?_
        obtain ⟨r13, u14, hc15, hF⟩ := q_bnd_some hF
        refine sx_ci (Wd := (ax_W a cI L)) (σ1 := u14) (q_runV (Wd := (ax_W a cI L)) (σ := u) (q0 := 6) (ci := 3) (T := TX3) (N := 5) (As := [.int x3, .int 0]) (rest := []) hx hb hml hown hts hK hP (kt_X3_hasRoom hD hc15) cw_X10_158 rfl rfl ⟨Nat.le_of_ble_eq_true rfl, Nat.le_of_ble_eq_true rfl⟩ rfl rfl rfl hl.1 rfl (Nat.le_of_ble_eq_true rfl) dX10_refusalToMove_56) hS (fun H locs hP hS => ?_)
        refine sx_if_eq (tgt := 66) hx hb hF dX10_refusalToMove_59 (by decide) (fun hF => ?_) (fun hF => ?_)
        · refine lv_bipush (v := (-16)) hx hb dX10_refusalToMove_66 (by decide) ?_
          exact sx_reti (Wd := (ax_W a cI L)) (σ := u14) hx hb hr hF hP hS hlocks dX10_refusalToMove_68
        · exact hB62 u14 ls (lv_sub hl [] rfl) hF _ _ hP hS
  have hB17 : ∀ (x1 : Int32) (x2 : Int32) (x3 : Int32) (x4 : Int32) (y0 : Int32) (u : q_St) (ls : Array Slot), lv_has ls 8 [(0, .ref (a 0)), (1, .int x1), (2, .int x2), (3, .int x3), (4, .int x4)] → fX10_refusalToMove_b17 L N x1 x2 x3 x4 y0 u = some (r0, σ0) → ∀ (H : Heap) (locs : List Loc), va_P D vwCl (ax_W a cI L u) H → va_S (ax_A a) s.heap H locs → W p l e (headSpec (Cond.code yX10_refusalToMove cX10_refusalToMove 8 (some .int) :: q_T) ({ frames := 6, cells := 0, slots := 0, locals := 138 } : Room)).room s m ([.ref (a 0), .int o1, .int o2, .int o3, .int o4] : List Value).toArray below meth c H locs 0 0 (MQ below (q_Qi D vwCl (ax_W a cI L) (ax_A a) r0 σ0) ([.ref (a 0), .int o1, .int o2, .int o3, .int o4] : List Value).toArray s 0 0 (ax_A a)) (F0 m 17 ls [.int y0]) := by
    intro x1 x2 x3 x4 y0 u ls hl hF _ _ hP hS
    unfold fX10_refusalToMove_b17 at hF
    refine lv_istore (lv' := [(5, .int y0), (0, .ref (a 0)), (1, .int x1), (2, .int x2), (3, .int x3), (4, .int x4)]) hx hb dX10_refusalToMove_17 hl (by decide) rfl (fun ls hl => ?_)
    refine lv_iload hx hb dX10_refusalToMove_19 (lv_at hl 0 rfl) ?_
    refine sx_if_eq (tgt := 39) hx hb hF dX10_refusalToMove_21 (by decide) (fun hF => ?_) (fun hF => ?_)
    · exact hB39 x1 x2 x3 x4 y0 u ls (lv_sub hl [1, 2, 3, 4, 5, 0] rfl) hF _ _ hP hS
    · refine lv_aload_n hx hb dX10_refusalToMove_24 rfl (lv_at hl 1 rfl) ?_
      refine gx_h_nodes hx hb hts hown hK hP fl_X10_71 dX10_refusalToMove_25 ?_
      refine lv_iload_n hx hb dX10_refusalToMove_28 rfl (lv_at hl 4 rfl) ?_
      refine lv_iload_n hx hb dX10_refusalToMove_29 rfl (lv_at hl 2 rfl) ?_
      obtain ⟨r16, u17, hc18, hF⟩ := q_bnd_some hF
      refine sx_ci (Wd := (ax_W a cI L)) (σ1 := u17) (q_runV (Wd := (ax_W a cI L)) (σ := u) (q0 := 5) (ci := 4) (T := TX4) (N := 2) (As := [.int x3, .int x1]) (rest := []) hx hb hml hown hts hK hP (kt_X4_isWithin hD hc18) cw_X10_342 rfl rfl ⟨Nat.le_of_ble_eq_true rfl, Nat.le_of_ble_eq_true rfl⟩ rfl rfl rfl hl.1 rfl (Nat.le_of_ble_eq_true rfl) dX10_refusalToMove_30) hS (fun H locs hP hS => ?_)
      refine sx_if_eq (tgt := 39) hx hb hF dX10_refusalToMove_33 (by decide) (fun hF => ?_) (fun hF => ?_)
      · exact hB39 x1 x2 x3 x4 y0 u17 ls (lv_sub hl [1, 2, 3, 4, 5, 0] rfl) hF _ _ hP hS
      · refine lv_bipush (v := (-18)) hx hb dX10_refusalToMove_36 (by decide) ?_
        exact sx_reti (Wd := (ax_W a cI L)) (σ := u17) hx hb hr hF hP hS hlocks dX10_refusalToMove_38
  unfold fX10_refusalToMove at hF
  refine lv_aload_n hx hb dX10_refusalToMove_0 rfl (lv_at hl 0 rfl) ?_
  refine gx_h_nodes hx hb hts hown hK hP fl_X10_71 dX10_refusalToMove_1 ?_
  refine lv_iload_n hx hb dX10_refusalToMove_4 rfl (lv_at hl 1 rfl) ?_
  obtain ⟨r1, u2, hc3, hF⟩ := q_bnd_some hF
  refine sx_ci (Wd := (ax_W a cI L)) (σ1 := u2) (q_runV (Wd := (ax_W a cI L)) (σ := u) (q0 := 5) (ci := 4) (T := TX4) (N := 2) (As := [.int o1]) (rest := []) hx hb hml hown hts hK hP (kt_X4_kindOf hD hc3) cw_X10_173 rfl rfl ⟨Nat.le_of_ble_eq_true rfl, Nat.le_of_ble_eq_true rfl⟩ rfl rfl rfl hl.1 rfl (Nat.le_of_ble_eq_true rfl) dX10_refusalToMove_5) hS (fun H locs hP hS => ?_)
  refine lv_iconst (v := 2) hx hb dX10_refusalToMove_8 (by decide) ?_
  refine sx_icmp_ne (tgt := 16) hx hb hF dX10_refusalToMove_9 (by decide) (fun hF => ?_) (fun hF => ?_)
  · refine lv_iconst (v := 0) hx hb dX10_refusalToMove_16 (by decide) ?_
    exact hB17 o1 o2 o3 o4 0 u2 ls (lv_sub hl [0, 1, 2, 3, 4] rfl) hF _ _ hP hS
  · refine lv_iconst (v := 1) hx hb dX10_refusalToMove_12 (by decide) ?_
    refine lv_goto (tgt := 17) hx hb dX10_refusalToMove_13 (by decide) ?_
    exact hB17 o1 o2 o3 o4 1 u2 ls (lv_sub hl [0, 1, 2, 3, 4] rfl) hF _ _ hP hS
set_option maxHeartbeats 4000000 in
set_option maxRecDepth 100000 in
theorem kt_X10_rename {N : Nat} {l : Launch} {D : va_G} {a : Nat → Nat} {cI : Nat → ClassId} {L : Nat → Nat} (hD : ∀ σ, va_D (ax_A a) (ax_W a cI L σ)) {o1 : Int32} {o2 : Int64} {o4 : Int32} {o5 : Int64} {u σ0 : q_St} {r0 : Int32} (hF : fX10_rename L N o1 o2 o4 o5 u = some (r0, σ0)) : Met l yX10_rename (Cond.code yX10_rename cX10_rename 12 (some .int) :: q_T) ({ frames := 7, cells := 0, slots := 0, locals := 182 } : Room) (q_P D vwCl (ax_T cI) (ax_W a cI L) [.ref (a 0), .int o1, .long o2, .int o4, .long o5] u) (q_Qi D vwCl (ax_W a cI L) (ax_A a) r0 σ0) 0 0 (ax_A a) := by
  refine Met.ofW (cc := cX10_rename) (maxL := 12) (ret := (some .int)) (by decide) rfl ?_
  intro p e s m args below meth c s₁ B hml hv
  obtain ⟨rfl, hP, hK⟩ := hv
  have hx := B.exec
  have hb := B.bytes
  have hr := B.returns
  have hts := q_ts (atoms_spec (ws := Cond.code yX10_rename cX10_rename 12 (some .int) :: q_T) B.pre)
  have hown : s.vm.findClass RX10 = some m.cls := findClass_of_methodNamed B.named
  have hlocks := B.notSynchronized
  have hS : va_S (ax_A a) s.heap s.heap [] := va_S.rf
  have hl := lv_entry ([.ref (a 0), .int o1, .long o2, .int o4, .long o5]) (n := 12) (Nat.le_of_ble_eq_true rfl)
  rw [lg_entry_eq]
  generalize (lg_sl ([.ref (a 0), .int o1, .long o2, .int o4, .long o5]) ++ List.replicate (12 - (lg_sl ([.ref (a 0), .int o1, .long o2, .int o4, .long o5])).length) Slot.unset).toArray = ls at hl ⊢
  have hl : lv_has ls 12 [(0, .ref (a 0)), (1, .int o1), (2, .long o2), (4, .int o4), (5, .long o5)] := hl
  have hB157 : ∀ (x1 : Int32) (x4 : Int32) (x5 : Int64) (x8 : Int32) (x9 : Int32) (u : q_St) (ls : Array Slot), lv_has ls 12 [(0, .ref (a 0)), (1, .int x1), (4, .int x4), (5, .long x5), (8, .int x8), (9, .int x9)] → fX10_rename_b157 L N x1 x4 x5 x8 x9 u = some (r0, σ0) → ∀ (H : Heap) (locs : List Loc), va_P D vwCl (ax_W a cI L u) H → va_S (ax_A a) s.heap H locs → W p l e (headSpec (Cond.code yX10_rename cX10_rename 12 (some .int) :: q_T) ({ frames := 7, cells := 0, slots := 0, locals := 182 } : Room)).room s m ([.ref (a 0), .int o1, .long o2, .int o4, .long o5] : List Value).toArray below meth c H locs 0 0 (MQ below (q_Qi D vwCl (ax_W a cI L) (ax_A a) r0 σ0) ([.ref (a 0), .int o1, .long o2, .int o4, .long o5] : List Value).toArray s 0 0 (ax_A a)) (F0 m 157 ls []) := by
    intro x1 x4 x5 x8 x9 u ls hl hF _ _ hP hS
    unfold fX10_rename_b157 at hF
    refine lv_aload_n hx hb dX10_rename_157 rfl (lv_at hl 0 rfl) ?_
    refine gx_h_folders hx hb hts hown hK hP fl_X10_75 dX10_rename_158 ?_
    refine lv_iload_n hx hb dX10_rename_161 rfl (lv_at hl 1 rfl) ?_
    refine lv_iload hx hb dX10_rename_162 (lv_at hl 4 rfl) ?_
    obtain ⟨r19, u20, hc21, hF⟩ := q_bnd_some hF
    refine sx_cv (Wd := (ax_W a cI L)) (σ1 := u20) (q_runV (Wd := (ax_W a cI L)) (σ := u) (q0 := 6) (ci := 3) (T := TX3) (N := 5) (As := [.int x1, .int x8]) (rest := []) hx hb hml hown hts hK hP (kt_X3_takeOut hD hc21) cw_X10_192 rfl rfl ⟨Nat.le_of_ble_eq_true rfl, Nat.le_of_ble_eq_true rfl⟩ rfl rfl rfl hl.1 rfl (Nat.le_of_ble_eq_true rfl) dX10_rename_164) hS (fun H locs hP hS => ?_)
    refine lv_aload_n hx hb dX10_rename_167 rfl (lv_at hl 0 rfl) ?_
    refine gx_h_folders hx hb hts hown hK hP fl_X10_75 dX10_rename_168 ?_
    refine lv_iload hx hb dX10_rename_171 (lv_at hl 2 rfl) ?_
    refine lv_lload hx hb dX10_rename_173 (lv_at hl 3 rfl) ?_
    refine lv_iload hx hb dX10_rename_175 (lv_at hl 5 rfl) ?_
    obtain ⟨r22, u23, hc24, hF⟩ := q_bnd_some hF
    refine sx_cv (Wd := (ax_W a cI L)) (σ1 := u23) (q_runV (Wd := (ax_W a cI L)) (σ := u20) (q0 := 6) (ci := 3) (T := TX3) (N := 5) (As := [.int x4, .long x5, .int x9]) (rest := []) hx hb hml hown hts hK hP (kt_X3_add hD hc24) cw_X10_165 rfl rfl ⟨Nat.le_of_ble_eq_true rfl, Nat.le_of_ble_eq_true rfl⟩ rfl rfl rfl hl.1 rfl (Nat.le_of_ble_eq_true rfl) dX10_rename_177) hS (fun H locs hP hS => ?_)
    refine lv_iload_n hx hb dX10_rename_180 rfl (lv_at hl 1 rfl) ?_
    refine lv_iload hx hb dX10_rename_181 (lv_at hl 2 rfl) ?_
    refine sx_icmp_eq (tgt := 210) hx hb hF dX10_rename_183 (by decide) (fun hF => ?_) (fun hF => ?_)
    · refine lv_iload hx hb dX10_rename_210 (lv_at hl 5 rfl) ?_
      exact sx_reti (Wd := (ax_W a cI L)) (σ := u23) hx hb hr hF hP hS hlocks dX10_rename_212
    · refine lv_aload_n hx hb dX10_rename_186 rfl (lv_at hl 0 rfl) ?_
      refine gx_h_nodes hx hb hts hown hK hP fl_X10_71 dX10_rename_187 ?_
      refine lv_iload hx hb dX10_rename_190 (lv_at hl 5 rfl) ?_
      obtain ⟨r25, u26, hc27, hF⟩ := q_bnd_some hF
      refine sx_ci (Wd := (ax_W a cI L)) (σ1 := u26) (q_runV (Wd := (ax_W a cI L)) (σ := u23) (q0 := 5) (ci := 4) (T := TX4) (N := 2) (As := [.int x9]) (rest := []) hx hb hml hown hts hK hP (kt_X4_kindOf hD hc27) cw_X10_173 rfl rfl ⟨Nat.le_of_ble_eq_true rfl, Nat.le_of_ble_eq_true rfl⟩ rfl rfl rfl hl.1 rfl (Nat.le_of_ble_eq_true rfl) dX10_rename_192) hS (fun H locs hP hS => ?_)
      refine lv_iconst (v := 2) hx hb dX10_rename_195 (by decide) ?_
      refine sx_icmp_ne (tgt := 210) hx hb hF dX10_rename_196 (by decide) (fun hF => ?_) (fun hF => ?_)
      · refine lv_iload hx hb dX10_rename_210 (lv_at hl 5 rfl) ?_
        exact sx_reti (Wd := (ax_W a cI L)) (σ := u26) hx hb hr hF hP hS hlocks dX10_rename_212
      · refine lv_aload_n hx hb dX10_rename_199 rfl (lv_at hl 0 rfl) ?_
        refine gx_h_nodes hx hb hts hown hK hP fl_X10_71 dX10_rename_200 ?_
        refine lv_iload hx hb dX10_rename_203 (lv_at hl 5 rfl) ?_
        refine lv_iload hx hb dX10_rename_205 (lv_at hl 2 rfl) ?_
        obtain ⟨r28, u29, hc30, hF⟩ := q_bnd_some hF
        refine sx_cv (Wd := (ax_W a cI L)) (σ1 := u29) (q_runV (Wd := (ax_W a cI L)) (σ := u26) (q0 := 5) (ci := 4) (T := TX4) (N := 2) (As := [.int x9, .int x4]) (rest := []) hx hb hml hown hts hK hP (kt_X4_setHolder hD hc30) cw_X10_134 rfl rfl ⟨Nat.le_of_ble_eq_true rfl, Nat.le_of_ble_eq_true rfl⟩ rfl rfl rfl hl.1 rfl (Nat.le_of_ble_eq_true rfl) dX10_rename_207) hS (fun H locs hP hS => ?_)
        refine lv_iload hx hb dX10_rename_210 (lv_at hl 5 rfl) ?_
        exact sx_reti (Wd := (ax_W a cI L)) (σ := u29) hx hb hr hF hP hS hlocks dX10_rename_212
  have hB83 : ∀ (x1 : Int32) (x4 : Int32) (x5 : Int64) (x8 : Int32) (x9 : Int32) (u : q_St) (ls : Array Slot), lv_has ls 12 [(0, .ref (a 0)), (1, .int x1), (4, .int x4), (5, .long x5), (8, .int x8), (9, .int x9)] → fX10_rename_b83 L N x1 x4 x5 x8 x9 u = some (r0, σ0) → ∀ (H : Heap) (locs : List Loc), va_P D vwCl (ax_W a cI L u) H → va_S (ax_A a) s.heap H locs → W p l e (headSpec (Cond.code yX10_rename cX10_rename 12 (some .int) :: q_T) ({ frames := 7, cells := 0, slots := 0, locals := 182 } : Room)).room s m ([.ref (a 0), .int o1, .long o2, .int o4, .long o5] : List Value).toArray below meth c H locs 0 0 (MQ below (q_Qi D vwCl (ax_W a cI L) (ax_A a) r0 σ0) ([.ref (a 0), .int o1, .long o2, .int o4, .long o5] : List Value).toArray s 0 0 (ax_A a)) (F0 m 83 ls []) := by
    intro x1 x4 x5 x8 x9 u ls hl hF _ _ hP hS
    unfold fX10_rename_b83 at hF
    refine lv_aload_n hx hb dX10_rename_83 rfl (lv_at hl 0 rfl) ?_
    refine gx_h_folders hx hb hts hown hK hP fl_X10_75 dX10_rename_84 ?_
    refine lv_iload hx hb dX10_rename_87 (lv_at hl 2 rfl) ?_
    refine lv_lload hx hb dX10_rename_89 (lv_at hl 3 rfl) ?_
    obtain ⟨r13, u14, hc15, hF⟩ := q_bnd_some hF
    refine sx_ci (Wd := (ax_W a cI L)) (σ1 := u14) (q_runV (Wd := (ax_W a cI L)) (σ := u) (q0 := 6) (ci := 3) (T := TX3) (N := 5) (As := [.int x4, .long x5]) (rest := []) hx hb hml hown hts hK hP (kt_X3_seek hD hc15) cw_X10_151 rfl rfl ⟨Nat.le_of_ble_eq_true rfl, Nat.le_of_ble_eq_true rfl⟩ rfl rfl rfl hl.1 rfl (Nat.le_of_ble_eq_true rfl) dX10_rename_91) hS (fun H locs hP hS => ?_)
    refine lv_istore (lv' := [(10, .int r13), (0, .ref (a 0)), (1, .int x1), (4, .int x4), (5, .long x5), (8, .int x8), (9, .int x9)]) hx hb dX10_rename_94 hl (by decide) rfl (fun ls hl => ?_)
    refine lv_aload_n hx hb dX10_rename_96 rfl (lv_at hl 1 rfl) ?_
    refine lv_iload hx hb dX10_rename_97 (lv_at hl 6 rfl) ?_
    refine lv_iload_n hx hb dX10_rename_99 rfl (lv_at hl 2 rfl) ?_
    refine lv_iload hx hb dX10_rename_100 (lv_at hl 3 rfl) ?_
    refine lv_iload hx hb dX10_rename_102 (lv_at hl 0 rfl) ?_
    obtain ⟨r16, u17, hc18, hF⟩ := q_bnd_some hF
    refine sx_ci (Wd := (ax_W a cI L)) (σ1 := u17) (q_runV (Wd := (ax_W a cI L)) (σ := u14) (q0 := 0) (ci := 10) (T := TX10) (N := 11) (As := [.int x9, .int x1, .int x4, .int r13]) (rest := []) hx hb hml hown hts hK hP (kt_X10_refusalToMove hD hc18) cw_X10_202 rfl rfl ⟨Nat.le_of_ble_eq_true rfl, Nat.le_of_ble_eq_true rfl⟩ rfl rfl rfl hl.1 rfl (Nat.le_of_ble_eq_true rfl) dX10_rename_104) hS (fun H locs hP hS => ?_)
    refine lv_istore (lv' := [(7, .int r16), (10, .int r13), (0, .ref (a 0)), (1, .int x1), (4, .int x4), (5, .long x5), (8, .int x8), (9, .int x9)]) hx hb dX10_rename_107 hl (by decide) rfl (fun ls hl => ?_)
    refine lv_iload hx hb dX10_rename_109 (lv_at hl 0 rfl) ?_
    refine sx_if_eq (tgt := 117) hx hb hF dX10_rename_111 (by decide) (fun hF => ?_) (fun hF => ?_)
    · refine lv_iload hx hb dX10_rename_117 (lv_at hl 1 rfl) ?_
      refine lv_iconst (v := (-1)) hx hb dX10_rename_119 (by decide) ?_
      refine sx_icmp_eq (tgt := 157) hx hb hF dX10_rename_120 (by decide) (fun hF => ?_) (fun hF => ?_)
      · exact hB157 x1 x4 x5 x8 x9 u17 ls (lv_sub hl [2, 3, 4, 5, 6, 7] rfl) hF _ _ hP hS
      · refine lv_aload_n hx hb dX10_rename_123 rfl (lv_at hl 2 rfl) ?_
        refine gx_h_folders hx hb hts hown hK hP fl_X10_75 dX10_rename_124 ?_
        refine lv_iload hx hb dX10_rename_127 (lv_at hl 4 rfl) ?_
        refine lv_iload hx hb dX10_rename_129 (lv_at hl 1 rfl) ?_
        obtain ⟨r31, u32, hc33, hF⟩ := q_bnd_some hF
        refine sx_ci (Wd := (ax_W a cI L)) (σ1 := u32) (q_runV (Wd := (ax_W a cI L)) (σ := u17) (q0 := 6) (ci := 3) (T := TX3) (N := 5) (As := [.int x4, .int r13]) (rest := []) hx hb hml hown hts hK hP (kt_X3_nodeAt hD hc33) cw_X10_186 rfl rfl ⟨Nat.le_of_ble_eq_true rfl, Nat.le_of_ble_eq_true rfl⟩ rfl rfl rfl hl.1 rfl (Nat.le_of_ble_eq_true rfl) dX10_rename_131) hS (fun H locs hP hS => ?_)
        refine lv_istore (lv' := [(11, .int r31), (7, .int r16), (10, .int r13), (0, .ref (a 0)), (1, .int x1), (4, .int x4), (5, .long x5), (8, .int x8), (9, .int x9)]) hx hb dX10_rename_134 hl (by decide) rfl (fun ls hl => ?_)
        refine lv_aload_n hx hb dX10_rename_136 rfl (lv_at hl 3 rfl) ?_
        refine gx_h_folders hx hb hts hown hK hP fl_X10_75 dX10_rename_137 ?_
        refine lv_iload hx hb dX10_rename_140 (lv_at hl 5 rfl) ?_
        refine lv_iload hx hb dX10_rename_142 (lv_at hl 2 rfl) ?_
        obtain ⟨r34, u35, hc36, hF⟩ := q_bnd_some hF
        refine sx_cv (Wd := (ax_W a cI L)) (σ1 := u35) (q_runV (Wd := (ax_W a cI L)) (σ := u32) (q0 := 6) (ci := 3) (T := TX3) (N := 5) (As := [.int x4, .int r13]) (rest := []) hx hb hml hown hts hK hP (kt_X3_takeOut hD hc36) cw_X10_192 rfl rfl ⟨Nat.le_of_ble_eq_true rfl, Nat.le_of_ble_eq_true rfl⟩ rfl rfl rfl hl.1 rfl (Nat.le_of_ble_eq_true rfl) dX10_rename_144) hS (fun H locs hP hS => ?_)
        refine lv_aload_n hx hb dX10_rename_147 rfl (lv_at hl 3 rfl) ?_
        refine gx_h_bodies hx hb hts hown hK hP fl_X10_91 dX10_rename_148 ?_
        refine lv_iload hx hb dX10_rename_151 (lv_at hl 0 rfl) ?_
        obtain ⟨r37, u38, hc39, hF⟩ := q_bnd_some hF
        refine sx_ci (Wd := (ax_W a cI L)) (σ1 := u38) (q_runV (Wd := (ax_W a cI L)) (σ := u35) (q0 := 7) (ci := 0) (T := TX0) (N := 4) (As := [.int r31]) (rest := []) hx hb hml hown hts hK hP (kt_X0_dropOne hD hc39) cw_X10_195 rfl rfl ⟨Nat.le_of_ble_eq_true rfl, Nat.le_of_ble_eq_true rfl⟩ rfl rfl rfl hl.1 rfl (Nat.le_of_ble_eq_true rfl) dX10_rename_153) hS (fun H locs hP hS => ?_)
        refine lv_pop hx hb dX10_rename_156 rfl ?_
        exact hB157 x1 x4 x5 x8 x9 u38 ls (lv_sub hl [3, 4, 5, 6, 7, 8] rfl) hF _ _ hP hS
    · refine lv_iload hx hb dX10_rename_114 (lv_at hl 0 rfl) ?_
      exact sx_reti (Wd := (ax_W a cI L)) (σ := u17) hx hb hr hF hP hS hlocks dX10_rename_116
  unfold fX10_rename at hF
  refine lv_aload_n hx hb dX10_rename_0 rfl (lv_at hl 0 rfl) ?_
  refine gx_h_store hx hb hts hown hK hP fl_X10_63 dX10_rename_1 ?_
  refine lv_bipush (v := 40) hx hb dX10_rename_4 (by decide) ?_
  obtain ⟨r1, u2, hc3, hF⟩ := q_bnd_some hF
  refine sx_ci (Wd := (ax_W a cI L)) (σ1 := u2) (q_runV (Wd := (ax_W a cI L)) (σ := u) (q0 := 3) (ci := 6) (T := TX6) (N := 9) (As := [.int 40]) (rest := []) hx hb hml hown hts hK hP (kt_X6_commitOver hD hc3) cw_X10_126 rfl rfl ⟨Nat.le_of_ble_eq_true rfl, Nat.le_of_ble_eq_true rfl⟩ rfl rfl rfl hl.1 rfl (Nat.le_of_ble_eq_true rfl) dX10_rename_6) hS (fun H locs hP hS => ?_)
  refine sx_if_ne (tgt := 15) hx hb hF dX10_rename_9 (by decide) (fun hF => ?_) (fun hF => ?_)
  · refine lv_aload_n hx hb dX10_rename_15 rfl (lv_at hl 0 rfl) ?_
    refine lv_iload_n hx hb dX10_rename_16 rfl (lv_at hl 1 rfl) ?_
    refine lv_lload_n hx hb dX10_rename_17 rfl (lv_at hl 2 rfl) ?_
    refine lv_iload hx hb dX10_rename_18 (lv_at hl 3 rfl) ?_
    refine lv_lload hx hb dX10_rename_20 (lv_at hl 4 rfl) ?_
    obtain ⟨r4, u5, hc6, hF⟩ := q_bnd_some hF
    refine sx_ci (Wd := (ax_W a cI L)) (σ1 := u5) (q_runV (Wd := (ax_W a cI L)) (σ := u2) (q0 := 0) (ci := 10) (T := TX10) (N := 11) (As := [.int o1, .long o2, .int o4, .long o5]) (rest := []) hx hb hml hown hts hK hP (kt_X10_refusalToGoByBoth hD hc6) cw_X10_198 rfl rfl ⟨Nat.le_of_ble_eq_true rfl, Nat.le_of_ble_eq_true rfl⟩ rfl rfl rfl hl.1 rfl (Nat.le_of_ble_eq_true rfl) dX10_rename_22) hS (fun H locs hP hS => ?_)
    refine lv_istore (lv' := [(7, .int r4), (0, .ref (a 0)), (1, .int o1), (2, .long o2), (4, .int o4), (5, .long o5)]) hx hb dX10_rename_25 hl (by decide) rfl (fun ls hl => ?_)
    refine lv_iload hx hb dX10_rename_27 (lv_at hl 0 rfl) ?_
    refine sx_if_eq (tgt := 35) hx hb hF dX10_rename_29 (by decide) (fun hF => ?_) (fun hF => ?_)
    · refine lv_aload_n hx hb dX10_rename_35 rfl (lv_at hl 1 rfl) ?_
      refine gx_h_folders hx hb hts hown hK hP fl_X10_75 dX10_rename_36 ?_
      refine lv_iload_n hx hb dX10_rename_39 rfl (lv_at hl 2 rfl) ?_
      refine lv_lload_n hx hb dX10_rename_40 rfl (lv_at hl 3 rfl) ?_
      obtain ⟨r7, u8, hc9, hF⟩ := q_bnd_some hF
      refine sx_ci (Wd := (ax_W a cI L)) (σ1 := u8) (q_runV (Wd := (ax_W a cI L)) (σ := u5) (q0 := 6) (ci := 3) (T := TX3) (N := 5) (As := [.int o1, .long o2]) (rest := []) hx hb hml hown hts hK hP (kt_X3_seek hD hc9) cw_X10_151 rfl rfl ⟨Nat.le_of_ble_eq_true rfl, Nat.le_of_ble_eq_true rfl⟩ rfl rfl rfl hl.1 rfl (Nat.le_of_ble_eq_true rfl) dX10_rename_41) hS (fun H locs hP hS => ?_)
      refine lv_istore (lv' := [(8, .int r7), (7, .int r4), (0, .ref (a 0)), (1, .int o1), (2, .long o2), (4, .int o4), (5, .long o5)]) hx hb dX10_rename_44 hl (by decide) rfl (fun ls hl => ?_)
      refine lv_iload hx hb dX10_rename_46 (lv_at hl 0 rfl) ?_
      refine lv_iconst (v := (-1)) hx hb dX10_rename_48 (by decide) ?_
      refine sx_icmp_ne (tgt := 55) hx hb hF dX10_rename_49 (by decide) (fun hF => ?_) (fun hF => ?_)
      · refine lv_aload_n hx hb dX10_rename_55 rfl (lv_at hl 2 rfl) ?_
        refine gx_h_folders hx hb hts hown hK hP fl_X10_75 dX10_rename_56 ?_
        refine lv_iload_n hx hb dX10_rename_59 rfl (lv_at hl 3 rfl) ?_
        refine lv_iload hx hb dX10_rename_60 (lv_at hl 0 rfl) ?_
        obtain ⟨r10, u11, hc12, hF⟩ := q_bnd_some hF
        refine sx_ci (Wd := (ax_W a cI L)) (σ1 := u11) (q_runV (Wd := (ax_W a cI L)) (σ := u8) (q0 := 6) (ci := 3) (T := TX3) (N := 5) (As := [.int o1, .int r7]) (rest := []) hx hb hml hown hts hK hP (kt_X3_nodeAt hD hc12) cw_X10_186 rfl rfl ⟨Nat.le_of_ble_eq_true rfl, Nat.le_of_ble_eq_true rfl⟩ rfl rfl rfl hl.1 rfl (Nat.le_of_ble_eq_true rfl) dX10_rename_62) hS (fun H locs hP hS => ?_)
        refine lv_istore (lv' := [(9, .int r10), (8, .int r7), (7, .int r4), (0, .ref (a 0)), (1, .int o1), (2, .long o2), (4, .int o4), (5, .long o5)]) hx hb dX10_rename_65 hl (by decide) rfl (fun ls hl => ?_)
        refine lv_iload_n hx hb dX10_rename_67 rfl (lv_at hl 4 rfl) ?_
        refine lv_iload hx hb dX10_rename_68 (lv_at hl 6 rfl) ?_
        refine sx_icmp_ne (tgt := 83) hx hb hF dX10_rename_70 (by decide) (fun hF => ?_) (fun hF => ?_)
        · exact hB83 o1 o4 o5 r7 r10 u11 ls (lv_sub hl [3, 4, 6, 7, 1, 0] rfl) hF _ _ hP hS
        · refine lv_lload_n hx hb dX10_rename_73 rfl (lv_at hl 5 rfl) ?_
          refine lv_lload hx hb dX10_rename_74 (lv_at hl 7 rfl) ?_
          refine W.lcmp hx hb dX10_rename_76 ?_
          refine sx_if_ne (tgt := 83) hx hb hF dX10_rename_77 (by decide) (fun hF => ?_) (fun hF => ?_)
          · exact hB83 o1 o4 o5 r7 r10 u11 ls (lv_sub hl [3, 4, 6, 7, 1, 0] rfl) hF _ _ hP hS
          · refine lv_iload hx hb dX10_rename_80 (lv_at hl 0 rfl) ?_
            exact sx_reti (Wd := (ax_W a cI L)) (σ := u11) hx hb hr hF hP hS hlocks dX10_rename_82
      · refine lv_bipush (v := (-12)) hx hb dX10_rename_52 (by decide) ?_
        exact sx_reti (Wd := (ax_W a cI L)) (σ := u8) hx hb hr hF hP hS hlocks dX10_rename_54
    · refine lv_iload hx hb dX10_rename_32 (lv_at hl 0 rfl) ?_
      exact sx_reti (Wd := (ax_W a cI L)) (σ := u5) hx hb hr hF hP hS hlocks dX10_rename_34
  · refine lv_bipush (v := (-99)) hx hb dX10_rename_12 (by decide) ?_
    exact sx_reti (Wd := (ax_W a cI L)) (σ := u2) hx hb hr hF hP hS hlocks dX10_rename_14
set_option maxHeartbeats 4000000 in
set_option maxRecDepth 100000 in
theorem kt_X10_find {N : Nat} {l : Launch} {D : va_G} {a : Nat → Nat} {cI : Nat → ClassId} {L : Nat → Nat} (hD : ∀ σ, va_D (ax_A a) (ax_W a cI L σ)) {o1 : Int32} {o2 : Int64} {u σ0 : q_St} {r0 : Int32} (hF : fX10_find L N o1 o2 u = some (r0, σ0)) : Met l yX10_find (Cond.code yX10_find cX10_find 5 (some .int) :: q_T) ({ frames := 5, cells := 0, slots := 0, locals := 116 } : Room) (q_P D vwCl (ax_T cI) (ax_W a cI L) [.ref (a 0), .int o1, .long o2] u) (q_Qi D vwCl (ax_W a cI L) (ax_A a) r0 σ0) 0 0 (ax_A a) := by
  refine Met.ofW (cc := cX10_find) (maxL := 5) (ret := (some .int)) (by decide) rfl ?_
  intro p e s m args below meth c s₁ B hml hv
  obtain ⟨rfl, hP, hK⟩ := hv
  have hx := B.exec
  have hb := B.bytes
  have hr := B.returns
  have hts := q_ts (atoms_spec (ws := Cond.code yX10_find cX10_find 5 (some .int) :: q_T) B.pre)
  have hown : s.vm.findClass RX10 = some m.cls := findClass_of_methodNamed B.named
  have hlocks := B.notSynchronized
  have hS : va_S (ax_A a) s.heap s.heap [] := va_S.rf
  have hl := lv_entry ([.ref (a 0), .int o1, .long o2]) (n := 5) (Nat.le_of_ble_eq_true rfl)
  rw [lg_entry_eq]
  generalize (lg_sl ([.ref (a 0), .int o1, .long o2]) ++ List.replicate (5 - (lg_sl ([.ref (a 0), .int o1, .long o2])).length) Slot.unset).toArray = ls at hl ⊢
  have hl : lv_has ls 5 [(0, .ref (a 0)), (1, .int o1), (2, .long o2)] := hl
  unfold fX10_find at hF
  refine lv_aload_n hx hb dX10_find_0 rfl (lv_at hl 0 rfl) ?_
  refine gx_h_disk hx hb hts hown hK hP fl_X10_53 dX10_find_1 ?_
  refine gx_disk_on hx hb hts hown hK hP fl_X10_122 dX10_find_4 ?_
  refine sx_if_ne (tgt := 13) hx hb hF dX10_find_7 (by decide) (fun hF => ?_) (fun hF => ?_)
  · refine lv_aload_n hx hb dX10_find_13 rfl (lv_at hl 0 rfl) ?_
    refine gx_h_nodes hx hb hts hown hK hP fl_X10_71 dX10_find_14 ?_
    refine lv_iload_n hx hb dX10_find_17 rfl (lv_at hl 1 rfl) ?_
    obtain ⟨r1, u2, hc3, hF⟩ := q_bnd_some hF
    refine sx_ci (Wd := (ax_W a cI L)) (σ1 := u2) (q_runV (Wd := (ax_W a cI L)) (σ := u) (q0 := 5) (ci := 4) (T := TX4) (N := 2) (As := [.int o1]) (rest := []) hx hb hml hown hts hK hP (kt_X4_kindOf hD hc3) cw_X10_173 rfl rfl ⟨Nat.le_of_ble_eq_true rfl, Nat.le_of_ble_eq_true rfl⟩ rfl rfl rfl hl.1 rfl (Nat.le_of_ble_eq_true rfl) dX10_find_18) hS (fun H locs hP hS => ?_)
    refine lv_iconst (v := 2) hx hb dX10_find_21 (by decide) ?_
    refine sx_icmp_eq (tgt := 28) hx hb hF dX10_find_22 (by decide) (fun hF => ?_) (fun hF => ?_)
    · refine lv_lload_n hx hb dX10_find_28 rfl (lv_at hl 2 rfl) ?_
      obtain ⟨r4, u5, hc6, hF⟩ := q_bnd_some hF
      refine sx_ci (Wd := (ax_W a cI L)) (σ1 := u5) (q_runS (Wd := (ax_W a cI L)) (σ := u2) (As := [.long o2]) (rest := []) hx hb hml hown hts hK hP (kt_X3_isName hD hc6) cw_X10_206 rfl rfl ⟨Nat.le_of_ble_eq_true rfl, Nat.le_of_ble_eq_true rfl⟩ rfl hl.1 rfl (Nat.le_of_ble_eq_true rfl) dX10_find_29) hS (fun H locs hP hS => ?_)
      refine sx_if_ne (tgt := 38) hx hb hF dX10_find_32 (by decide) (fun hF => ?_) (fun hF => ?_)
      · refine lv_aload_n hx hb dX10_find_38 rfl (lv_at hl 0 rfl) ?_
        refine gx_h_nodes hx hb hts hown hK hP fl_X10_71 dX10_find_39 ?_
        refine lv_iload_n hx hb dX10_find_42 rfl (lv_at hl 1 rfl) ?_
        refine lv_iconst (v := 1) hx hb dX10_find_43 (by decide) ?_
        refine lv_aload_n hx hb dX10_find_44 rfl (lv_at hl 0 rfl) ?_
        refine gx_h_who hx hb hts hown hK hP fl_X10_113 dX10_find_45 ?_
        obtain ⟨r7, u8, hc9, hF⟩ := q_bnd_some hF
        refine sx_ci (Wd := (ax_W a cI L)) (σ1 := u8) (q_runV (Wd := (ax_W a cI L)) (σ := u5) (q0 := 5) (ci := 4) (T := TX4) (N := 2) (As := [.int o1, .int 1, .int (q_i u5 0)]) (rest := []) hx hb hml hown hts hK hP (kt_X4_may hD hc9) cw_X10_176 rfl rfl ⟨Nat.le_of_ble_eq_true rfl, Nat.le_of_ble_eq_true rfl⟩ rfl rfl rfl hl.1 rfl (Nat.le_of_ble_eq_true rfl) dX10_find_48) hS (fun H locs hP hS => ?_)
        refine sx_if_ne (tgt := 57) hx hb hF dX10_find_51 (by decide) (fun hF => ?_) (fun hF => ?_)
        · refine lv_aload_n hx hb dX10_find_57 rfl (lv_at hl 0 rfl) ?_
          refine gx_h_folders hx hb hts hown hK hP fl_X10_75 dX10_find_58 ?_
          refine lv_iload_n hx hb dX10_find_61 rfl (lv_at hl 1 rfl) ?_
          refine lv_lload_n hx hb dX10_find_62 rfl (lv_at hl 2 rfl) ?_
          obtain ⟨r10, u11, hc12, hF⟩ := q_bnd_some hF
          refine sx_ci (Wd := (ax_W a cI L)) (σ1 := u11) (q_runV (Wd := (ax_W a cI L)) (σ := u8) (q0 := 6) (ci := 3) (T := TX3) (N := 5) (As := [.int o1, .long o2]) (rest := []) hx hb hml hown hts hK hP (kt_X3_seek hD hc12) cw_X10_151 rfl rfl ⟨Nat.le_of_ble_eq_true rfl, Nat.le_of_ble_eq_true rfl⟩ rfl rfl rfl hl.1 rfl (Nat.le_of_ble_eq_true rfl) dX10_find_63) hS (fun H locs hP hS => ?_)
          refine lv_istore (lv' := [(4, .int r10), (0, .ref (a 0)), (1, .int o1), (2, .long o2)]) hx hb dX10_find_66 hl (by decide) rfl (fun ls hl => ?_)
          refine lv_iload hx hb dX10_find_68 (lv_at hl 0 rfl) ?_
          refine lv_iconst (v := (-1)) hx hb dX10_find_70 (by decide) ?_
          refine sx_icmp_ne (tgt := 79) hx hb hF dX10_find_71 (by decide) (fun hF => ?_) (fun hF => ?_)
          · refine lv_aload_n hx hb dX10_find_79 rfl (lv_at hl 1 rfl) ?_
            refine gx_h_folders hx hb hts hown hK hP fl_X10_75 dX10_find_80 ?_
            refine lv_iload_n hx hb dX10_find_83 rfl (lv_at hl 2 rfl) ?_
            refine lv_iload hx hb dX10_find_84 (lv_at hl 0 rfl) ?_
            obtain ⟨r13, u14, hc15, hF⟩ := q_bnd_some hF
            refine sx_ci (Wd := (ax_W a cI L)) (σ1 := u14) (q_runV (Wd := (ax_W a cI L)) (σ := u11) (q0 := 6) (ci := 3) (T := TX3) (N := 5) (As := [.int o1, .int r10]) (rest := []) hx hb hml hown hts hK hP (kt_X3_nodeAt hD hc15) cw_X10_186 rfl rfl ⟨Nat.le_of_ble_eq_true rfl, Nat.le_of_ble_eq_true rfl⟩ rfl rfl rfl hl.1 rfl (Nat.le_of_ble_eq_true rfl) dX10_find_86) hS (fun H locs hP hS => ?_)
            exact sx_reti (Wd := (ax_W a cI L)) (σ := u14) hx hb hr hF hP hS hlocks dX10_find_89
          · refine lv_bipush (v := (-12)) hx hb dX10_find_74 (by decide) ?_
            refine lv_goto (tgt := 89) hx hb dX10_find_76 (by decide) ?_
            exact sx_reti (Wd := (ax_W a cI L)) (σ := u11) hx hb hr hF hP hS hlocks dX10_find_89
        · refine lv_bipush (v := (-20)) hx hb dX10_find_54 (by decide) ?_
          exact sx_reti (Wd := (ax_W a cI L)) (σ := u8) hx hb hr hF hP hS hlocks dX10_find_56
      · refine lv_bipush (v := (-11)) hx hb dX10_find_35 (by decide) ?_
        exact sx_reti (Wd := (ax_W a cI L)) (σ := u5) hx hb hr hF hP hS hlocks dX10_find_37
    · refine lv_bipush (v := (-10)) hx hb dX10_find_25 (by decide) ?_
      exact sx_reti (Wd := (ax_W a cI L)) (σ := u2) hx hb hr hF hP hS hlocks dX10_find_27
  · refine lv_bipush (v := (-99)) hx hb dX10_find_10 (by decide) ?_
    exact sx_reti (Wd := (ax_W a cI L)) (σ := u) hx hb hr hF hP hS hlocks dX10_find_12
set_option maxHeartbeats 4000000 in
set_option maxRecDepth 100000 in
theorem kt_X9_byteOf {N : Nat} {l : Launch} {D : va_G} {a : Nat → Nat} {cI : Nat → ClassId} {L : Nat → Nat} (hD : ∀ σ, va_D (ax_A a) (ax_W a cI L σ)) {o1 : Int32} {o2 : Int32} {u σ0 : q_St} {r0 : Int32} (hF : fX9_byteOf L N o1 o2 u = some (r0, σ0)) : Met l yX9_byteOf (Cond.code yX9_byteOf cX9_byteOf 3 (some .int) :: q_T) ({ frames := 3, cells := 0, slots := 0, locals := 68 } : Room) (q_P D vwCl (ax_T cI) (ax_W a cI L) [.ref (a 10), .int o1, .int o2] u) (q_Qi D vwCl (ax_W a cI L) (ax_A a) r0 σ0) 0 0 (ax_A a) := by
  refine Met.ofW (cc := cX9_byteOf) (maxL := 3) (ret := (some .int)) (by decide) rfl ?_
  intro p e s m args below meth c s₁ B hml hv
  obtain ⟨rfl, hP, hK⟩ := hv
  have hx := B.exec
  have hb := B.bytes
  have hr := B.returns
  have hts := q_ts (atoms_spec (ws := Cond.code yX9_byteOf cX9_byteOf 3 (some .int) :: q_T) B.pre)
  have hown : s.vm.findClass RX9 = some m.cls := findClass_of_methodNamed B.named
  have hlocks := B.notSynchronized
  have hS : va_S (ax_A a) s.heap s.heap [] := va_S.rf
  have hl := lv_entry ([.ref (a 10), .int o1, .int o2]) (n := 3) (Nat.le_of_ble_eq_true rfl)
  rw [lg_entry_eq]
  generalize (lg_sl ([.ref (a 10), .int o1, .int o2]) ++ List.replicate (3 - (lg_sl ([.ref (a 10), .int o1, .int o2])).length) Slot.unset).toArray = ls at hl ⊢
  have hl : lv_has ls 3 [(0, .ref (a 10)), (1, .int o1), (2, .int o2)] := hl
  unfold fX9_byteOf at hF
  refine lv_iload_n hx hb dX9_byteOf_0 rfl (lv_at hl 1 rfl) ?_
  refine lv_iconst (v := (-1)) hx hb dX9_byteOf_1 (by decide) ?_
  refine sx_icmp_ne (tgt := 16) hx hb hF dX9_byteOf_2 (by decide) (fun hF => ?_) (fun hF => ?_)
  · refine lv_aload_n hx hb dX9_byteOf_16 rfl (lv_at hl 0 rfl) ?_
    refine gx_walker_store hx hb hts hown hK hP fl_X9_9 dX9_byteOf_17 ?_
    refine lv_aload_n hx hb dX9_byteOf_20 rfl (lv_at hl 0 rfl) ?_
    refine gx_walker_nodes hx hb hts hown hK hP fl_X9_15 dX9_byteOf_21 ?_
    refine lv_iload_n hx hb dX9_byteOf_24 rfl (lv_at hl 1 rfl) ?_
    obtain ⟨r1, u2, hc3, hF⟩ := q_bnd_some hF
    refine sx_ci (Wd := (ax_W a cI L)) (σ1 := u2) (q_runV (Wd := (ax_W a cI L)) (σ := u) (q0 := 5) (ci := 4) (T := TX4) (N := 2) (As := [.int o1]) (rest := [.ref (a 3)]) hx hb hml hown hts hK hP (kt_X4_sectorOf hD hc3) cw_X9_63 rfl rfl ⟨Nat.le_of_ble_eq_true rfl, Nat.le_of_ble_eq_true rfl⟩ rfl rfl rfl hl.1 rfl (Nat.le_of_ble_eq_true rfl) dX9_byteOf_25) hS (fun H locs hP hS => ?_)
    refine lv_bipush (v := 24) hx hb dX9_byteOf_28 (by decide) ?_
    refine lv_iload_n hx hb dX9_byteOf_30 rfl (lv_at hl 2 rfl) ?_
    refine lv_iadd hx hb dX9_byteOf_31 ?_
    obtain ⟨r4, u5, hc6, hF⟩ := q_bnd_some hF
    refine sx_ci (Wd := (ax_W a cI L)) (σ1 := u5) (q_runV (Wd := (ax_W a cI L)) (σ := u2) (q0 := 3) (ci := 6) (T := TX6) (N := 9) (As := [.int r1, .int (24 + o2)]) (rest := []) hx hb hml hown hts hK hP (kt_X6_octet hD hc6) cw_X9_68 rfl rfl ⟨Nat.le_of_ble_eq_true rfl, Nat.le_of_ble_eq_true rfl⟩ rfl rfl rfl hl.1 rfl (Nat.le_of_ble_eq_true rfl) dX9_byteOf_32) hS (fun H locs hP hS => ?_)
    exact sx_reti (Wd := (ax_W a cI L)) (σ := u5) hx hb hr hF hP hS hlocks dX9_byteOf_35
  · refine lv_aload_n hx hb dX9_byteOf_5 rfl (lv_at hl 0 rfl) ?_
    refine gx_walker_tape hx hb hts hown hK hP fl_X9_23 dX9_byteOf_6 ?_
    refine lv_iload_n hx hb dX9_byteOf_9 rfl (lv_at hl 2 rfl) ?_
    obtain ⟨r7, u8, hc9, hF⟩ := q_bnd_some hF
    refine sx_ci (Wd := (ax_W a cI L)) (σ1 := u8) (q_runV (Wd := (ax_W a cI L)) (σ := u) (q0 := 8) (ci := 7) (T := TX7) (N := 2) (As := [.int o2]) (rest := []) hx hb hml hown hts hK hP (kt_X7_byteOf_8 hD hc9) cw_X9_59 rfl rfl ⟨Nat.le_of_ble_eq_true rfl, Nat.le_of_ble_eq_true rfl⟩ rfl rfl rfl hl.1 rfl (Nat.le_of_ble_eq_true rfl) dX9_byteOf_10) hS (fun H locs hP hS => ?_)
    refine lv_goto (tgt := 35) hx hb dX9_byteOf_13 (by decide) ?_
    exact sx_reti (Wd := (ax_W a cI L)) (σ := u8) hx hb hr hF hP hS hlocks dX9_byteOf_35
set_option maxHeartbeats 4000000 in
set_option maxRecDepth 100000 in
theorem kt_X9_begin {N : Nat} {l : Launch} {D : va_G} {a : Nat → Nat} {cI : Nat → ClassId} {L : Nat → Nat} (hD : ∀ σ, va_D (ax_A a) (ax_W a cI L σ)) {o1 : Int32} {u σ0 : q_St} {r0 : Unit} (hF : fX9_begin L N o1 u = some (r0, σ0)) : Met l yX9_begin (Cond.code yX9_begin cX9_begin 2 none :: q_T) ({ frames := 4, cells := 0, slots := 0, locals := 90 } : Room) (q_P D vwCl (ax_T cI) (ax_W a cI L) [.ref (a 10), .int o1] u) (q_Qv D vwCl (ax_W a cI L) (ax_A a) σ0) 0 0 (ax_A a) := by
  refine Met.ofW (cc := cX9_begin) (maxL := 2) (ret := none) (by decide) rfl ?_
  intro p e s m args below meth c s₁ B hml hv
  obtain ⟨rfl, hP, hK⟩ := hv
  have hx := B.exec
  have hb := B.bytes
  have hr := B.returns
  have hts := q_ts (atoms_spec (ws := Cond.code yX9_begin cX9_begin 2 none :: q_T) B.pre)
  have hown : s.vm.findClass RX9 = some m.cls := findClass_of_methodNamed B.named
  have hlocks := B.notSynchronized
  have hS : va_S (ax_A a) s.heap s.heap [] := va_S.rf
  have hl := lv_entry ([.ref (a 10), .int o1]) (n := 2) (Nat.le_of_ble_eq_true rfl)
  rw [lg_entry_eq]
  generalize (lg_sl ([.ref (a 10), .int o1]) ++ List.replicate (2 - (lg_sl ([.ref (a 10), .int o1])).length) Slot.unset).toArray = ls at hl ⊢
  have hl : lv_has ls 2 [(0, .ref (a 10)), (1, .int o1)] := hl
  have hB54 : ∀ (x1 : Int32) (u : q_St) (ls : Array Slot), lv_has ls 2 [(0, .ref (a 10)), (1, .int x1)] → fX9_begin_b54 L N x1 u = some (r0, σ0) → ∀ (H : Heap) (locs : List Loc), va_P D vwCl (ax_W a cI L u) H → va_S (ax_A a) s.heap H locs → W p l e (headSpec (Cond.code yX9_begin cX9_begin 2 none :: q_T) ({ frames := 4, cells := 0, slots := 0, locals := 90 } : Room)).room s m ([.ref (a 10), .int o1] : List Value).toArray below meth c H locs 0 0 (MQ below (q_Qv D vwCl (ax_W a cI L) (ax_A a) σ0) ([.ref (a 10), .int o1] : List Value).toArray s 0 0 (ax_A a)) (F0 m 54 ls []) := by
    intro x1 u ls hl hF _ _ hP hS
    unfold fX9_begin_b54 at hF
    refine lv_aload_n hx hb dX9_begin_54 rfl (lv_at hl 0 rfl) ?_
    refine lv_iload_n hx hb dX9_begin_55 rfl (lv_at hl 1 rfl) ?_
    refine lv_iconst (v := 0) hx hb dX9_begin_56 (by decide) ?_
    obtain ⟨r1, u2, hc3, hF⟩ := q_bnd_some hF
    refine sx_ci (Wd := (ax_W a cI L)) (σ1 := u2) (q_runV (Wd := (ax_W a cI L)) (σ := u) (q0 := 10) (ci := 9) (T := TX9) (N := 12) (As := [.int x1, .int 0]) (rest := []) hx hb hml hown hts hK hP (kt_X9_byteOf hD hc3) cw_X9_55 rfl rfl ⟨Nat.le_of_ble_eq_true rfl, Nat.le_of_ble_eq_true rfl⟩ rfl rfl rfl hl.1 rfl (Nat.le_of_ble_eq_true rfl) dX9_begin_57) hS (fun H locs hP hS => ?_)
    refine lv_bipush (v := 47) hx hb dX9_begin_60 (by decide) ?_
    refine sx_icmp_ne (tgt := 70) hx hb hF dX9_begin_62 (by decide) (fun hF => ?_) (fun hF => ?_)
    · exact sx_retv (Wd := (ax_W a cI L)) (σ := u2) hx hb hr hF hP hS hlocks dX9_begin_70
    · refine lv_aload_n hx hb dX9_begin_65 rfl (lv_at hl 0 rfl) ?_
      refine lv_iconst (v := 0) hx hb dX9_begin_66 (by decide) ?_
      refine px_walker_here hx hb hts hown hK hP fl_X9_41 hD hS hF dX9_begin_67 (fun u4 H locs hF hP hS => ?_)
      exact sx_retv (Wd := (ax_W a cI L)) (σ := u4) hx hb hr hF hP hS hlocks dX9_begin_70
  unfold fX9_begin at hF
  refine lv_aload_n hx hb dX9_begin_0 rfl (lv_at hl 0 rfl) ?_
  refine gx_walker_depth hx hb hts hown hK hP fl_X9_34 dX9_begin_1 ?_
  refine lv_aload_n hx hb dX9_begin_4 rfl (lv_at hl 0 rfl) ?_
  refine gx_walker_sources hx hb hts hown hK hP fl_X9_27 dX9_begin_5 ?_
  refine nx_walker_sources hx hb hK hP dX9_begin_8 ?_
  refine sx_icmp_ge (tgt := 54) hx hb hF dX9_begin_9 (by decide) (fun hF => ?_) (fun hF => ?_)
  · exact hB54 o1 u ls (lv_sub hl [0, 1] rfl) hF _ _ hP hS
  · refine lv_aload_n hx hb dX9_begin_12 rfl (lv_at hl 0 rfl) ?_
    refine gx_walker_depth hx hb hts hown hK hP fl_X9_34 dX9_begin_13 ?_
    refine lv_aload_n hx hb dX9_begin_16 rfl (lv_at hl 0 rfl) ?_
    refine gx_walker_nexts hx hb hts hown hK hP fl_X9_31 dX9_begin_17 ?_
    refine nx_walker_nexts hx hb hK hP dX9_begin_20 ?_
    refine sx_icmp_ge (tgt := 54) hx hb hF dX9_begin_21 (by decide) (fun hF => ?_) (fun hF => ?_)
    · exact hB54 o1 u ls (lv_sub hl [0, 1] rfl) hF _ _ hP hS
    · refine lv_aload_n hx hb dX9_begin_24 rfl (lv_at hl 0 rfl) ?_
      refine gx_walker_sources hx hb hts hown hK hP fl_X9_27 dX9_begin_25 ?_
      refine lv_aload_n hx hb dX9_begin_28 rfl (lv_at hl 0 rfl) ?_
      refine gx_walker_depth hx hb hts hown hK hP fl_X9_34 dX9_begin_29 ?_
      refine lv_iload_n hx hb dX9_begin_32 rfl (lv_at hl 1 rfl) ?_
      refine ux_walker_sources hx hb hK hP hD hS hF dX9_begin_33 (fun u5 H locs hF hP hS => ?_)
      refine lv_aload_n hx hb dX9_begin_34 rfl (lv_at hl 0 rfl) ?_
      refine gx_walker_nexts hx hb hts hown hK hP fl_X9_31 dX9_begin_35 ?_
      refine lv_aload_n hx hb dX9_begin_38 rfl (lv_at hl 0 rfl) ?_
      refine gx_walker_depth hx hb hts hown hK hP fl_X9_34 dX9_begin_39 ?_
      refine lv_iconst (v := 0) hx hb dX9_begin_42 (by decide) ?_
      refine ux_walker_nexts hx hb hK hP hD hS hF dX9_begin_43 (fun u6 H locs hF hP hS => ?_)
      refine lv_aload_n hx hb dX9_begin_44 rfl (lv_at hl 0 rfl) ?_
      refine lv_dup hx hb dX9_begin_45 rfl ?_
      refine gx_walker_depth hx hb hts hown hK hP fl_X9_34 dX9_begin_46 ?_
      refine lv_iconst (v := 1) hx hb dX9_begin_49 (by decide) ?_
      refine lv_iadd hx hb dX9_begin_50 ?_
      refine px_walker_depth hx hb hts hown hK hP fl_X9_34 hD hS hF dX9_begin_51 (fun u7 H locs hF hP hS => ?_)
      exact hB54 o1 u7 ls (lv_sub hl [0, 1] rfl) hF _ _ hP hS
set_option maxHeartbeats 4000000 in
set_option maxRecDepth 100000 in
theorem kt_X9_nextPart {N : Nat} {l : Launch} {D : va_G} {a : Nat → Nat} {cI : Nat → ClassId} {L : Nat → Nat} (hD : ∀ σ, va_D (ax_A a) (ax_W a cI L σ))  {u σ0 : q_St} {r0 : Unit} (hF : fX9_nextPart L N u = some (r0, σ0)) : Met l yX9_nextPart (Cond.code yX9_nextPart cX9_nextPart 3 none :: q_T) ({ frames := 4, cells := 0, slots := 0, locals := 90 } : Room) (q_P D vwCl (ax_T cI) (ax_W a cI L) [.ref (a 10)] u) (q_Qv D vwCl (ax_W a cI L) (ax_A a) σ0) 0 0 (ax_A a) := by
  refine Met.ofW (cc := cX9_nextPart) (maxL := 3) (ret := none) (by decide) rfl ?_
  intro p e s m args below meth c s₁ B hml hv
  obtain ⟨rfl, hP, hK⟩ := hv
  have hx := B.exec
  have hb := B.bytes
  have hr := B.returns
  have hts := q_ts (atoms_spec (ws := Cond.code yX9_nextPart cX9_nextPart 3 none :: q_T) B.pre)
  have hown : s.vm.findClass RX9 = some m.cls := findClass_of_methodNamed B.named
  have hlocks := B.notSynchronized
  have hS : va_S (ax_A a) s.heap s.heap [] := va_S.rf
  have hl := lv_entry ([.ref (a 10)]) (n := 3) (Nat.le_of_ble_eq_true rfl)
  rw [lg_entry_eq]
  generalize (lg_sl ([.ref (a 10)]) ++ List.replicate (3 - (lg_sl ([.ref (a 10)])).length) Slot.unset).toArray = ls at hl ⊢
  have hl : lv_has ls 3 [(0, .ref (a 10))] := hl
  have hB126 : ∀ (x1 : Int32) (x2 : Int32) (u : q_St) (ls : Array Slot), lv_has ls 3 [(0, .ref (a 10)), (1, .int x1), (2, .int x2)] → fX9_nextPart_b126 L N x1 x2 u = some (r0, σ0) → ∀ (H : Heap) (locs : List Loc), va_P D vwCl (ax_W a cI L u) H → va_S (ax_A a) s.heap H locs → W p l e (headSpec (Cond.code yX9_nextPart cX9_nextPart 3 none :: q_T) ({ frames := 4, cells := 0, slots := 0, locals := 90 } : Room)).room s m ([.ref (a 10)] : List Value).toArray below meth c H locs 0 0 (MQ below (q_Qv D vwCl (ax_W a cI L) (ax_A a) σ0) ([.ref (a 10)] : List Value).toArray s 0 0 (ax_A a)) (F0 m 126 ls []) := by
    intro x1 x2 u ls hl hF _ _ hP hS
    unfold fX9_nextPart_b126 at hF
    refine lv_aload_n hx hb dX9_nextPart_126 rfl (lv_at hl 0 rfl) ?_
    refine gx_walker_nexts hx hb hts hown hK hP fl_X9_31 dX9_nextPart_127 ?_
    refine lv_iload_n hx hb dX9_nextPart_130 rfl (lv_at hl 1 rfl) ?_
    refine lv_aload_n hx hb dX9_nextPart_131 rfl (lv_at hl 0 rfl) ?_
    refine gx_walker_to hx hb hts hown hK hP fl_X9_85 dX9_nextPart_132 ?_
    refine lv_iconst (v := 1) hx hb dX9_nextPart_135 (by decide) ?_
    refine lv_iadd hx hb dX9_nextPart_136 ?_
    refine ux_walker_nexts hx hb hK hP hD hS hF dX9_nextPart_137 (fun u10 H locs hF hP hS => ?_)
    refine lv_aload_n hx hb dX9_nextPart_138 rfl (lv_at hl 0 rfl) ?_
    refine gx_walker_to hx hb hts hown hK hP fl_X9_85 dX9_nextPart_139 ?_
    refine lv_iload_n hx hb dX9_nextPart_142 rfl (lv_at hl 2 rfl) ?_
    refine sx_icmp_lt (tgt := 151) hx hb hF dX9_nextPart_143 (by decide) (fun hF => ?_) (fun hF => ?_)
    · exact sx_retv (Wd := (ax_W a cI L)) (σ := u10) hx hb hr hF hP hS hlocks dX9_nextPart_151
    · refine lv_aload_n hx hb dX9_nextPart_146 rfl (lv_at hl 0 rfl) ?_
      refine lv_iload_n hx hb dX9_nextPart_147 rfl (lv_at hl 1 rfl) ?_
      refine px_walker_depth hx hb hts hown hK hP fl_X9_34 hD hS hF dX9_nextPart_148 (fun u11 H locs hF hP hS => ?_)
      exact sx_retv (Wd := (ax_W a cI L)) (σ := u11) hx hb hr hF hP hS hlocks dX9_nextPart_151
  have hB88 : ∀ (n : Nat) (x1 : Int32) (x2 : Int32) (u : q_St) (ls : Array Slot), lv_has ls 3 [(0, .ref (a 10)), (1, .int x1), (2, .int x2)] → q_lp (fX9_nextPart_b88 L N) (fun _ _ _ => none) n x1 x2 u = some (r0, σ0) → ∀ (H : Heap) (locs : List Loc), va_P D vwCl (ax_W a cI L u) H → va_S (ax_A a) s.heap H locs → W p l e (headSpec (Cond.code yX9_nextPart cX9_nextPart 3 none :: q_T) ({ frames := 4, cells := 0, slots := 0, locals := 90 } : Room)).room s m ([.ref (a 10)] : List Value).toArray below meth c H locs 0 0 (MQ below (q_Qv D vwCl (ax_W a cI L) (ax_A a) σ0) ([.ref (a 10)] : List Value).toArray s 0 0 (ax_A a)) (F0 m 88 ls []) := by
    intro n
    induction n with
    | zero => intro x1 x2 u ls hl hF; exact absurd (show (none : Option (Unit × q_St)) = some _ from hF) (fun h => nomatch h)
    | succ n hi88 =>
      intro x1 x2 u ls hl hF _ _ hP hS
      obtain ⟨ih88, hih⟩ : ∃ q, q = q_lp (fX9_nextPart_b88 L N) (fun _ _ _ => none) n := ⟨_, rfl⟩
      rw [← hih] at hi88
      have hF : fX9_nextPart_b88 L N (q_lp (fX9_nextPart_b88 L N) (fun _ _ _ => none) n) x1 x2 u = some (r0, σ0) := hF
      rw [← hih] at hF
      clear hih
      unfold fX9_nextPart_b88 at hF
      refine lv_aload_n hx hb dX9_nextPart_88 rfl (lv_at hl 0 rfl) ?_
      refine gx_walker_to hx hb hts hown hK hP fl_X9_85 dX9_nextPart_89 ?_
      refine lv_iload_n hx hb dX9_nextPart_92 rfl (lv_at hl 2 rfl) ?_
      refine sx_icmp_ge (tgt := 126) hx hb hF dX9_nextPart_93 (by decide) (fun hF => ?_) (fun hF => ?_)
      · exact hB126 x1 x2 u ls (lv_sub hl [0, 1, 2] rfl) hF _ _ hP hS
      · refine lv_aload_n hx hb dX9_nextPart_96 rfl (lv_at hl 0 rfl) ?_
        refine lv_aload_n hx hb dX9_nextPart_97 rfl (lv_at hl 0 rfl) ?_
        refine gx_walker_source hx hb hts hown hK hP fl_X9_73 dX9_nextPart_98 ?_
        refine lv_aload_n hx hb dX9_nextPart_101 rfl (lv_at hl 0 rfl) ?_
        refine gx_walker_to hx hb hts hown hK hP fl_X9_85 dX9_nextPart_102 ?_
        obtain ⟨r12, u13, hc14, hF⟩ := q_bnd_some hF
        refine sx_ci (Wd := (ax_W a cI L)) (σ1 := u13) (q_runV (Wd := (ax_W a cI L)) (σ := u) (q0 := 10) (ci := 9) (T := TX9) (N := 12) (As := [.int (q_i u 37), .int (q_i u 39)]) (rest := []) hx hb hml hown hts hK hP (kt_X9_byteOf hD hc14) cw_X9_55 rfl rfl ⟨Nat.le_of_ble_eq_true rfl, Nat.le_of_ble_eq_true rfl⟩ rfl rfl rfl hl.1 rfl (Nat.le_of_ble_eq_true rfl) dX9_nextPart_105) hS (fun H locs hP hS => ?_)
        refine lv_bipush (v := 47) hx hb dX9_nextPart_108 (by decide) ?_
        refine sx_icmp_eq (tgt := 126) hx hb hF dX9_nextPart_110 (by decide) (fun hF => ?_) (fun hF => ?_)
        · exact hB126 x1 x2 u13 ls (lv_sub hl [0, 1, 2] rfl) hF _ _ hP hS
        · refine lv_aload_n hx hb dX9_nextPart_113 rfl (lv_at hl 0 rfl) ?_
          refine lv_dup hx hb dX9_nextPart_114 rfl ?_
          refine gx_walker_to hx hb hts hown hK hP fl_X9_85 dX9_nextPart_115 ?_
          refine lv_iconst (v := 1) hx hb dX9_nextPart_118 (by decide) ?_
          refine lv_iadd hx hb dX9_nextPart_119 ?_
          refine px_walker_to hx hb hts hown hK hP fl_X9_85 hD hS hF dX9_nextPart_120 (fun u15 H locs hF hP hS => ?_)
          refine lv_goto (tgt := 88) hx hb dX9_nextPart_123 (by decide) ?_
          exact hi88 x1 x2 u15 ls (lv_sub hl [0, 1, 2] rfl) hF _ _ hP hS
  have hB79 : ∀ (x1 : Int32) (y0 : Int32) (u : q_St) (ls : Array Slot), lv_has ls 3 [(0, .ref (a 10)), (1, .int x1)] → fX9_nextPart_b79 L N x1 y0 u = some (r0, σ0) → ∀ (H : Heap) (locs : List Loc), va_P D vwCl (ax_W a cI L u) H → va_S (ax_A a) s.heap H locs → W p l e (headSpec (Cond.code yX9_nextPart cX9_nextPart 3 none :: q_T) ({ frames := 4, cells := 0, slots := 0, locals := 90 } : Room)).room s m ([.ref (a 10)] : List Value).toArray below meth c H locs 0 0 (MQ below (q_Qv D vwCl (ax_W a cI L) (ax_A a) σ0) ([.ref (a 10)] : List Value).toArray s 0 0 (ax_A a)) (F0 m 79 ls [.int y0]) := by
    intro x1 y0 u ls hl hF _ _ hP hS
    unfold fX9_nextPart_b79 at hF
    refine lv_istore_n (lv' := [(2, .int y0), (0, .ref (a 10)), (1, .int x1)]) hx hb dX9_nextPart_79 rfl hl (by decide) rfl (fun ls hl => ?_)
    refine lv_aload_n hx hb dX9_nextPart_80 rfl (lv_at hl 1 rfl) ?_
    refine lv_aload_n hx hb dX9_nextPart_81 rfl (lv_at hl 1 rfl) ?_
    refine gx_walker_from hx hb hts hown hK hP fl_X9_76 dX9_nextPart_82 ?_
    refine px_walker_to hx hb hts hown hK hP fl_X9_85 hD hS hF dX9_nextPart_85 (fun u9 H locs hF hP hS => ?_)
    exact hB88 N x1 y0 u9 ls (lv_sub hl [1, 2, 0] rfl) hF _ _ hP hS
  unfold fX9_nextPart at hF
  refine lv_aload_n hx hb dX9_nextPart_0 rfl (lv_at hl 0 rfl) ?_
  refine gx_walker_depth hx hb hts hown hK hP fl_X9_34 dX9_nextPart_1 ?_
  refine lv_iconst (v := 1) hx hb dX9_nextPart_4 (by decide) ?_
  refine lv_isub hx hb dX9_nextPart_5 ?_
  refine sx_istore_n (lv2 := [(0, .ref (a 10))]) hx hb hF dX9_nextPart_6 rfl hl (by decide) rfl (fun v1 hF ls hl => ?_)
  refine lv_iload_n hx hb dX9_nextPart_7 rfl (lv_at hl 0 rfl) ?_
  refine sx_if_lt (tgt := 29) hx hb hF dX9_nextPart_8 (by decide) (fun hF => ?_) (fun hF => ?_)
  · exact sx_retv (Wd := (ax_W a cI L)) (σ := u) hx hb hr hF hP hS hlocks dX9_nextPart_29
  · refine lv_iload_n hx hb dX9_nextPart_11 rfl (lv_at hl 0 rfl) ?_
    refine lv_aload_n hx hb dX9_nextPart_12 rfl (lv_at hl 1 rfl) ?_
    refine gx_walker_sources hx hb hts hown hK hP fl_X9_27 dX9_nextPart_13 ?_
    refine nx_walker_sources hx hb hK hP dX9_nextPart_16 ?_
    refine sx_icmp_ge (tgt := 29) hx hb hF dX9_nextPart_17 (by decide) (fun hF => ?_) (fun hF => ?_)
    · exact sx_retv (Wd := (ax_W a cI L)) (σ := u) hx hb hr hF hP hS hlocks dX9_nextPart_29
    · refine lv_iload_n hx hb dX9_nextPart_20 rfl (lv_at hl 0 rfl) ?_
      refine lv_aload_n hx hb dX9_nextPart_21 rfl (lv_at hl 1 rfl) ?_
      refine gx_walker_nexts hx hb hts hown hK hP fl_X9_31 dX9_nextPart_22 ?_
      refine nx_walker_nexts hx hb hK hP dX9_nextPart_25 ?_
      refine sx_icmp_lt (tgt := 30) hx hb hF dX9_nextPart_26 (by decide) (fun hF => ?_) (fun hF => ?_)
      · refine lv_aload_n hx hb dX9_nextPart_30 rfl (lv_at hl 1 rfl) ?_
        refine lv_aload_n hx hb dX9_nextPart_31 rfl (lv_at hl 1 rfl) ?_
        refine gx_walker_sources hx hb hts hown hK hP fl_X9_27 dX9_nextPart_32 ?_
        refine lv_iload_n hx hb dX9_nextPart_35 rfl (lv_at hl 0 rfl) ?_
        refine lx_walker_sources hx hb hK hP hF dX9_nextPart_36 (fun v2 hF => ?_)
        refine px_walker_source hx hb hts hown hK hP fl_X9_73 hD hS hF dX9_nextPart_37 (fun u3 H locs hF hP hS => ?_)
        refine lv_aload_n hx hb dX9_nextPart_40 rfl (lv_at hl 1 rfl) ?_
        refine lv_aload_n hx hb dX9_nextPart_41 rfl (lv_at hl 1 rfl) ?_
        refine gx_walker_nexts hx hb hts hown hK hP fl_X9_31 dX9_nextPart_42 ?_
        refine lv_iload_n hx hb dX9_nextPart_45 rfl (lv_at hl 0 rfl) ?_
        refine lx_walker_nexts hx hb hK hP hF dX9_nextPart_46 (fun v4 hF => ?_)
        refine px_walker_from hx hb hts hown hK hP fl_X9_76 hD hS hF dX9_nextPart_47 (fun u5 H locs hF hP hS => ?_)
        refine lv_aload_n hx hb dX9_nextPart_50 rfl (lv_at hl 1 rfl) ?_
        refine gx_walker_source hx hb hts hown hK hP fl_X9_73 dX9_nextPart_51 ?_
        refine lv_iconst (v := (-1)) hx hb dX9_nextPart_54 (by decide) ?_
        refine sx_icmp_ne (tgt := 68) hx hb hF dX9_nextPart_55 (by decide) (fun hF => ?_) (fun hF => ?_)
        · refine lv_aload_n hx hb dX9_nextPart_68 rfl (lv_at hl 1 rfl) ?_
          refine gx_walker_nodes hx hb hts hown hK hP fl_X9_15 dX9_nextPart_69 ?_
          refine lv_aload_n hx hb dX9_nextPart_72 rfl (lv_at hl 1 rfl) ?_
          refine gx_walker_source hx hb hts hown hK hP fl_X9_73 dX9_nextPart_73 ?_
          obtain ⟨r6, u7, hc8, hF⟩ := q_bnd_some hF
          refine sx_ci (Wd := (ax_W a cI L)) (σ1 := u7) (q_runV (Wd := (ax_W a cI L)) (σ := u5) (q0 := 5) (ci := 4) (T := TX4) (N := 2) (As := [.int (q_i u5 37)]) (rest := []) hx hb hml hown hts hK hP (kt_X4_lengthOf hD hc8) cw_X9_82 rfl rfl ⟨Nat.le_of_ble_eq_true rfl, Nat.le_of_ble_eq_true rfl⟩ rfl rfl rfl hl.1 rfl (Nat.le_of_ble_eq_true rfl) dX9_nextPart_76) hS (fun H locs hP hS => ?_)
          exact hB79 v1 r6 u7 ls (lv_sub hl [1, 0] rfl) hF _ _ hP hS
        · refine lv_aload_n hx hb dX9_nextPart_58 rfl (lv_at hl 1 rfl) ?_
          refine gx_walker_tape hx hb hts hown hK hP fl_X9_23 dX9_nextPart_59 ?_
          refine gx_tape_length hx hb hts hown hK hP fl_X9_79 dX9_nextPart_62 ?_
          refine lv_goto (tgt := 79) hx hb dX9_nextPart_65 (by decide) ?_
          exact hB79 v1 (q_i u5 32) u5 ls (lv_sub hl [1, 0] rfl) hF _ _ hP hS
      · exact sx_retv (Wd := (ax_W a cI L)) (σ := u) hx hb hr hF hP hS hlocks dX9_nextPart_29
set_option maxHeartbeats 4000000 in
set_option maxRecDepth 100000 in
theorem kt_X9_partName {N : Nat} {l : Launch} {D : va_G} {a : Nat → Nat} {cI : Nat → ClassId} {L : Nat → Nat} (hD : ∀ σ, va_D (ax_A a) (ax_W a cI L σ))  {u σ0 : q_St} {r0 : Int64} (hF : fX9_partName L N u = some (r0, σ0)) : Met l yX9_partName (Cond.code yX9_partName cX9_partName 5 (some .long) :: q_T) ({ frames := 4, cells := 0, slots := 0, locals := 90 } : Room) (q_P D vwCl (ax_T cI) (ax_W a cI L) [.ref (a 10)] u) (q_Ql D vwCl (ax_W a cI L) (ax_A a) r0 σ0) 0 0 (ax_A a) := by
  refine Met.ofW (cc := cX9_partName) (maxL := 5) (ret := (some .long)) (by decide) rfl ?_
  intro p e s m args below meth c s₁ B hml hv
  obtain ⟨rfl, hP, hK⟩ := hv
  have hx := B.exec
  have hb := B.bytes
  have hr := B.returns
  have hts := q_ts (atoms_spec (ws := Cond.code yX9_partName cX9_partName 5 (some .long) :: q_T) B.pre)
  have hown : s.vm.findClass RX9 = some m.cls := findClass_of_methodNamed B.named
  have hlocks := B.notSynchronized
  have hS : va_S (ax_A a) s.heap s.heap [] := va_S.rf
  have hl := lv_entry ([.ref (a 10)]) (n := 5) (Nat.le_of_ble_eq_true rfl)
  rw [lg_entry_eq]
  generalize (lg_sl ([.ref (a 10)]) ++ List.replicate (5 - (lg_sl ([.ref (a 10)])).length) Slot.unset).toArray = ls at hl ⊢
  have hl : lv_has ls 5 [(0, .ref (a 10))] := hl
  have hB23 : ∀ (n : Nat) (x1 : Int64) (x3 : Int32) (u : q_St) (ls : Array Slot), lv_has ls 5 [(0, .ref (a 10)), (1, .long x1), (3, .int x3)] → q_lp (fX9_partName_b23 L N) (fun _ _ _ => none) n x1 x3 u = some (r0, σ0) → ∀ (H : Heap) (locs : List Loc), va_P D vwCl (ax_W a cI L u) H → va_S (ax_A a) s.heap H locs → W p l e (headSpec (Cond.code yX9_partName cX9_partName 5 (some .long) :: q_T) ({ frames := 4, cells := 0, slots := 0, locals := 90 } : Room)).room s m ([.ref (a 10)] : List Value).toArray below meth c H locs 0 0 (MQ below (q_Ql D vwCl (ax_W a cI L) (ax_A a) r0 σ0) ([.ref (a 10)] : List Value).toArray s 0 0 (ax_A a)) (F0 m 23 ls []) := by
    intro n
    induction n with
    | zero => intro x1 x3 u ls hl hF; exact absurd (show (none : Option (Int64 × q_St)) = some _ from hF) (fun h => nomatch h)
    | succ n hi23 =>
      intro x1 x3 u ls hl hF _ _ hP hS
      obtain ⟨ih23, hih⟩ : ∃ q, q = q_lp (fX9_partName_b23 L N) (fun _ _ _ => none) n := ⟨_, rfl⟩
      rw [← hih] at hi23
      have hF : fX9_partName_b23 L N (q_lp (fX9_partName_b23 L N) (fun _ _ _ => none) n) x1 x3 u = some (r0, σ0) := hF
      rw [← hih] at hF
      clear hih
      unfold fX9_partName_b23 at hF
      refine lv_iload_n hx hb dX9_partName_23 rfl (lv_at hl 2 rfl) ?_
      refine lv_aload_n hx hb dX9_partName_24 rfl (lv_at hl 0 rfl) ?_
      refine gx_walker_to hx hb hts hown hK hP fl_X9_85 dX9_partName_25 ?_
      refine sx_icmp_ge (tgt := 74) hx hb hF dX9_partName_28 (by decide) (fun hF => ?_) (fun hF => ?_)
      · refine lv_lload_n hx hb dX9_partName_74 rfl (lv_at hl 1 rfl) ?_
        exact sx_retl (Wd := (ax_W a cI L)) (σ := u) hx hb hr hF hP hS hlocks dX9_partName_75
      · refine lv_aload_n hx hb dX9_partName_31 rfl (lv_at hl 0 rfl) ?_
        refine lv_aload_n hx hb dX9_partName_32 rfl (lv_at hl 0 rfl) ?_
        refine gx_walker_source hx hb hts hown hK hP fl_X9_73 dX9_partName_33 ?_
        refine lv_iload_n hx hb dX9_partName_36 rfl (lv_at hl 2 rfl) ?_
        obtain ⟨r2, u3, hc4, hF⟩ := q_bnd_some hF
        refine sx_ci (Wd := (ax_W a cI L)) (σ1 := u3) (q_runV (Wd := (ax_W a cI L)) (σ := u) (q0 := 10) (ci := 9) (T := TX9) (N := 12) (As := [.int (q_i u 37), .int x3]) (rest := []) hx hb hml hown hts hK hP (kt_X9_byteOf hD hc4) cw_X9_55 rfl rfl ⟨Nat.le_of_ble_eq_true rfl, Nat.le_of_ble_eq_true rfl⟩ rfl rfl rfl hl.1 rfl (Nat.le_of_ble_eq_true rfl) dX9_partName_37) hS (fun H locs hP hS => ?_)
        refine lv_istore (lv' := [(4, .int r2), (0, .ref (a 10)), (1, .long x1), (3, .int x3)]) hx hb dX9_partName_40 hl (by decide) rfl (fun ls hl => ?_)
        refine lv_iload hx hb dX9_partName_42 (lv_at hl 0 rfl) ?_
        obtain ⟨r5, u6, hc7, hF⟩ := q_bnd_some hF
        refine sx_ci (Wd := (ax_W a cI L)) (σ1 := u6) (q_runS (Wd := (ax_W a cI L)) (σ := u3) (As := [.int r2]) (rest := []) hx hb hml hown hts hK hP (kt_X3_isNameByte hD hc7) cw_X9_111 rfl rfl ⟨Nat.le_of_ble_eq_true rfl, Nat.le_of_ble_eq_true rfl⟩ rfl hl.1 rfl (Nat.le_of_ble_eq_true rfl) dX9_partName_44) hS (fun H locs hP hS => ?_)
        refine sx_if_ne (tgt := 52) hx hb hF dX9_partName_47 (by decide) (fun hF => ?_) (fun hF => ?_)
        · refine lv_lload_n hx hb dX9_partName_52 rfl (lv_at hl 2 rfl) ?_
          refine lv_iload hx hb dX9_partName_53 (lv_at hl 0 rfl) ?_
          refine lv_i2l (v := Int32.toInt64 r2) hx hb dX9_partName_55 rfl ?_
          refine lv_bipush (v := 8) hx hb dX9_partName_56 (by decide) ?_
          refine lv_iload_n hx hb dX9_partName_58 rfl (lv_at hl 3 rfl) ?_
          refine lv_aload_n hx hb dX9_partName_59 rfl (lv_at hl 1 rfl) ?_
          refine gx_walker_from hx hb hts hown hK hP fl_X9_76 dX9_partName_60 ?_
          refine lv_isub hx hb dX9_partName_63 ?_
          refine lv_imul hx hb dX9_partName_64 ?_
          refine lv_lshl (v := q_lshl (Int32.toInt64 r2) (8 * (x3 - (q_i u6 38)))) hx hb dX9_partName_65 rfl ?_
          refine lv_lor hx hb dX9_partName_66 ?_
          refine sx_lstore_n (lv2 := [(4, .int r2), (0, .ref (a 10)), (3, .int x3)]) hx hb hF dX9_partName_67 rfl hl (by decide) rfl (fun v8 hF ls hl => ?_)
          refine sx_iinc (d := 1) (k := 3) (lv2 := [(1, .long v8), (4, .int r2), (0, .ref (a 10))]) hx hb hF dX9_partName_68 hl rfl (by decide) (by decide) rfl (fun v9 hF ls hl => ?_)
          refine lv_goto (tgt := 23) hx hb dX9_partName_71 (by decide) ?_
          exact hi23 v8 v9 u6 ls (lv_sub hl [3, 1, 0] rfl) hF _ _ hP hS
        · refine lv_lconst (v := 0) hx hb dX9_partName_50 (by decide) ?_
          exact sx_retl (Wd := (ax_W a cI L)) (σ := u6) hx hb hr hF hP hS hlocks dX9_partName_51
  unfold fX9_partName at hF
  refine lv_aload_n hx hb dX9_partName_0 rfl (lv_at hl 0 rfl) ?_
  refine gx_walker_to hx hb hts hown hK hP fl_X9_85 dX9_partName_1 ?_
  refine lv_aload_n hx hb dX9_partName_4 rfl (lv_at hl 0 rfl) ?_
  refine gx_walker_from hx hb hts hown hK hP fl_X9_76 dX9_partName_5 ?_
  refine lv_isub hx hb dX9_partName_8 ?_
  refine lv_bipush (v := 8) hx hb dX9_partName_9 (by decide) ?_
  refine sx_icmp_le (tgt := 16) hx hb hF dX9_partName_11 (by decide) (fun hF => ?_) (fun hF => ?_)
  · refine lv_lconst (v := 0) hx hb dX9_partName_16 (by decide) ?_
    refine lv_lstore_n (lv' := [(1, .long 0), (0, .ref (a 10))]) hx hb dX9_partName_17 rfl hl (by decide) rfl (fun ls hl => ?_)
    refine lv_aload_n hx hb dX9_partName_18 rfl (lv_at hl 1 rfl) ?_
    refine gx_walker_from hx hb hts hown hK hP fl_X9_76 dX9_partName_19 ?_
    refine sx_istore_n (lv2 := [(1, .long 0), (0, .ref (a 10))]) hx hb hF dX9_partName_22 rfl hl (by decide) rfl (fun v1 hF ls hl => ?_)
    exact hB23 N 0 v1 u ls (lv_sub hl [2, 1, 0] rfl) hF _ _ hP hS
  · refine lv_lconst (v := 0) hx hb dX9_partName_14 (by decide) ?_
    exact sx_retl (Wd := (ax_W a cI L)) (σ := u) hx hb hr hF hP hS hlocks dX9_partName_15
set_option maxHeartbeats 4000000 in
set_option maxRecDepth 100000 in
theorem kt_X9_goPart {N : Nat} {l : Launch} {D : va_G} {a : Nat → Nat} {cI : Nat → ClassId} {L : Nat → Nat} (hD : ∀ σ, va_D (ax_A a) (ax_W a cI L σ)) {o1 : Int32} {u σ0 : q_St} {r0 : Int32} (hF : fX9_goPart L N o1 u = some (r0, σ0)) : Met l yX9_goPart (Cond.code yX9_goPart cX9_goPart 7 (some .int) :: q_T) ({ frames := 5, cells := 0, slots := 0, locals := 116 } : Room) (q_P D vwCl (ax_T cI) (ax_W a cI L) [.ref (a 10), .int o1] u) (q_Qi D vwCl (ax_W a cI L) (ax_A a) r0 σ0) 0 0 (ax_A a) := by
  refine Met.ofW (cc := cX9_goPart) (maxL := 7) (ret := (some .int)) (by decide) rfl ?_
  intro p e s m args below meth c s₁ B hml hv
  obtain ⟨rfl, hP, hK⟩ := hv
  have hx := B.exec
  have hb := B.bytes
  have hr := B.returns
  have hts := q_ts (atoms_spec (ws := Cond.code yX9_goPart cX9_goPart 7 (some .int) :: q_T) B.pre)
  have hown : s.vm.findClass RX9 = some m.cls := findClass_of_methodNamed B.named
  have hlocks := B.notSynchronized
  have hS : va_S (ax_A a) s.heap s.heap [] := va_S.rf
  have hl := lv_entry ([.ref (a 10), .int o1]) (n := 7) (Nat.le_of_ble_eq_true rfl)
  rw [lg_entry_eq]
  generalize (lg_sl ([.ref (a 10), .int o1]) ++ List.replicate (7 - (lg_sl ([.ref (a 10), .int o1])).length) Slot.unset).toArray = ls at hl ⊢
  have hl : lv_has ls 7 [(0, .ref (a 10)), (1, .int o1)] := hl
  have hB137 : ∀ (x1 : Int32) (u : q_St) (ls : Array Slot), lv_has ls 7 [(0, .ref (a 10)), (1, .int x1)] → fX9_goPart_b137 L N x1 u = some (r0, σ0) → ∀ (H : Heap) (locs : List Loc), va_P D vwCl (ax_W a cI L u) H → va_S (ax_A a) s.heap H locs → W p l e (headSpec (Cond.code yX9_goPart cX9_goPart 7 (some .int) :: q_T) ({ frames := 5, cells := 0, slots := 0, locals := 116 } : Room)).room s m ([.ref (a 10), .int o1] : List Value).toArray below meth c H locs 0 0 (MQ below (q_Qi D vwCl (ax_W a cI L) (ax_A a) r0 σ0) ([.ref (a 10), .int o1] : List Value).toArray s 0 0 (ax_A a)) (F0 m 137 ls []) := by
    intro x1 u ls hl hF _ _ hP hS
    unfold fX9_goPart_b137 at hF
    refine lv_aload_n hx hb dX9_goPart_137 rfl (lv_at hl 0 rfl) ?_
    obtain ⟨r4, u5, hc6, hF⟩ := q_bnd_some hF
    refine sx_cl (Wd := (ax_W a cI L)) (σ1 := u5) (q_runV (Wd := (ax_W a cI L)) (σ := u) (q0 := 10) (ci := 9) (T := TX9) (N := 12) (As := []) (rest := []) hx hb hml hown hts hK hP (kt_X9_partName hD hc6) cw_X9_94 rfl rfl ⟨Nat.le_of_ble_eq_true rfl, Nat.le_of_ble_eq_true rfl⟩ rfl rfl rfl hl.1 rfl (Nat.le_of_ble_eq_true rfl) dX9_goPart_138) hS (fun H locs hP hS => ?_)
    refine lv_lstore_n (lv' := [(3, .long r4), (0, .ref (a 10)), (1, .int x1)]) hx hb dX9_goPart_141 rfl hl (by decide) rfl (fun ls hl => ?_)
    refine lv_lload_n hx hb dX9_goPart_142 rfl (lv_at hl 0 rfl) ?_
    refine lv_lconst (v := 0) hx hb dX9_goPart_143 (by decide) ?_
    refine W.lcmp hx hb dX9_goPart_144 ?_
    refine sx_if_ne (tgt := 151) hx hb hF dX9_goPart_145 (by decide) (fun hF => ?_) (fun hF => ?_)
    · refine lv_aload_n hx hb dX9_goPart_151 rfl (lv_at hl 1 rfl) ?_
      refine gx_walker_nodes hx hb hts hown hK hP fl_X9_15 dX9_goPart_152 ?_
      refine lv_aload_n hx hb dX9_goPart_155 rfl (lv_at hl 1 rfl) ?_
      refine gx_walker_here hx hb hts hown hK hP fl_X9_41 dX9_goPart_156 ?_
      refine lv_iconst (v := 1) hx hb dX9_goPart_159 (by decide) ?_
      refine lv_iload_n hx hb dX9_goPart_160 rfl (lv_at hl 2 rfl) ?_
      obtain ⟨r7, u8, hc9, hF⟩ := q_bnd_some hF
      refine sx_ci (Wd := (ax_W a cI L)) (σ1 := u8) (q_runV (Wd := (ax_W a cI L)) (σ := u5) (q0 := 5) (ci := 4) (T := TX4) (N := 2) (As := [.int (q_i u5 36), .int 1, .int x1]) (rest := []) hx hb hml hown hts hK hP (kt_X4_may hD hc9) cw_X9_98 rfl rfl ⟨Nat.le_of_ble_eq_true rfl, Nat.le_of_ble_eq_true rfl⟩ rfl rfl rfl hl.1 rfl (Nat.le_of_ble_eq_true rfl) dX9_goPart_161) hS (fun H locs hP hS => ?_)
      refine sx_if_ne (tgt := 170) hx hb hF dX9_goPart_164 (by decide) (fun hF => ?_) (fun hF => ?_)
      · refine lv_aload_n hx hb dX9_goPart_170 rfl (lv_at hl 1 rfl) ?_
        refine gx_walker_folders hx hb hts hown hK hP fl_X9_19 dX9_goPart_171 ?_
        refine lv_aload_n hx hb dX9_goPart_174 rfl (lv_at hl 1 rfl) ?_
        refine gx_walker_here hx hb hts hown hK hP fl_X9_41 dX9_goPart_175 ?_
        refine lv_lload_n hx hb dX9_goPart_178 rfl (lv_at hl 0 rfl) ?_
        obtain ⟨r10, u11, hc12, hF⟩ := q_bnd_some hF
        refine sx_ci (Wd := (ax_W a cI L)) (σ1 := u11) (q_runV (Wd := (ax_W a cI L)) (σ := u8) (q0 := 6) (ci := 3) (T := TX3) (N := 5) (As := [.int (q_i u8 36), .long r4]) (rest := []) hx hb hml hown hts hK hP (kt_X3_seek hD hc12) cw_X9_102 rfl rfl ⟨Nat.le_of_ble_eq_true rfl, Nat.le_of_ble_eq_true rfl⟩ rfl rfl rfl hl.1 rfl (Nat.le_of_ble_eq_true rfl) dX9_goPart_179) hS (fun H locs hP hS => ?_)
        refine lv_istore (lv' := [(5, .int r10), (3, .long r4), (0, .ref (a 10)), (1, .int x1)]) hx hb dX9_goPart_182 hl (by decide) rfl (fun ls hl => ?_)
        refine lv_iload hx hb dX9_goPart_184 (lv_at hl 0 rfl) ?_
        refine lv_iconst (v := (-1)) hx hb dX9_goPart_186 (by decide) ?_
        refine sx_icmp_ne (tgt := 193) hx hb hF dX9_goPart_187 (by decide) (fun hF => ?_) (fun hF => ?_)
        · refine lv_aload_n hx hb dX9_goPart_193 rfl (lv_at hl 2 rfl) ?_
          refine gx_walker_folders hx hb hts hown hK hP fl_X9_19 dX9_goPart_194 ?_
          refine lv_aload_n hx hb dX9_goPart_197 rfl (lv_at hl 2 rfl) ?_
          refine gx_walker_here hx hb hts hown hK hP fl_X9_41 dX9_goPart_198 ?_
          refine lv_iload hx hb dX9_goPart_201 (lv_at hl 0 rfl) ?_
          obtain ⟨r13, u14, hc15, hF⟩ := q_bnd_some hF
          refine sx_ci (Wd := (ax_W a cI L)) (σ1 := u14) (q_runV (Wd := (ax_W a cI L)) (σ := u11) (q0 := 6) (ci := 3) (T := TX3) (N := 5) (As := [.int (q_i u11 36), .int r10]) (rest := []) hx hb hml hown hts hK hP (kt_X3_nodeAt hD hc15) cw_X9_108 rfl rfl ⟨Nat.le_of_ble_eq_true rfl, Nat.le_of_ble_eq_true rfl⟩ rfl rfl rfl hl.1 rfl (Nat.le_of_ble_eq_true rfl) dX9_goPart_203) hS (fun H locs hP hS => ?_)
          refine lv_istore (lv' := [(6, .int r13), (5, .int r10), (3, .long r4), (0, .ref (a 10)), (1, .int x1)]) hx hb dX9_goPart_206 hl (by decide) rfl (fun ls hl => ?_)
          refine lv_aload_n hx hb dX9_goPart_208 rfl (lv_at hl 3 rfl) ?_
          refine gx_walker_nodes hx hb hts hown hK hP fl_X9_15 dX9_goPart_209 ?_
          refine lv_iload hx hb dX9_goPart_212 (lv_at hl 0 rfl) ?_
          obtain ⟨r16, u17, hc18, hF⟩ := q_bnd_some hF
          refine sx_ci (Wd := (ax_W a cI L)) (σ1 := u17) (q_runV (Wd := (ax_W a cI L)) (σ := u14) (q0 := 5) (ci := 4) (T := TX4) (N := 2) (As := [.int r13]) (rest := []) hx hb hml hown hts hK hP (kt_X4_kindOf hD hc18) cw_X9_88 rfl rfl ⟨Nat.le_of_ble_eq_true rfl, Nat.le_of_ble_eq_true rfl⟩ rfl rfl rfl hl.1 rfl (Nat.le_of_ble_eq_true rfl) dX9_goPart_214) hS (fun H locs hP hS => ?_)
          refine lv_iconst (v := 4) hx hb dX9_goPart_217 (by decide) ?_
          refine sx_icmp_eq (tgt := 229) hx hb hF dX9_goPart_218 (by decide) (fun hF => ?_) (fun hF => ?_)
          · refine lv_aload_n hx hb dX9_goPart_229 rfl (lv_at hl 3 rfl) ?_
            refine gx_walker_pointers hx hb hts hown hK hP fl_X9_38 dX9_goPart_230 ?_
            refine lv_bipush (v := 8) hx hb dX9_goPart_233 (by decide) ?_
            refine sx_icmp_lt (tgt := 241) hx hb hF dX9_goPart_235 (by decide) (fun hF => ?_) (fun hF => ?_)
            · refine lv_aload_n hx hb dX9_goPart_241 rfl (lv_at hl 3 rfl) ?_
              refine lv_dup hx hb dX9_goPart_242 rfl ?_
              refine gx_walker_pointers hx hb hts hown hK hP fl_X9_38 dX9_goPart_243 ?_
              refine lv_iconst (v := 1) hx hb dX9_goPart_246 (by decide) ?_
              refine lv_iadd hx hb dX9_goPart_247 ?_
              refine px_walker_pointers hx hb hts hown hK hP fl_X9_38 hD hS hF dX9_goPart_248 (fun u19 H locs hF hP hS => ?_)
              refine lv_aload_n hx hb dX9_goPart_251 rfl (lv_at hl 3 rfl) ?_
              refine lv_iload hx hb dX9_goPart_252 (lv_at hl 0 rfl) ?_
              obtain ⟨r20, u21, hc22, hF⟩ := q_bnd_some hF
              refine sx_cv (Wd := (ax_W a cI L)) (σ1 := u21) (q_runV (Wd := (ax_W a cI L)) (σ := u19) (q0 := 10) (ci := 9) (T := TX9) (N := 12) (As := [.int r13]) (rest := []) hx hb hml hown hts hK hP (kt_X9_begin hD hc22) cw_X9_44 rfl rfl ⟨Nat.le_of_ble_eq_true rfl, Nat.le_of_ble_eq_true rfl⟩ rfl rfl rfl hl.1 rfl (Nat.le_of_ble_eq_true rfl) dX9_goPart_254) hS (fun H locs hP hS => ?_)
              refine lv_iconst (v := 0) hx hb dX9_goPart_257 (by decide) ?_
              exact sx_reti (Wd := (ax_W a cI L)) (σ := u21) hx hb hr hF hP hS hlocks dX9_goPart_258
            · refine lv_bipush (v := (-19)) hx hb dX9_goPart_238 (by decide) ?_
              exact sx_reti (Wd := (ax_W a cI L)) (σ := u17) hx hb hr hF hP hS hlocks dX9_goPart_240
          · refine lv_aload_n hx hb dX9_goPart_221 rfl (lv_at hl 3 rfl) ?_
            refine lv_iload hx hb dX9_goPart_222 (lv_at hl 0 rfl) ?_
            refine px_walker_here hx hb hts hown hK hP fl_X9_41 hD hS hF dX9_goPart_224 (fun u23 H locs hF hP hS => ?_)
            refine lv_iconst (v := 0) hx hb dX9_goPart_227 (by decide) ?_
            exact sx_reti (Wd := (ax_W a cI L)) (σ := u23) hx hb hr hF hP hS hlocks dX9_goPart_228
        · refine lv_bipush (v := (-12)) hx hb dX9_goPart_190 (by decide) ?_
          exact sx_reti (Wd := (ax_W a cI L)) (σ := u11) hx hb hr hF hP hS hlocks dX9_goPart_192
      · refine lv_bipush (v := (-20)) hx hb dX9_goPart_167 (by decide) ?_
        exact sx_reti (Wd := (ax_W a cI L)) (σ := u8) hx hb hr hF hP hS hlocks dX9_goPart_169
    · refine lv_bipush (v := (-11)) hx hb dX9_goPart_148 (by decide) ?_
      exact sx_reti (Wd := (ax_W a cI L)) (σ := u5) hx hb hr hF hP hS hlocks dX9_goPart_150
  have hB84 : ∀ (x1 : Int32) (x2 : Int32) (u : q_St) (ls : Array Slot), lv_has ls 7 [(0, .ref (a 10)), (1, .int x1), (2, .int x2)] → fX9_goPart_b84 L N x1 x2 u = some (r0, σ0) → ∀ (H : Heap) (locs : List Loc), va_P D vwCl (ax_W a cI L u) H → va_S (ax_A a) s.heap H locs → W p l e (headSpec (Cond.code yX9_goPart cX9_goPart 7 (some .int) :: q_T) ({ frames := 5, cells := 0, slots := 0, locals := 116 } : Room)).room s m ([.ref (a 10), .int o1] : List Value).toArray below meth c H locs 0 0 (MQ below (q_Qi D vwCl (ax_W a cI L) (ax_A a) r0 σ0) ([.ref (a 10), .int o1] : List Value).toArray s 0 0 (ax_A a)) (F0 m 84 ls []) := by
    intro x1 x2 u ls hl hF _ _ hP hS
    unfold fX9_goPart_b84 at hF
    refine lv_iload_n hx hb dX9_goPart_84 rfl (lv_at hl 2 rfl) ?_
    refine sx_if_eq (tgt := 137) hx hb hF dX9_goPart_85 (by decide) (fun hF => ?_) (fun hF => ?_)
    · exact hB137 x1 u ls (lv_sub hl [0, 1] rfl) hF _ _ hP hS
    · refine lv_aload_n hx hb dX9_goPart_88 rfl (lv_at hl 0 rfl) ?_
      refine gx_walker_to hx hb hts hown hK hP fl_X9_85 dX9_goPart_89 ?_
      refine lv_aload_n hx hb dX9_goPart_92 rfl (lv_at hl 0 rfl) ?_
      refine gx_walker_from hx hb hts hown hK hP fl_X9_76 dX9_goPart_93 ?_
      refine lv_isub hx hb dX9_goPart_96 ?_
      refine lv_iconst (v := 2) hx hb dX9_goPart_97 (by decide) ?_
      refine sx_icmp_ne (tgt := 137) hx hb hF dX9_goPart_98 (by decide) (fun hF => ?_) (fun hF => ?_)
      · exact hB137 x1 u ls (lv_sub hl [0, 1] rfl) hF _ _ hP hS
      · refine lv_aload_n hx hb dX9_goPart_101 rfl (lv_at hl 0 rfl) ?_
        refine lv_aload_n hx hb dX9_goPart_102 rfl (lv_at hl 0 rfl) ?_
        refine gx_walker_source hx hb hts hown hK hP fl_X9_73 dX9_goPart_103 ?_
        refine lv_aload_n hx hb dX9_goPart_106 rfl (lv_at hl 0 rfl) ?_
        refine gx_walker_from hx hb hts hown hK hP fl_X9_76 dX9_goPart_107 ?_
        refine lv_iconst (v := 1) hx hb dX9_goPart_110 (by decide) ?_
        refine lv_iadd hx hb dX9_goPart_111 ?_
        obtain ⟨r24, u25, hc26, hF⟩ := q_bnd_some hF
        refine sx_ci (Wd := (ax_W a cI L)) (σ1 := u25) (q_runV (Wd := (ax_W a cI L)) (σ := u) (q0 := 10) (ci := 9) (T := TX9) (N := 12) (As := [.int (q_i u 37), .int ((q_i u 38) + 1)]) (rest := []) hx hb hml hown hts hK hP (kt_X9_byteOf hD hc26) cw_X9_55 rfl rfl ⟨Nat.le_of_ble_eq_true rfl, Nat.le_of_ble_eq_true rfl⟩ rfl rfl rfl hl.1 rfl (Nat.le_of_ble_eq_true rfl) dX9_goPart_112) hS (fun H locs hP hS => ?_)
        refine lv_bipush (v := 46) hx hb dX9_goPart_115 (by decide) ?_
        refine sx_icmp_ne (tgt := 137) hx hb hF dX9_goPart_117 (by decide) (fun hF => ?_) (fun hF => ?_)
        · exact hB137 x1 u25 ls (lv_sub hl [0, 1] rfl) hF _ _ hP hS
        · refine lv_aload_n hx hb dX9_goPart_120 rfl (lv_at hl 0 rfl) ?_
          refine lv_aload_n hx hb dX9_goPart_121 rfl (lv_at hl 0 rfl) ?_
          refine gx_walker_nodes hx hb hts hown hK hP fl_X9_15 dX9_goPart_122 ?_
          refine lv_aload_n hx hb dX9_goPart_125 rfl (lv_at hl 0 rfl) ?_
          refine gx_walker_here hx hb hts hown hK hP fl_X9_41 dX9_goPart_126 ?_
          obtain ⟨r27, u28, hc29, hF⟩ := q_bnd_some hF
          refine sx_ci (Wd := (ax_W a cI L)) (σ1 := u28) (q_runV (Wd := (ax_W a cI L)) (σ := u25) (q0 := 5) (ci := 4) (T := TX4) (N := 2) (As := [.int (q_i u25 36)]) (rest := [.ref (a 10)]) hx hb hml hown hts hK hP (kt_X4_holderOf hD hc29) cw_X9_91 rfl rfl ⟨Nat.le_of_ble_eq_true rfl, Nat.le_of_ble_eq_true rfl⟩ rfl rfl rfl hl.1 rfl (Nat.le_of_ble_eq_true rfl) dX9_goPart_129) hS (fun H locs hP hS => ?_)
          refine px_walker_here hx hb hts hown hK hP fl_X9_41 hD hS hF dX9_goPart_132 (fun u30 H locs hF hP hS => ?_)
          refine lv_iconst (v := 0) hx hb dX9_goPart_135 (by decide) ?_
          exact sx_reti (Wd := (ax_W a cI L)) (σ := u30) hx hb hr hF hP hS hlocks dX9_goPart_136
  have hB53 : ∀ (x1 : Int32) (y0 : Int32) (u : q_St) (ls : Array Slot), lv_has ls 7 [(0, .ref (a 10)), (1, .int x1)] → fX9_goPart_b53 L N x1 y0 u = some (r0, σ0) → ∀ (H : Heap) (locs : List Loc), va_P D vwCl (ax_W a cI L u) H → va_S (ax_A a) s.heap H locs → W p l e (headSpec (Cond.code yX9_goPart cX9_goPart 7 (some .int) :: q_T) ({ frames := 5, cells := 0, slots := 0, locals := 116 } : Room)).room s m ([.ref (a 10), .int o1] : List Value).toArray below meth c H locs 0 0 (MQ below (q_Qi D vwCl (ax_W a cI L) (ax_A a) r0 σ0) ([.ref (a 10), .int o1] : List Value).toArray s 0 0 (ax_A a)) (F0 m 53 ls [.int y0]) := by
    intro x1 y0 u ls hl hF _ _ hP hS
    unfold fX9_goPart_b53 at hF
    refine lv_istore_n (lv' := [(2, .int y0), (0, .ref (a 10)), (1, .int x1)]) hx hb dX9_goPart_53 rfl hl (by decide) rfl (fun ls hl => ?_)
    refine lv_aload_n hx hb dX9_goPart_54 rfl (lv_at hl 1 rfl) ?_
    refine gx_walker_to hx hb hts hown hK hP fl_X9_85 dX9_goPart_55 ?_
    refine lv_aload_n hx hb dX9_goPart_58 rfl (lv_at hl 1 rfl) ?_
    refine gx_walker_from hx hb hts hown hK hP fl_X9_76 dX9_goPart_59 ?_
    refine sx_icmp_eq (tgt := 82) hx hb hF dX9_goPart_62 (by decide) (fun hF => ?_) (fun hF => ?_)
    · refine lv_iconst (v := 0) hx hb dX9_goPart_82 (by decide) ?_
      exact sx_reti (Wd := (ax_W a cI L)) (σ := u) hx hb hr hF hP hS hlocks dX9_goPart_83
    · refine lv_iload_n hx hb dX9_goPart_65 rfl (lv_at hl 0 rfl) ?_
      refine sx_if_eq (tgt := 84) hx hb hF dX9_goPart_66 (by decide) (fun hF => ?_) (fun hF => ?_)
      · exact hB84 x1 y0 u ls (lv_sub hl [1, 2, 0] rfl) hF _ _ hP hS
      · refine lv_aload_n hx hb dX9_goPart_69 rfl (lv_at hl 1 rfl) ?_
        refine gx_walker_to hx hb hts hown hK hP fl_X9_85 dX9_goPart_70 ?_
        refine lv_aload_n hx hb dX9_goPart_73 rfl (lv_at hl 1 rfl) ?_
        refine gx_walker_from hx hb hts hown hK hP fl_X9_76 dX9_goPart_74 ?_
        refine lv_isub hx hb dX9_goPart_77 ?_
        refine lv_iconst (v := 1) hx hb dX9_goPart_78 (by decide) ?_
        refine sx_icmp_ne (tgt := 84) hx hb hF dX9_goPart_79 (by decide) (fun hF => ?_) (fun hF => ?_)
        · exact hB84 x1 y0 u ls (lv_sub hl [1, 2, 0] rfl) hF _ _ hP hS
        · refine lv_iconst (v := 0) hx hb dX9_goPart_82 (by decide) ?_
          exact sx_reti (Wd := (ax_W a cI L)) (σ := u) hx hb hr hF hP hS hlocks dX9_goPart_83
  have hB52 : ∀ (x1 : Int32) (u : q_St) (ls : Array Slot), lv_has ls 7 [(0, .ref (a 10)), (1, .int x1)] → fX9_goPart_b52 L N x1 u = some (r0, σ0) → ∀ (H : Heap) (locs : List Loc), va_P D vwCl (ax_W a cI L u) H → va_S (ax_A a) s.heap H locs → W p l e (headSpec (Cond.code yX9_goPart cX9_goPart 7 (some .int) :: q_T) ({ frames := 5, cells := 0, slots := 0, locals := 116 } : Room)).room s m ([.ref (a 10), .int o1] : List Value).toArray below meth c H locs 0 0 (MQ below (q_Qi D vwCl (ax_W a cI L) (ax_A a) r0 σ0) ([.ref (a 10), .int o1] : List Value).toArray s 0 0 (ax_A a)) (F0 m 52 ls []) := by
    intro x1 u ls hl hF _ _ hP hS
    unfold fX9_goPart_b52 at hF
    refine lv_iconst (v := 0) hx hb dX9_goPart_52 (by decide) ?_
    exact hB53 x1 0 u ls (lv_sub hl [0, 1] rfl) hF _ _ hP hS
  unfold fX9_goPart at hF
  refine lv_aload_n hx hb dX9_goPart_0 rfl (lv_at hl 0 rfl) ?_
  refine gx_walker_nodes hx hb hts hown hK hP fl_X9_15 dX9_goPart_1 ?_
  refine lv_aload_n hx hb dX9_goPart_4 rfl (lv_at hl 0 rfl) ?_
  refine gx_walker_here hx hb hts hown hK hP fl_X9_41 dX9_goPart_5 ?_
  obtain ⟨r1, u2, hc3, hF⟩ := q_bnd_some hF
  refine sx_ci (Wd := (ax_W a cI L)) (σ1 := u2) (q_runV (Wd := (ax_W a cI L)) (σ := u) (q0 := 5) (ci := 4) (T := TX4) (N := 2) (As := [.int (q_i u 36)]) (rest := []) hx hb hml hown hts hK hP (kt_X4_kindOf hD hc3) cw_X9_88 rfl rfl ⟨Nat.le_of_ble_eq_true rfl, Nat.le_of_ble_eq_true rfl⟩ rfl rfl rfl hl.1 rfl (Nat.le_of_ble_eq_true rfl) dX9_goPart_8) hS (fun H locs hP hS => ?_)
  refine lv_iconst (v := 2) hx hb dX9_goPart_11 (by decide) ?_
  refine sx_icmp_eq (tgt := 18) hx hb hF dX9_goPart_12 (by decide) (fun hF => ?_) (fun hF => ?_)
  · refine lv_aload_n hx hb dX9_goPart_18 rfl (lv_at hl 0 rfl) ?_
    refine gx_walker_to hx hb hts hown hK hP fl_X9_85 dX9_goPart_19 ?_
    refine lv_aload_n hx hb dX9_goPart_22 rfl (lv_at hl 0 rfl) ?_
    refine gx_walker_from hx hb hts hown hK hP fl_X9_76 dX9_goPart_23 ?_
    refine lv_isub hx hb dX9_goPart_26 ?_
    refine lv_iconst (v := 1) hx hb dX9_goPart_27 (by decide) ?_
    refine sx_icmp_lt (tgt := 52) hx hb hF dX9_goPart_28 (by decide) (fun hF => ?_) (fun hF => ?_)
    · exact hB52 o1 u2 ls (lv_sub hl [0, 1] rfl) hF _ _ hP hS
    · refine lv_aload_n hx hb dX9_goPart_31 rfl (lv_at hl 0 rfl) ?_
      refine lv_aload_n hx hb dX9_goPart_32 rfl (lv_at hl 0 rfl) ?_
      refine gx_walker_source hx hb hts hown hK hP fl_X9_73 dX9_goPart_33 ?_
      refine lv_aload_n hx hb dX9_goPart_36 rfl (lv_at hl 0 rfl) ?_
      refine gx_walker_from hx hb hts hown hK hP fl_X9_76 dX9_goPart_37 ?_
      obtain ⟨r31, u32, hc33, hF⟩ := q_bnd_some hF
      refine sx_ci (Wd := (ax_W a cI L)) (σ1 := u32) (q_runV (Wd := (ax_W a cI L)) (σ := u2) (q0 := 10) (ci := 9) (T := TX9) (N := 12) (As := [.int (q_i u2 37), .int (q_i u2 38)]) (rest := []) hx hb hml hown hts hK hP (kt_X9_byteOf hD hc33) cw_X9_55 rfl rfl ⟨Nat.le_of_ble_eq_true rfl, Nat.le_of_ble_eq_true rfl⟩ rfl rfl rfl hl.1 rfl (Nat.le_of_ble_eq_true rfl) dX9_goPart_40) hS (fun H locs hP hS => ?_)
      refine lv_bipush (v := 46) hx hb dX9_goPart_43 (by decide) ?_
      refine sx_icmp_ne (tgt := 52) hx hb hF dX9_goPart_45 (by decide) (fun hF => ?_) (fun hF => ?_)
      · exact hB52 o1 u32 ls (lv_sub hl [0, 1] rfl) hF _ _ hP hS
      · refine lv_iconst (v := 1) hx hb dX9_goPart_48 (by decide) ?_
        refine lv_goto (tgt := 53) hx hb dX9_goPart_49 (by decide) ?_
        exact hB53 o1 1 u32 ls (lv_sub hl [0, 1] rfl) hF _ _ hP hS
  · refine lv_bipush (v := (-12)) hx hb dX9_goPart_15 (by decide) ?_
    exact sx_reti (Wd := (ax_W a cI L)) (σ := u2) hx hb hr hF hP hS hlocks dX9_goPart_17
