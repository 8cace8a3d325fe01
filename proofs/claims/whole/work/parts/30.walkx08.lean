set_option maxHeartbeats 4000000 in
set_option maxRecDepth 100000 in
theorem kt_X6_writeToldAgain {N : Nat} {l : Launch} {D : va_G} {a : Nat → Nat} {cI : Nat → ClassId} {L : Nat → Nat} (hD : ∀ σ, va_D (ax_A a) (ax_W a cI L σ))  {u σ0 : q_St} {r0 : Int32} (hF : fX6_writeToldAgain L N u = some (r0, σ0)) : Met l yX6_writeToldAgain (Cond.code yX6_writeToldAgain cX6_writeToldAgain 6 (some .boolean) :: q_T) ({ frames := 5, cells := 0, slots := 0, locals := 126 } : Room) (q_P D vwCl (ax_T cI) (ax_W a cI L) [.ref (a 3)] u) (q_Qi D vwCl (ax_W a cI L) (ax_A a) r0 σ0) 0 0 (ax_A a) := by
  refine Met.ofW (cc := cX6_writeToldAgain) (maxL := 6) (ret := (some .boolean)) (by decide) rfl ?_
  intro p e s m args below meth c s₁ B hml hv
  obtain ⟨rfl, hP, hK⟩ := hv
  have hx := B.exec
  have hb := B.bytes
  have hr := B.returns
  have hts := q_ts (atoms_spec (ws := Cond.code yX6_writeToldAgain cX6_writeToldAgain 6 (some .boolean) :: q_T) B.pre)
  have hown : s.vm.findClass RX6 = some m.cls := findClass_of_methodNamed B.named
  have hlocks := B.notSynchronized
  have hS : va_S (ax_A a) s.heap s.heap [] := va_S.rf
  have hl := lv_entry ([.ref (a 3)]) (n := 6) (Nat.le_of_ble_eq_true rfl)
  rw [lg_entry_eq]
  generalize (lg_sl ([.ref (a 3)]) ++ List.replicate (6 - (lg_sl ([.ref (a 3)])).length) Slot.unset).toArray = ls at hl ⊢
  have hl : lv_has ls 6 [(0, .ref (a 3))] := hl
  have hB21 : ∀ (n : Nat) (x1 : Int32) (x2 : Int32) (x3 : Int32) (u : q_St) (ls : Array Slot), lv_has ls 6 [(0, .ref (a 3)), (1, .int x1), (2, .int x2), (3, .int x3)] → q_lp (fX6_writeToldAgain_b21 L N) (fun _ _ _ _ => none) n x1 x2 x3 u = some (r0, σ0) → ∀ (H : Heap) (locs : List Loc), va_P D vwCl (ax_W a cI L u) H → va_S (ax_A a) s.heap H locs → W p l e (headSpec (Cond.code yX6_writeToldAgain cX6_writeToldAgain 6 (some .boolean) :: q_T) ({ frames := 5, cells := 0, slots := 0, locals := 126 } : Room)).room s m ([.ref (a 3)] : List Value).toArray below meth c H locs 0 0 (MQ below (q_Qi D vwCl (ax_W a cI L) (ax_A a) r0 σ0) ([.ref (a 3)] : List Value).toArray s 0 0 (ax_A a)) (F0 m 21 ls []) := by
    intro n
    induction n with
    | zero => intro x1 x2 x3 u ls hl hF; exact absurd (show (none : Option (Int32 × q_St)) = some _ from hF) (fun h => nomatch h)
    | succ n hi21 =>
      intro x1 x2 x3 u ls hl hF _ _ hP hS
      obtain ⟨ih21, hih⟩ : ∃ q, q = q_lp (fX6_writeToldAgain_b21 L N) (fun _ _ _ _ => none) n := ⟨_, rfl⟩
      rw [← hih] at hi21
      have hF : fX6_writeToldAgain_b21 L N (q_lp (fX6_writeToldAgain_b21 L N) (fun _ _ _ _ => none) n) x1 x2 x3 u = some (r0, σ0) := hF
      rw [← hih] at hF
      clear hih
      unfold fX6_writeToldAgain_b21 at hF
      refine lv_iload_n hx hb dX6_writeToldAgain_21 rfl (lv_at hl 3 rfl) ?_
      refine lv_iload_n hx hb dX6_writeToldAgain_22 rfl (lv_at hl 1 rfl) ?_
      refine sx_icmp_ge (tgt := 118) hx hb hF dX6_writeToldAgain_23 (by decide) (fun hF => ?_) (fun hF => ?_)
      · refine lv_iconst (v := 1) hx hb dX6_writeToldAgain_118 (by decide) ?_
        exact sx_retz (Wd := (ax_W a cI L)) (σ := u) hx hb hr (by decide) hF hP hS hlocks dX6_writeToldAgain_119
      · refine lv_iload_n hx hb dX6_writeToldAgain_26 rfl (lv_at hl 2 rfl) ?_
        refine lv_iload_n hx hb dX6_writeToldAgain_27 rfl (lv_at hl 3 rfl) ?_
        refine lv_iadd hx hb dX6_writeToldAgain_28 ?_
        refine lv_bipush (v := 80) hx hb dX6_writeToldAgain_29 (by decide) ?_
        refine sx_icmp_ge (tgt := 118) hx hb hF dX6_writeToldAgain_31 (by decide) (fun hF => ?_) (fun hF => ?_)
        · refine lv_iconst (v := 1) hx hb dX6_writeToldAgain_118 (by decide) ?_
          exact sx_retz (Wd := (ax_W a cI L)) (σ := u) hx hb hr (by decide) hF hP hS hlocks dX6_writeToldAgain_119
        · refine lv_iload_n hx hb dX6_writeToldAgain_34 rfl (lv_at hl 3 rfl) ?_
          refine lv_bipush (v := 24) hx hb dX6_writeToldAgain_35 (by decide) ?_
          refine lv_irem hx hb dX6_writeToldAgain_37 (by decide) ?_
          refine sx_istore (lv2 := [(0, .ref (a 3)), (1, .int x1), (2, .int x2), (3, .int x3)]) hx hb hF dX6_writeToldAgain_38 hl (by decide) rfl (fun v6 hF ls hl => ?_)
          refine lv_aload_n hx hb dX6_writeToldAgain_40 rfl (lv_at hl 1 rfl) ?_
          refine lv_iload_n hx hb dX6_writeToldAgain_41 rfl (lv_at hl 4 rfl) ?_
          refine lv_bipush (v := 24) hx hb dX6_writeToldAgain_42 (by decide) ?_
          refine lv_idiv hx hb dX6_writeToldAgain_44 (by decide) ?_
          refine lv_iload hx hb dX6_writeToldAgain_45 (lv_at hl 0 rfl) ?_
          refine lv_iconst (v := 4) hx hb dX6_writeToldAgain_47 (by decide) ?_
          refine lv_idiv hx hb dX6_writeToldAgain_48 (by decide) ?_
          obtain ⟨r7, u8, hc9, hF⟩ := q_bnd_some hF
          refine sx_cl (Wd := (ax_W a cI L)) (σ1 := u8) (q_runV (Wd := (ax_W a cI L)) (σ := u) (q0 := 3) (ci := 6) (T := TX6) (N := 9) (As := [.int (x3 / 24), .int (v6 / 4)]) (rest := []) hx hb hml hown hts hK hP (kt_X6_word hD hc9) cw_X6_58 rfl rfl ⟨Nat.le_of_ble_eq_true rfl, Nat.le_of_ble_eq_true rfl⟩ rfl rfl rfl hl.1 rfl (Nat.le_of_ble_eq_true rfl) dX6_writeToldAgain_49) hS (fun H locs hP hS => ?_)
          refine lv_bipush (v := 16) hx hb dX6_writeToldAgain_52 (by decide) ?_
          refine lv_iload hx hb dX6_writeToldAgain_54 (lv_at hl 0 rfl) ?_
          refine lv_iconst (v := 4) hx hb dX6_writeToldAgain_56 (by decide) ?_
          refine lv_irem hx hb dX6_writeToldAgain_57 (by decide) ?_
          refine lv_imul hx hb dX6_writeToldAgain_58 ?_
          refine lv_lushr (v := q_lush r7 (16 * (v6 - v6 / 4 * 4))) hx hb dX6_writeToldAgain_59 rfl ?_
          refine lv_l2i (v := Int64.toInt32 (q_lush r7 (16 * (v6 - v6 / 4 * 4)))) hx hb dX6_writeToldAgain_60 rfl ?_
          refine lv_ldc (v := 65535) hx hb hown (hts _ kc_X6_62) dX6_writeToldAgain_61 ?_
          refine lv_iand hx hb dX6_writeToldAgain_63 ?_
          refine sx_istore (lv2 := [(4, .int v6), (0, .ref (a 3)), (1, .int x1), (2, .int x2), (3, .int x3)]) hx hb hF dX6_writeToldAgain_64 hl (by decide) rfl (fun v10 hF ls hl => ?_)
          refine lv_aload_n hx hb dX6_writeToldAgain_66 rfl (lv_at hl 2 rfl) ?_
          refine gx_store_disk hx hb hts hown hK hP fl_X6_9 dX6_writeToldAgain_67 ?_
          refine gx_disk_cells hx hb hts hown hK hP fl_X6_40 dX6_writeToldAgain_70 ?_
          refine lv_aload_n hx hb dX6_writeToldAgain_73 rfl (lv_at hl 2 rfl) ?_
          refine gx_store_volume hx hb hts hown hK hP fl_X6_15 dX6_writeToldAgain_74 ?_
          refine lv_iload_n hx hb dX6_writeToldAgain_77 rfl (lv_at hl 4 rfl) ?_
          refine lv_iload_n hx hb dX6_writeToldAgain_78 rfl (lv_at hl 5 rfl) ?_
          refine lv_iadd hx hb dX6_writeToldAgain_79 ?_
          obtain ⟨r11, u12, hc13, hF⟩ := q_bnd_some hF
          refine sx_ci (Wd := (ax_W a cI L)) (σ1 := u12) (q_runV (Wd := (ax_W a cI L)) (σ := u8) (q0 := 2) (ci := 8) (T := TX8) (N := 15) (As := [.int (x2 + x3)]) (rest := [.ref (a 12)]) hx hb hml hown hts hK hP (kt_X8_spot hD hc13) cw_X6_43 rfl rfl ⟨Nat.le_of_ble_eq_true rfl, Nat.le_of_ble_eq_true rfl⟩ rfl rfl rfl hl.1 rfl (Nat.le_of_ble_eq_true rfl) dX6_writeToldAgain_80) hS (fun H locs hP hS => ?_)
          refine lv_aload_n hx hb dX6_writeToldAgain_83 rfl (lv_at hl 2 rfl) ?_
          refine gx_store_page hx hb hts hown hK hP fl_X6_37 dX6_writeToldAgain_84 ?_
          refine lv_iconst (v := 0) hx hb dX6_writeToldAgain_87 (by decide) ?_
          refine lv_bipush (v := 8) hx hb dX6_writeToldAgain_88 (by decide) ?_
          obtain ⟨⟨hs1, hs2, hs3, hs4, hs5⟩, hF⟩ := q_cp_some hF
          refine va_copyl hx hb (hml.trans hl.1.symm) hown (hts _ lw_X6_49) (hts _ lb_cp_n) (hts _ lb_cp_s) (hts _ lb_sys) hK hP (hD u12) hS 12 22 0 10 (ty := .long) rfl rfl rfl rfl rfl hs1 hs2 hs3 hs4 hs5 (fun _ _ => rfl) (Nat.le_of_ble_eq_true rfl) (Nat.le_of_ble_eq_true rfl) dX6_writeToldAgain_90 (fun H locs hP _ hS => ?_)
          have hP : va_P D vwCl (ax_W a cI L (q_sj u12 3 (va_cpy (q_j u12 0) (q_j u12 3) (Int32.toNatClampNeg r11) (Int32.toNatClampNeg 0) (Int32.toNatClampNeg 8)))) H := hP
          obtain ⟨u14, hu1⟩ : ∃ q, q = (q_sj u12 3 (va_cpy (q_j u12 0) (q_j u12 3) (Int32.toNatClampNeg r11) (Int32.toNatClampNeg 0) (Int32.toNatClampNeg 8))) := ⟨_, rfl⟩
          rw [← hu1] at hP hF
          refine lv_aload_n hx hb dX6_writeToldAgain_93 rfl (lv_at hl 2 rfl) ?_
          refine gx_store_volume hx hb hts hown hK hP fl_X6_15 dX6_writeToldAgain_94 ?_
          refine lv_iload hx hb dX6_writeToldAgain_97 (lv_at hl 0 rfl) ?_
          refine lv_aload_n hx hb dX6_writeToldAgain_99 rfl (lv_at hl 2 rfl) ?_
          refine gx_store_page hx hb hts hown hK hP fl_X6_37 dX6_writeToldAgain_100 ?_
          refine lv_iconst (v := 0) hx hb dX6_writeToldAgain_103 (by decide) ?_
          obtain ⟨r15, u16, hc17, hF⟩ := q_bnd_some hF
          refine sx_ci (Wd := (ax_W a cI L)) (σ1 := u16) (q_runV (Wd := (ax_W a cI L)) (σ := u14) (q0 := 2) (ci := 8) (T := TX8) (N := 15) (As := [.int v10, .ref (a 22), .int 0]) (rest := []) hx hb hml hown hts hK hP (kt_X8_write_22 hD hc17) cw_X6_87 rfl rfl ⟨Nat.le_of_ble_eq_true rfl, Nat.le_of_ble_eq_true rfl⟩ rfl rfl rfl hl.1 rfl (Nat.le_of_ble_eq_true rfl) dX6_writeToldAgain_104) hS (fun H locs hP hS => ?_)
          refine sx_if_ne (tgt := 112) hx hb hF dX6_writeToldAgain_107 (by decide) (fun hF => ?_) (fun hF => ?_)
          · refine sx_iinc (d := 1) (k := 5) (lv2 := [(5, .int v10), (4, .int v6), (0, .ref (a 3)), (1, .int x1), (2, .int x2)]) hx hb hF dX6_writeToldAgain_112 hl rfl (by decide) (by decide) rfl (fun v18 hF ls hl => ?_)
            refine lv_goto (tgt := 21) hx hb dX6_writeToldAgain_115 (by decide) ?_
            exact hi21 x1 x2 v18 u16 ls (lv_sub hl [3, 4, 5, 0] rfl) hF _ _ hP hS
          · refine lv_iconst (v := 0) hx hb dX6_writeToldAgain_110 (by decide) ?_
            exact sx_retz (Wd := (ax_W a cI L)) (σ := u16) hx hb hr (by decide) hF hP hS hlocks dX6_writeToldAgain_111
  unfold fX6_writeToldAgain at hF
  refine lv_aload_n hx hb dX6_writeToldAgain_0 rfl (lv_at hl 0 rfl) ?_
  refine lv_iconst (v := 0) hx hb dX6_writeToldAgain_1 (by decide) ?_
  refine lv_bipush (v := 6) hx hb dX6_writeToldAgain_2 (by decide) ?_
  obtain ⟨r1, u2, hc3, hF⟩ := q_bnd_some hF
  refine sx_cl (Wd := (ax_W a cI L)) (σ1 := u2) (q_runV (Wd := (ax_W a cI L)) (σ := u) (q0 := 3) (ci := 6) (T := TX6) (N := 9) (As := [.int 0, .int 6]) (rest := []) hx hb hml hown hts hK hP (kt_X6_word hD hc3) cw_X6_58 rfl rfl ⟨Nat.le_of_ble_eq_true rfl, Nat.le_of_ble_eq_true rfl⟩ rfl rfl rfl hl.1 rfl (Nat.le_of_ble_eq_true rfl) dX6_writeToldAgain_4) hS (fun H locs hP hS => ?_)
  refine lv_l2i (v := Int64.toInt32 r1) hx hb dX6_writeToldAgain_7 rfl ?_
  refine sx_istore_n (lv2 := [(0, .ref (a 3))]) hx hb hF dX6_writeToldAgain_8 rfl hl (by decide) rfl (fun v4 hF ls hl => ?_)
  refine lv_iload_n hx hb dX6_writeToldAgain_9 rfl (lv_at hl 0 rfl) ?_
  refine lv_bipush (v := 24) hx hb dX6_writeToldAgain_10 (by decide) ?_
  refine lv_iadd hx hb dX6_writeToldAgain_12 ?_
  refine lv_iconst (v := 1) hx hb dX6_writeToldAgain_13 (by decide) ?_
  refine lv_isub hx hb dX6_writeToldAgain_14 ?_
  refine lv_bipush (v := 24) hx hb dX6_writeToldAgain_15 (by decide) ?_
  refine lv_idiv hx hb dX6_writeToldAgain_17 (by decide) ?_
  refine sx_istore_n (lv2 := [(1, .int v4), (0, .ref (a 3))]) hx hb hF dX6_writeToldAgain_18 rfl hl (by decide) rfl (fun v5 hF ls hl => ?_)
  refine lv_iconst (v := 0) hx hb dX6_writeToldAgain_19 (by decide) ?_
  refine lv_istore_n (lv' := [(3, .int 0), (2, .int v5), (1, .int v4), (0, .ref (a 3))]) hx hb dX6_writeToldAgain_20 rfl hl (by decide) rfl (fun ls hl => ?_)
  exact hB21 N v4 v5 0 u2 ls (lv_sub hl [3, 2, 1, 0] rfl) hF _ _ hP hS
set_option maxHeartbeats 4000000 in
set_option maxRecDepth 100000 in
theorem kt_X6_comeBack {N : Nat} {l : Launch} {D : va_G} {a : Nat → Nat} {cI : Nat → ClassId} {L : Nat → Nat} (hD : ∀ σ, va_D (ax_A a) (ax_W a cI L σ))  {u σ0 : q_St} {r0 : Int32} (hF : fX6_comeBack L N u = some (r0, σ0)) : Met l yX6_comeBack (Cond.code yX6_comeBack cX6_comeBack 1 (some .boolean) :: q_T) ({ frames := 6, cells := 0, slots := 0, locals := 151 } : Room) (q_P D vwCl (ax_T cI) (ax_W a cI L) [.ref (a 3)] u) (q_Qi D vwCl (ax_W a cI L) (ax_A a) r0 σ0) 0 0 (ax_A a) := by
  refine Met.ofW (cc := cX6_comeBack) (maxL := 1) (ret := (some .boolean)) (by decide) rfl ?_
  intro p e s m args below meth c s₁ B hml hv
  obtain ⟨rfl, hP, hK⟩ := hv
  have hx := B.exec
  have hb := B.bytes
  have hr := B.returns
  have hts := q_ts (atoms_spec (ws := Cond.code yX6_comeBack cX6_comeBack 1 (some .boolean) :: q_T) B.pre)
  have hown : s.vm.findClass RX6 = some m.cls := findClass_of_methodNamed B.named
  have hlocks := B.notSynchronized
  have hS : va_S (ax_A a) s.heap s.heap [] := va_S.rf
  have hl := lv_entry ([.ref (a 3)]) (n := 1) (Nat.le_of_ble_eq_true rfl)
  rw [lg_entry_eq]
  generalize (lg_sl ([.ref (a 3)]) ++ List.replicate (1 - (lg_sl ([.ref (a 3)])).length) Slot.unset).toArray = ls at hl ⊢
  have hl : lv_has ls 1 [(0, .ref (a 3))] := hl
  have hB36 : ∀ (u : q_St) (ls : Array Slot), lv_has ls 1 [] → fX6_comeBack_b36 L N u = some (r0, σ0) → ∀ (H : Heap) (locs : List Loc), va_P D vwCl (ax_W a cI L u) H → va_S (ax_A a) s.heap H locs → W p l e (headSpec (Cond.code yX6_comeBack cX6_comeBack 1 (some .boolean) :: q_T) ({ frames := 6, cells := 0, slots := 0, locals := 151 } : Room)).room s m ([.ref (a 3)] : List Value).toArray below meth c H locs 0 0 (MQ below (q_Qi D vwCl (ax_W a cI L) (ax_A a) r0 σ0) ([.ref (a 3)] : List Value).toArray s 0 0 (ax_A a)) (F0 m 36 ls []) := by
    intro u ls hl hF _ _ hP hS
    unfold fX6_comeBack_b36 at hF
    refine lv_iconst (v := 1) hx hb dX6_comeBack_36 (by decide) ?_
    refine lv_goto (tgt := 41) hx hb dX6_comeBack_37 (by decide) ?_
    exact sx_retz (Wd := (ax_W a cI L)) (σ := u) hx hb hr (by decide) hF hP hS hlocks dX6_comeBack_41
  unfold fX6_comeBack at hF
  refine lv_aload_n hx hb dX6_comeBack_0 rfl (lv_at hl 0 rfl) ?_
  refine gx_store_disk hx hb hts hown hK hP fl_X6_9 dX6_comeBack_1 ?_
  refine lv_iconst (v := 1) hx hb dX6_comeBack_4 (by decide) ?_
  refine px_disk_on_1 hx hb hts hown hK hP fl_X6_73 hD hS hF dX6_comeBack_5 (fun u1 H locs hF hP hS => ?_)
  refine lv_aload_n hx hb dX6_comeBack_8 rfl (lv_at hl 0 rfl) ?_
  obtain ⟨r2, u3, hc4, hF⟩ := q_bnd_some hF
  refine sx_cv (Wd := (ax_W a cI L)) (σ1 := u3) (q_runV (Wd := (ax_W a cI L)) (σ := u1) (q0 := 3) (ci := 6) (T := TX6) (N := 9) (As := []) (rest := []) hx hb hml hown hts hK hP (kt_X6_forgetAll hD hc4) cw_X6_91 rfl rfl ⟨Nat.le_of_ble_eq_true rfl, Nat.le_of_ble_eq_true rfl⟩ rfl rfl rfl hl.1 rfl (Nat.le_of_ble_eq_true rfl) dX6_comeBack_9) hS (fun H locs hP hS => ?_)
  refine lv_aload_n hx hb dX6_comeBack_12 rfl (lv_at hl 0 rfl) ?_
  refine gx_store_volume hx hb hts hown hK hP fl_X6_15 dX6_comeBack_13 ?_
  obtain ⟨r5, u6, hc7, hF⟩ := q_bnd_some hF
  refine sx_ci (Wd := (ax_W a cI L)) (σ1 := u6) (q_runV (Wd := (ax_W a cI L)) (σ := u3) (q0 := 2) (ci := 8) (T := TX8) (N := 15) (As := []) (rest := []) hx hb hml hown hts hK hP (kt_X8_recover hD hc7) cw_X6_104 rfl rfl ⟨Nat.le_of_ble_eq_true rfl, Nat.le_of_ble_eq_true rfl⟩ rfl rfl rfl hl.1 rfl (Nat.le_of_ble_eq_true rfl) dX6_comeBack_16) hS (fun H locs hP hS => ?_)
  refine sx_if_eq (tgt := 40) hx hb hF dX6_comeBack_19 (by decide) (fun hF => ?_) (fun hF => ?_)
  · refine lv_iconst (v := 0) hx hb dX6_comeBack_40 (by decide) ?_
    exact sx_retz (Wd := (ax_W a cI L)) (σ := u6) hx hb hr (by decide) hF hP hS hlocks dX6_comeBack_41
  · refine lv_aload_n hx hb dX6_comeBack_22 rfl (lv_at hl 0 rfl) ?_
    refine gx_store_told hx hb hts hown hK hP fl_X6_81 dX6_comeBack_23 ?_
    refine sx_if_eq (tgt := 36) hx hb hF dX6_comeBack_26 (by decide) (fun hF => ?_) (fun hF => ?_)
    · exact hB36 u6 ls (lv_sub hl [] rfl) hF _ _ hP hS
    · refine lv_aload_n hx hb dX6_comeBack_29 rfl (lv_at hl 0 rfl) ?_
      obtain ⟨r8, u9, hc10, hF⟩ := q_bnd_some hF
      refine sx_ci (Wd := (ax_W a cI L)) (σ1 := u9) (q_runV (Wd := (ax_W a cI L)) (σ := u6) (q0 := 3) (ci := 6) (T := TX6) (N := 9) (As := []) (rest := []) hx hb hml hown hts hK hP (kt_X6_writeToldAgain hD hc10) cw_X6_108 rfl rfl ⟨Nat.le_of_ble_eq_true rfl, Nat.le_of_ble_eq_true rfl⟩ rfl rfl rfl hl.1 rfl (Nat.le_of_ble_eq_true rfl) dX6_comeBack_30) hS (fun H locs hP hS => ?_)
      refine sx_if_eq (tgt := 40) hx hb hF dX6_comeBack_33 (by decide) (fun hF => ?_) (fun hF => ?_)
      · refine lv_iconst (v := 0) hx hb dX6_comeBack_40 (by decide) ?_
        exact sx_retz (Wd := (ax_W a cI L)) (σ := u9) hx hb hr (by decide) hF hP hS hlocks dX6_comeBack_41
      · exact hB36 u9 ls (lv_sub hl [] rfl) hF _ _ hP hS
set_option maxHeartbeats 4000000 in
set_option maxRecDepth 100000 in
theorem kt_X10_restore {N : Nat} {l : Launch} {D : va_G} {a : Nat → Nat} {cI : Nat → ClassId} {L : Nat → Nat} (hD : ∀ σ, va_D (ax_A a) (ax_W a cI L σ))  {u σ0 : q_St} {r0 : Int32} (hF : fX10_restore L N u = some (r0, σ0)) : Met l yX10_restore (Cond.code yX10_restore cX10_restore 2 (some .int) :: q_T) ({ frames := 7, cells := 0, slots := 0, locals := 171 } : Room) (q_P D vwCl (ax_T cI) (ax_W a cI L) [.ref (a 0)] u) (q_Qi D vwCl (ax_W a cI L) (ax_A a) r0 σ0) 0 0 (ax_A a) := by
  refine Met.ofW (cc := cX10_restore) (maxL := 2) (ret := (some .int)) (by decide) rfl ?_
  intro p e s m args below meth c s₁ B hml hv
  obtain ⟨rfl, hP, hK⟩ := hv
  have hx := B.exec
  have hb := B.bytes
  have hr := B.returns
  have hts := q_ts (atoms_spec (ws := Cond.code yX10_restore cX10_restore 2 (some .int) :: q_T) B.pre)
  have hown : s.vm.findClass RX10 = some m.cls := findClass_of_methodNamed B.named
  have hlocks := B.notSynchronized
  have hS : va_S (ax_A a) s.heap s.heap [] := va_S.rf
  have hl := lv_entry ([.ref (a 0)]) (n := 2) (Nat.le_of_ble_eq_true rfl)
  rw [lg_entry_eq]
  generalize (lg_sl ([.ref (a 0)]) ++ List.replicate (2 - (lg_sl ([.ref (a 0)])).length) Slot.unset).toArray = ls at hl ⊢
  have hl : lv_has ls 2 [(0, .ref (a 0))] := hl
  unfold fX10_restore at hF
  refine lv_aload_n hx hb dX10_restore_0 rfl (lv_at hl 0 rfl) ?_
  refine gx_h_disk hx hb hts hown hK hP fl_X10_53 dX10_restore_1 ?_
  obtain ⟨r1, u2, hc3, hF⟩ := q_bnd_some hF
  refine sx_ci (Wd := (ax_W a cI L)) (σ1 := u2) (q_runV (Wd := (ax_W a cI L)) (σ := u) (q0 := 1) (ci := 2) (T := TX2) (N := 15) (As := []) (rest := []) hx hb hml hown hts hK hP (kt_X2_writes hD hc3) cw_X10_282 rfl rfl ⟨Nat.le_of_ble_eq_true rfl, Nat.le_of_ble_eq_true rfl⟩ rfl rfl rfl hl.1 rfl (Nat.le_of_ble_eq_true rfl) dX10_restore_4) hS (fun H locs hP hS => ?_)
  refine lv_istore_n (lv' := [(1, .int r1), (0, .ref (a 0))]) hx hb dX10_restore_7 rfl hl (by decide) rfl (fun ls hl => ?_)
  refine lv_aload_n hx hb dX10_restore_8 rfl (lv_at hl 1 rfl) ?_
  refine gx_h_store hx hb hts hown hK hP fl_X10_63 dX10_restore_9 ?_
  obtain ⟨r4, u5, hc6, hF⟩ := q_bnd_some hF
  refine sx_ci (Wd := (ax_W a cI L)) (σ1 := u5) (q_runV (Wd := (ax_W a cI L)) (σ := u2) (q0 := 3) (ci := 6) (T := TX6) (N := 9) (As := []) (rest := []) hx hb hml hown hts hK hP (kt_X6_comeBack hD hc6) cw_X10_285 rfl rfl ⟨Nat.le_of_ble_eq_true rfl, Nat.le_of_ble_eq_true rfl⟩ rfl rfl rfl hl.1 rfl (Nat.le_of_ble_eq_true rfl) dX10_restore_12) hS (fun H locs hP hS => ?_)
  refine sx_if_eq (tgt := 30) hx hb hF dX10_restore_15 (by decide) (fun hF => ?_) (fun hF => ?_)
  · refine lv_bipush (v := (-99)) hx hb dX10_restore_30 (by decide) ?_
    exact sx_reti (Wd := (ax_W a cI L)) (σ := u5) hx hb hr hF hP hS hlocks dX10_restore_32
  · refine lv_aload_n hx hb dX10_restore_18 rfl (lv_at hl 1 rfl) ?_
    refine gx_h_disk hx hb hts hown hK hP fl_X10_53 dX10_restore_19 ?_
    obtain ⟨r7, u8, hc9, hF⟩ := q_bnd_some hF
    refine sx_ci (Wd := (ax_W a cI L)) (σ1 := u8) (q_runV (Wd := (ax_W a cI L)) (σ := u5) (q0 := 1) (ci := 2) (T := TX2) (N := 15) (As := []) (rest := []) hx hb hml hown hts hK hP (kt_X2_writes hD hc9) cw_X10_282 rfl rfl ⟨Nat.le_of_ble_eq_true rfl, Nat.le_of_ble_eq_true rfl⟩ rfl rfl rfl hl.1 rfl (Nat.le_of_ble_eq_true rfl) dX10_restore_22) hS (fun H locs hP hS => ?_)
    refine lv_iload_n hx hb dX10_restore_25 rfl (lv_at hl 0 rfl) ?_
    refine lv_isub hx hb dX10_restore_26 ?_
    refine lv_goto (tgt := 32) hx hb dX10_restore_27 (by decide) ?_
    exact sx_reti (Wd := (ax_W a cI L)) (σ := u8) hx hb hr hF hP hS hlocks dX10_restore_32
set_option maxHeartbeats 4000000 in
set_option maxRecDepth 100000 in
theorem kt_X8_liveEntryOf {N : Nat} {l : Launch} {D : va_G} {a : Nat → Nat} {cI : Nat → ClassId} {L : Nat → Nat} (hD : ∀ σ, va_D (ax_A a) (ax_W a cI L σ)) {o1 : Int32} {u σ0 : q_St} {r0 : Int32} (hF : fX8_liveEntryOf L N o1 u = some (r0, σ0)) : Met l yX8_liveEntryOf (Cond.code yX8_liveEntryOf cX8_liveEntryOf 4 (some .int) :: q_T) ({ frames := 0, cells := 0, slots := 0, locals := 0 } : Room) (q_P D vwCl (ax_T cI) (ax_W a cI L) [.ref (a 2), .int o1] u) (q_Qi D vwCl (ax_W a cI L) (ax_A a) r0 σ0) 0 0 (ax_A a) := by
  refine Met.ofW (cc := cX8_liveEntryOf) (maxL := 4) (ret := (some .int)) (by decide) rfl ?_
  intro p e s m args below meth c s₁ B hml hv
  obtain ⟨rfl, hP, hK⟩ := hv
  have hx := B.exec
  have hb := B.bytes
  have hr := B.returns
  have hts := q_ts (atoms_spec (ws := Cond.code yX8_liveEntryOf cX8_liveEntryOf 4 (some .int) :: q_T) B.pre)
  have hown : s.vm.findClass RX8 = some m.cls := findClass_of_methodNamed B.named
  have hlocks := B.notSynchronized
  have hS : va_S (ax_A a) s.heap s.heap [] := va_S.rf
  have hl := lv_entry ([.ref (a 2), .int o1]) (n := 4) (Nat.le_of_ble_eq_true rfl)
  rw [lg_entry_eq]
  generalize (lg_sl ([.ref (a 2), .int o1]) ++ List.replicate (4 - (lg_sl ([.ref (a 2), .int o1])).length) Slot.unset).toArray = ls at hl ⊢
  have hl : lv_has ls 4 [(0, .ref (a 2)), (1, .int o1)] := hl
  unfold fX8_liveEntryOf at hF
  refine lv_iload_n hx hb dX8_liveEntryOf_0 rfl (lv_at hl 1 rfl) ?_
  refine sx_if_lt (tgt := 13) hx hb hF dX8_liveEntryOf_1 (by decide) (fun hF => ?_) (fun hF => ?_)
  · refine lv_iconst (v := (-1)) hx hb dX8_liveEntryOf_13 (by decide) ?_
    exact sx_reti (Wd := (ax_W a cI L)) (σ := u) hx hb hr hF hP hS hlocks dX8_liveEntryOf_14
  · refine lv_iload_n hx hb dX8_liveEntryOf_4 rfl (lv_at hl 1 rfl) ?_
    refine lv_aload_n hx hb dX8_liveEntryOf_5 rfl (lv_at hl 0 rfl) ?_
    refine gx_vol_latest hx hb hts hown hK hP fl_X8_37 dX8_liveEntryOf_6 ?_
    refine nx_vol_latest hx hb hK hP dX8_liveEntryOf_9 ?_
    refine sx_icmp_lt (tgt := 15) hx hb hF dX8_liveEntryOf_10 (by decide) (fun hF => ?_) (fun hF => ?_)
    · refine lv_aload_n hx hb dX8_liveEntryOf_15 rfl (lv_at hl 0 rfl) ?_
      refine gx_vol_latest hx hb hts hown hK hP fl_X8_37 dX8_liveEntryOf_16 ?_
      refine lv_iload_n hx hb dX8_liveEntryOf_19 rfl (lv_at hl 1 rfl) ?_
      refine lx_vol_latest hx hb hK hP hF dX8_liveEntryOf_20 (fun v1 hF => ?_)
      refine lv_istore_n (lv' := [(2, .int v1), (0, .ref (a 2)), (1, .int o1)]) hx hb dX8_liveEntryOf_21 rfl hl (by decide) rfl (fun ls hl => ?_)
      refine lv_iload_n hx hb dX8_liveEntryOf_22 rfl (lv_at hl 2 rfl) ?_
      refine lv_aload_n hx hb dX8_liveEntryOf_23 rfl (lv_at hl 1 rfl) ?_
      refine gx_vol_disk hx hb hts hown hK hP fl_X8_9 dX8_liveEntryOf_24 ?_
      refine gx_disk_bandSize hx hb hts hown hK hP fl_X8_71 dX8_liveEntryOf_27 ?_
      refine sx_idiv hx hb hF dX8_liveEntryOf_30 (fun hF => ?_)
      refine sx_istore_n (lv2 := [(2, .int v1), (0, .ref (a 2)), (1, .int o1)]) hx hb hF dX8_liveEntryOf_31 rfl hl (by decide) rfl (fun v2 hF ls hl => ?_)
      refine lv_iload_n hx hb dX8_liveEntryOf_32 rfl (lv_at hl 1 rfl) ?_
      refine lv_aload_n hx hb dX8_liveEntryOf_33 rfl (lv_at hl 2 rfl) ?_
      refine gx_vol_tail hx hb hts hown hK hP fl_X8_68 dX8_liveEntryOf_34 ?_
      refine sx_icmp_lt (tgt := 63) hx hb hF dX8_liveEntryOf_37 (by decide) (fun hF => ?_) (fun hF => ?_)
      · refine lv_iconst (v := (-1)) hx hb dX8_liveEntryOf_63 (by decide) ?_
        exact sx_reti (Wd := (ax_W a cI L)) (σ := u) hx hb hr hF hP hS hlocks dX8_liveEntryOf_64
      · refine lv_iload_n hx hb dX8_liveEntryOf_40 rfl (lv_at hl 0 rfl) ?_
        refine lv_aload_n hx hb dX8_liveEntryOf_41 rfl (lv_at hl 2 rfl) ?_
        refine gx_vol_marks hx hb hts hown hK hP fl_X8_21 dX8_liveEntryOf_42 ?_
        refine nx_vol_marks hx hb hK hP dX8_liveEntryOf_45 ?_
        refine sx_icmp_ge (tgt := 63) hx hb hF dX8_liveEntryOf_46 (by decide) (fun hF => ?_) (fun hF => ?_)
        · refine lv_iconst (v := (-1)) hx hb dX8_liveEntryOf_63 (by decide) ?_
          exact sx_reti (Wd := (ax_W a cI L)) (σ := u) hx hb hr hF hP hS hlocks dX8_liveEntryOf_64
        · refine lv_iload_n hx hb dX8_liveEntryOf_49 rfl (lv_at hl 1 rfl) ?_
          refine lv_aload_n hx hb dX8_liveEntryOf_50 rfl (lv_at hl 2 rfl) ?_
          refine gx_vol_marks hx hb hts hown hK hP fl_X8_21 dX8_liveEntryOf_51 ?_
          refine lv_iload_n hx hb dX8_liveEntryOf_54 rfl (lv_at hl 0 rfl) ?_
          refine lx_vol_marks hx hb hK hP hF dX8_liveEntryOf_55 (fun v3 hF => ?_)
          refine sx_icmp_lt (tgt := 63) hx hb hF dX8_liveEntryOf_56 (by decide) (fun hF => ?_) (fun hF => ?_)
          · refine lv_iconst (v := (-1)) hx hb dX8_liveEntryOf_63 (by decide) ?_
            exact sx_reti (Wd := (ax_W a cI L)) (σ := u) hx hb hr hF hP hS hlocks dX8_liveEntryOf_64
          · refine lv_iload_n hx hb dX8_liveEntryOf_59 rfl (lv_at hl 1 rfl) ?_
            refine lv_goto (tgt := 64) hx hb dX8_liveEntryOf_60 (by decide) ?_
            exact sx_reti (Wd := (ax_W a cI L)) (σ := u) hx hb hr hF hP hS hlocks dX8_liveEntryOf_64
    · refine lv_iconst (v := (-1)) hx hb dX8_liveEntryOf_13 (by decide) ?_
      exact sx_reti (Wd := (ax_W a cI L)) (σ := u) hx hb hr hF hP hS hlocks dX8_liveEntryOf_14
set_option maxHeartbeats 4000000 in
set_option maxRecDepth 100000 in
theorem kt_X10_where {N : Nat} {l : Launch} {D : va_G} {a : Nat → Nat} {cI : Nat → ClassId} {L : Nat → Nat} (hD : ∀ σ, va_D (ax_A a) (ax_W a cI L σ)) {o1 : Int32} {u σ0 : q_St} {r0 : Int32} (hF : fX10_where L N o1 u = some (r0, σ0)) : Met l yX10_where (Cond.code yX10_where cX10_where 2 (some .int) :: q_T) ({ frames := 1, cells := 0, slots := 0, locals := 23 } : Room) (q_P D vwCl (ax_T cI) (ax_W a cI L) [.ref (a 0), .int o1] u) (q_Qi D vwCl (ax_W a cI L) (ax_A a) r0 σ0) 0 0 (ax_A a) := by
  refine Met.ofW (cc := cX10_where) (maxL := 2) (ret := (some .int)) (by decide) rfl ?_
  intro p e s m args below meth c s₁ B hml hv
  obtain ⟨rfl, hP, hK⟩ := hv
  have hx := B.exec
  have hb := B.bytes
  have hr := B.returns
  have hts := q_ts (atoms_spec (ws := Cond.code yX10_where cX10_where 2 (some .int) :: q_T) B.pre)
  have hown : s.vm.findClass RX10 = some m.cls := findClass_of_methodNamed B.named
  have hlocks := B.notSynchronized
  have hS : va_S (ax_A a) s.heap s.heap [] := va_S.rf
  have hl := lv_entry ([.ref (a 0), .int o1]) (n := 2) (Nat.le_of_ble_eq_true rfl)
  rw [lg_entry_eq]
  generalize (lg_sl ([.ref (a 0), .int o1]) ++ List.replicate (2 - (lg_sl ([.ref (a 0), .int o1])).length) Slot.unset).toArray = ls at hl ⊢
  have hl : lv_has ls 2 [(0, .ref (a 0)), (1, .int o1)] := hl
  have hB28 : ∀ (u : q_St) (ls : Array Slot), lv_has ls 2 [] → fX10_where_b28 L N u = some (r0, σ0) → ∀ (H : Heap) (locs : List Loc), va_P D vwCl (ax_W a cI L u) H → va_S (ax_A a) s.heap H locs → W p l e (headSpec (Cond.code yX10_where cX10_where 2 (some .int) :: q_T) ({ frames := 1, cells := 0, slots := 0, locals := 23 } : Room)).room s m ([.ref (a 0), .int o1] : List Value).toArray below meth c H locs 0 0 (MQ below (q_Qi D vwCl (ax_W a cI L) (ax_A a) r0 σ0) ([.ref (a 0), .int o1] : List Value).toArray s 0 0 (ax_A a)) (F0 m 28 ls []) := by
    intro u ls hl hF _ _ hP hS
    unfold fX10_where_b28 at hF
    refine lv_bipush (v := (-15)) hx hb dX10_where_28 (by decide) ?_
    refine lv_goto (tgt := 41) hx hb dX10_where_30 (by decide) ?_
    exact sx_reti (Wd := (ax_W a cI L)) (σ := u) hx hb hr hF hP hS hlocks dX10_where_41
  unfold fX10_where at hF
  refine lv_aload_n hx hb dX10_where_0 rfl (lv_at hl 0 rfl) ?_
  refine gx_h_disk hx hb hts hown hK hP fl_X10_53 dX10_where_1 ?_
  refine gx_disk_on hx hb hts hown hK hP fl_X10_122 dX10_where_4 ?_
  refine sx_if_ne (tgt := 13) hx hb hF dX10_where_7 (by decide) (fun hF => ?_) (fun hF => ?_)
  · refine lv_iload_n hx hb dX10_where_13 rfl (lv_at hl 1 rfl) ?_
    refine sx_if_lt (tgt := 28) hx hb hF dX10_where_14 (by decide) (fun hF => ?_) (fun hF => ?_)
    · exact hB28 u ls (lv_sub hl [] rfl) hF _ _ hP hS
    · refine lv_iload_n hx hb dX10_where_17 rfl (lv_at hl 1 rfl) ?_
      refine lv_aload_n hx hb dX10_where_18 rfl (lv_at hl 0 rfl) ?_
      refine gx_h_disk hx hb hts hown hK hP fl_X10_53 dX10_where_19 ?_
      refine gx_disk_sectors hx hb hts hown hK hP fl_X10_259 dX10_where_22 ?_
      refine sx_icmp_lt (tgt := 33) hx hb hF dX10_where_25 (by decide) (fun hF => ?_) (fun hF => ?_)
      · refine lv_aload_n hx hb dX10_where_33 rfl (lv_at hl 0 rfl) ?_
        refine gx_h_volume hx hb hts hown hK hP fl_X10_59 dX10_where_34 ?_
        refine lv_iload_n hx hb dX10_where_37 rfl (lv_at hl 1 rfl) ?_
        obtain ⟨r1, u2, hc3, hF⟩ := q_bnd_some hF
        refine sx_ci (Wd := (ax_W a cI L)) (σ1 := u2) (q_runV (Wd := (ax_W a cI L)) (σ := u) (q0 := 2) (ci := 8) (T := TX8) (N := 15) (As := [.int o1]) (rest := []) hx hb hml hown hts hK hP (kt_X8_liveEntryOf hD hc3) cw_X10_289 rfl rfl ⟨Nat.le_of_ble_eq_true rfl, Nat.le_of_ble_eq_true rfl⟩ rfl rfl rfl hl.1 rfl (Nat.le_of_ble_eq_true rfl) dX10_where_38) hS (fun H locs hP hS => ?_)
        exact sx_reti (Wd := (ax_W a cI L)) (σ := u2) hx hb hr hF hP hS hlocks dX10_where_41
      · exact hB28 u ls (lv_sub hl [] rfl) hF _ _ hP hS
  · refine lv_bipush (v := (-99)) hx hb dX10_where_10 (by decide) ?_
    exact sx_reti (Wd := (ax_W a cI L)) (σ := u) hx hb hr hF hP hS hlocks dX10_where_12
set_option maxHeartbeats 4000000 in
set_option maxRecDepth 100000 in
theorem kt_X10_mark {N : Nat} {l : Launch} {D : va_G} {a : Nat → Nat} {cI : Nat → ClassId} {L : Nat → Nat} (hD : ∀ σ, va_D (ax_A a) (ax_W a cI L σ)) {o1 : Int32} {u σ0 : q_St} {r0 : Int32} (hF : fX10_mark L N o1 u = some (r0, σ0)) : Met l yX10_mark (Cond.code yX10_mark cX10_mark 2 (some .int) :: q_T) ({ frames := 0, cells := 0, slots := 0, locals := 0 } : Room) (q_P D vwCl (ax_T cI) (ax_W a cI L) [.ref (a 0), .int o1] u) (q_Qi D vwCl (ax_W a cI L) (ax_A a) r0 σ0) 0 0 (ax_A a) := by
  refine Met.ofW (cc := cX10_mark) (maxL := 2) (ret := (some .int)) (by decide) rfl ?_
  intro p e s m args below meth c s₁ B hml hv
  obtain ⟨rfl, hP, hK⟩ := hv
  have hx := B.exec
  have hb := B.bytes
  have hr := B.returns
  have hts := q_ts (atoms_spec (ws := Cond.code yX10_mark cX10_mark 2 (some .int) :: q_T) B.pre)
  have hown : s.vm.findClass RX10 = some m.cls := findClass_of_methodNamed B.named
  have hlocks := B.notSynchronized
  have hS : va_S (ax_A a) s.heap s.heap [] := va_S.rf
  have hl := lv_entry ([.ref (a 0), .int o1]) (n := 2) (Nat.le_of_ble_eq_true rfl)
  rw [lg_entry_eq]
  generalize (lg_sl ([.ref (a 0), .int o1]) ++ List.replicate (2 - (lg_sl ([.ref (a 0), .int o1])).length) Slot.unset).toArray = ls at hl ⊢
  have hl : lv_has ls 2 [(0, .ref (a 0)), (1, .int o1)] := hl
  have hB29 : ∀ (u : q_St) (ls : Array Slot), lv_has ls 2 [] → fX10_mark_b29 L N u = some (r0, σ0) → ∀ (H : Heap) (locs : List Loc), va_P D vwCl (ax_W a cI L u) H → va_S (ax_A a) s.heap H locs → W p l e (headSpec (Cond.code yX10_mark cX10_mark 2 (some .int) :: q_T) ({ frames := 0, cells := 0, slots := 0, locals := 0 } : Room)).room s m ([.ref (a 0), .int o1] : List Value).toArray below meth c H locs 0 0 (MQ below (q_Qi D vwCl (ax_W a cI L) (ax_A a) r0 σ0) ([.ref (a 0), .int o1] : List Value).toArray s 0 0 (ax_A a)) (F0 m 29 ls []) := by
    intro u ls hl hF _ _ hP hS
    unfold fX10_mark_b29 at hF
    refine lv_bipush (v := (-15)) hx hb dX10_mark_29 (by decide) ?_
    refine lv_goto (tgt := 43) hx hb dX10_mark_31 (by decide) ?_
    exact sx_reti (Wd := (ax_W a cI L)) (σ := u) hx hb hr hF hP hS hlocks dX10_mark_43
  unfold fX10_mark at hF
  refine lv_aload_n hx hb dX10_mark_0 rfl (lv_at hl 0 rfl) ?_
  refine gx_h_disk hx hb hts hown hK hP fl_X10_53 dX10_mark_1 ?_
  refine gx_disk_on hx hb hts hown hK hP fl_X10_122 dX10_mark_4 ?_
  refine sx_if_ne (tgt := 13) hx hb hF dX10_mark_7 (by decide) (fun hF => ?_) (fun hF => ?_)
  · refine lv_iload_n hx hb dX10_mark_13 rfl (lv_at hl 1 rfl) ?_
    refine sx_if_lt (tgt := 29) hx hb hF dX10_mark_14 (by decide) (fun hF => ?_) (fun hF => ?_)
    · exact hB29 u ls (lv_sub hl [] rfl) hF _ _ hP hS
    · refine lv_iload_n hx hb dX10_mark_17 rfl (lv_at hl 1 rfl) ?_
      refine lv_aload_n hx hb dX10_mark_18 rfl (lv_at hl 0 rfl) ?_
      refine gx_h_volume hx hb hts hown hK hP fl_X10_59 dX10_mark_19 ?_
      refine gx_vol_marks hx hb hts hown hK hP fl_X10_292 dX10_mark_22 ?_
      refine nx_vol_marks hx hb hK hP dX10_mark_25 ?_
      refine sx_icmp_lt (tgt := 34) hx hb hF dX10_mark_26 (by decide) (fun hF => ?_) (fun hF => ?_)
      · refine lv_aload_n hx hb dX10_mark_34 rfl (lv_at hl 0 rfl) ?_
        refine gx_h_volume hx hb hts hown hK hP fl_X10_59 dX10_mark_35 ?_
        refine gx_vol_marks hx hb hts hown hK hP fl_X10_292 dX10_mark_38 ?_
        refine lv_iload_n hx hb dX10_mark_41 rfl (lv_at hl 1 rfl) ?_
        refine lx_vol_marks hx hb hK hP hF dX10_mark_42 (fun v1 hF => ?_)
        exact sx_reti (Wd := (ax_W a cI L)) (σ := u) hx hb hr hF hP hS hlocks dX10_mark_43
      · exact hB29 u ls (lv_sub hl [] rfl) hF _ _ hP hS
  · refine lv_bipush (v := (-99)) hx hb dX10_mark_10 (by decide) ?_
    exact sx_reti (Wd := (ax_W a cI L)) (σ := u) hx hb hr hF hP hS hlocks dX10_mark_12
set_option maxHeartbeats 4000000 in
set_option maxRecDepth 100000 in
theorem kt_X2_lostNow {N : Nat} {l : Launch} {D : va_G} {a : Nat → Nat} {cI : Nat → ClassId} {L : Nat → Nat} (hD : ∀ σ, va_D (ax_A a) (ax_W a cI L σ))  {u σ0 : q_St} {r0 : Int32} (hF : fX2_lostNow L N u = some (r0, σ0)) : Met l yX2_lostNow (Cond.code yX2_lostNow cX2_lostNow 3 (some .int) :: q_T) ({ frames := 0, cells := 0, slots := 0, locals := 0 } : Room) (q_P D vwCl (ax_T cI) (ax_W a cI L) [.ref (a 1)] u) (q_Qi D vwCl (ax_W a cI L) (ax_A a) r0 σ0) 0 0 (ax_A a) := by
  refine Met.ofW (cc := cX2_lostNow) (maxL := 3) (ret := (some .int)) (by decide) rfl ?_
  intro p e s m args below meth c s₁ B hml hv
  obtain ⟨rfl, hP, hK⟩ := hv
  have hx := B.exec
  have hb := B.bytes
  have hr := B.returns
  have hts := q_ts (atoms_spec (ws := Cond.code yX2_lostNow cX2_lostNow 3 (some .int) :: q_T) B.pre)
  have hown : s.vm.findClass RX2 = some m.cls := findClass_of_methodNamed B.named
  have hlocks := B.notSynchronized
  have hS : va_S (ax_A a) s.heap s.heap [] := va_S.rf
  have hl := lv_entry ([.ref (a 1)]) (n := 3) (Nat.le_of_ble_eq_true rfl)
  rw [lg_entry_eq]
  generalize (lg_sl ([.ref (a 1)]) ++ List.replicate (3 - (lg_sl ([.ref (a 1)])).length) Slot.unset).toArray = ls at hl ⊢
  have hl : lv_has ls 3 [(0, .ref (a 1))] := hl
  have hB25 : ∀ (ih4 : Int32 → Int32 → q_St → Option (Int32 × q_St)) (hi4 : ∀ (x1 : Int32) (x2 : Int32) (u : q_St) (ls : Array Slot), lv_has ls 3 [(0, .ref (a 1)), (1, .int x1), (2, .int x2)] → ih4 x1 x2 u = some (r0, σ0) → ∀ (H : Heap) (locs : List Loc), va_P D vwCl (ax_W a cI L u) H → va_S (ax_A a) s.heap H locs → W p l e (headSpec (Cond.code yX2_lostNow cX2_lostNow 3 (some .int) :: q_T) ({ frames := 0, cells := 0, slots := 0, locals := 0 } : Room)).room s m ([.ref (a 1)] : List Value).toArray below meth c H locs 0 0 (MQ below (q_Qi D vwCl (ax_W a cI L) (ax_A a) r0 σ0) ([.ref (a 1)] : List Value).toArray s 0 0 (ax_A a)) (F0 m 4 ls [])), ∀ (x1 : Int32) (x2 : Int32) (u : q_St) (ls : Array Slot), lv_has ls 3 [(0, .ref (a 1)), (1, .int x1), (2, .int x2)] → fX2_lostNow_b25 L N ih4 x1 x2 u = some (r0, σ0) → ∀ (H : Heap) (locs : List Loc), va_P D vwCl (ax_W a cI L u) H → va_S (ax_A a) s.heap H locs → W p l e (headSpec (Cond.code yX2_lostNow cX2_lostNow 3 (some .int) :: q_T) ({ frames := 0, cells := 0, slots := 0, locals := 0 } : Room)).room s m ([.ref (a 1)] : List Value).toArray below meth c H locs 0 0 (MQ below (q_Qi D vwCl (ax_W a cI L) (ax_A a) r0 σ0) ([.ref (a 1)] : List Value).toArray s 0 0 (ax_A a)) (F0 m 25 ls []) := by
    intro ih4 hi4 x1 x2 u ls hl hF _ _ hP hS
    unfold fX2_lostNow_b25 at hF
    refine sx_iinc (d := 1) (k := 2) (lv2 := [(0, .ref (a 1)), (1, .int x1)]) hx hb hF dX2_lostNow_25 hl rfl (by decide) (by decide) rfl (fun v2 hF ls hl => ?_)
    refine lv_goto (tgt := 4) hx hb dX2_lostNow_28 (by decide) ?_
    exact hi4 x1 v2 u ls (lv_sub hl [1, 2, 0] rfl) hF _ _ hP hS
  have hB4 : ∀ (n : Nat) (x1 : Int32) (x2 : Int32) (u : q_St) (ls : Array Slot), lv_has ls 3 [(0, .ref (a 1)), (1, .int x1), (2, .int x2)] → q_lp (fX2_lostNow_b4 L N) (fun _ _ _ => none) n x1 x2 u = some (r0, σ0) → ∀ (H : Heap) (locs : List Loc), va_P D vwCl (ax_W a cI L u) H → va_S (ax_A a) s.heap H locs → W p l e (headSpec (Cond.code yX2_lostNow cX2_lostNow 3 (some .int) :: q_T) ({ frames := 0, cells := 0, slots := 0, locals := 0 } : Room)).room s m ([.ref (a 1)] : List Value).toArray below meth c H locs 0 0 (MQ below (q_Qi D vwCl (ax_W a cI L) (ax_A a) r0 σ0) ([.ref (a 1)] : List Value).toArray s 0 0 (ax_A a)) (F0 m 4 ls []) := by
    intro n
    induction n with
    | zero => intro x1 x2 u ls hl hF; exact absurd (show (none : Option (Int32 × q_St)) = some _ from hF) (fun h => nomatch h)
    | succ n hi4 =>
      intro x1 x2 u ls hl hF _ _ hP hS
      obtain ⟨ih4, hih⟩ : ∃ q, q = q_lp (fX2_lostNow_b4 L N) (fun _ _ _ => none) n := ⟨_, rfl⟩
      rw [← hih] at hi4
      have hF : fX2_lostNow_b4 L N (q_lp (fX2_lostNow_b4 L N) (fun _ _ _ => none) n) x1 x2 u = some (r0, σ0) := hF
      rw [← hih] at hF
      clear hih
      unfold fX2_lostNow_b4 at hF
      refine lv_iload_n hx hb dX2_lostNow_4 rfl (lv_at hl 2 rfl) ?_
      refine lv_aload_n hx hb dX2_lostNow_5 rfl (lv_at hl 0 rfl) ?_
      refine gx_disk_lost hx hb hts hown hK hP fl_X2_43 dX2_lostNow_6 ?_
      refine nx_disk_lost hx hb hK hP dX2_lostNow_9 ?_
      refine sx_icmp_ge (tgt := 31) hx hb hF dX2_lostNow_10 (by decide) (fun hF => ?_) (fun hF => ?_)
      · refine lv_iload_n hx hb dX2_lostNow_31 rfl (lv_at hl 1 rfl) ?_
        exact sx_reti (Wd := (ax_W a cI L)) (σ := u) hx hb hr hF hP hS hlocks dX2_lostNow_32
      · refine lv_aload_n hx hb dX2_lostNow_13 rfl (lv_at hl 0 rfl) ?_
        refine gx_disk_lost hx hb hts hown hK hP fl_X2_43 dX2_lostNow_14 ?_
        refine lv_iload_n hx hb dX2_lostNow_17 rfl (lv_at hl 2 rfl) ?_
        refine lx_disk_lost hx hb hK hP hF dX2_lostNow_18 (fun v1 hF => ?_)
        refine sx_if_eq (tgt := 25) hx hb hF dX2_lostNow_19 (by decide) (fun hF => ?_) (fun hF => ?_)
        · exact hB25 ih4 hi4 x1 x2 u ls (lv_sub hl [0, 1, 2] rfl) hF _ _ hP hS
        · refine sx_iinc (d := 1) (k := 1) (lv2 := [(0, .ref (a 1)), (2, .int x2)]) hx hb hF dX2_lostNow_22 hl rfl (by decide) (by decide) rfl (fun v3 hF ls hl => ?_)
          exact hB25 ih4 hi4 v3 x2 u ls (lv_sub hl [1, 0, 2] rfl) hF _ _ hP hS
  unfold fX2_lostNow at hF
  refine lv_iconst (v := 0) hx hb dX2_lostNow_0 (by decide) ?_
  refine lv_istore_n (lv' := [(1, .int 0), (0, .ref (a 1))]) hx hb dX2_lostNow_1 rfl hl (by decide) rfl (fun ls hl => ?_)
  refine lv_iconst (v := 0) hx hb dX2_lostNow_2 (by decide) ?_
  refine lv_istore_n (lv' := [(2, .int 0), (1, .int 0), (0, .ref (a 1))]) hx hb dX2_lostNow_3 rfl hl (by decide) rfl (fun ls hl => ?_)
  exact hB4 N 0 0 u ls (lv_sub hl [2, 1, 0] rfl) hF _ _ hP hS
set_option maxHeartbeats 4000000 in
set_option maxRecDepth 100000 in
theorem kt_X8_liveEntries {N : Nat} {l : Launch} {D : va_G} {a : Nat → Nat} {cI : Nat → ClassId} {L : Nat → Nat} (hD : ∀ σ, va_D (ax_A a) (ax_W a cI L σ))  {u σ0 : q_St} {r0 : Int32} (hF : fX8_liveEntries L N u = some (r0, σ0)) : Met l yX8_liveEntries (Cond.code yX8_liveEntries cX8_liveEntries 3 (some .int) :: q_T) ({ frames := 1, cells := 0, slots := 0, locals := 24 } : Room) (q_P D vwCl (ax_T cI) (ax_W a cI L) [.ref (a 2)] u) (q_Qi D vwCl (ax_W a cI L) (ax_A a) r0 σ0) 0 0 (ax_A a) := by
  refine Met.ofW (cc := cX8_liveEntries) (maxL := 3) (ret := (some .int)) (by decide) rfl ?_
  intro p e s m args below meth c s₁ B hml hv
  obtain ⟨rfl, hP, hK⟩ := hv
  have hx := B.exec
  have hb := B.bytes
  have hr := B.returns
  have hts := q_ts (atoms_spec (ws := Cond.code yX8_liveEntries cX8_liveEntries 3 (some .int) :: q_T) B.pre)
  have hown : s.vm.findClass RX8 = some m.cls := findClass_of_methodNamed B.named
  have hlocks := B.notSynchronized
  have hS : va_S (ax_A a) s.heap s.heap [] := va_S.rf
  have hl := lv_entry ([.ref (a 2)]) (n := 3) (Nat.le_of_ble_eq_true rfl)
  rw [lg_entry_eq]
  generalize (lg_sl ([.ref (a 2)]) ++ List.replicate (3 - (lg_sl ([.ref (a 2)])).length) Slot.unset).toArray = ls at hl ⊢
  have hl : lv_has ls 3 [(0, .ref (a 2))] := hl
  have hB26 : ∀ (ih7 : Int32 → Int32 → q_St → Option (Int32 × q_St)) (hi7 : ∀ (x1 : Int32) (x2 : Int32) (u : q_St) (ls : Array Slot), lv_has ls 3 [(0, .ref (a 2)), (1, .int x1), (2, .int x2)] → ih7 x1 x2 u = some (r0, σ0) → ∀ (H : Heap) (locs : List Loc), va_P D vwCl (ax_W a cI L u) H → va_S (ax_A a) s.heap H locs → W p l e (headSpec (Cond.code yX8_liveEntries cX8_liveEntries 3 (some .int) :: q_T) ({ frames := 1, cells := 0, slots := 0, locals := 24 } : Room)).room s m ([.ref (a 2)] : List Value).toArray below meth c H locs 0 0 (MQ below (q_Qi D vwCl (ax_W a cI L) (ax_A a) r0 σ0) ([.ref (a 2)] : List Value).toArray s 0 0 (ax_A a)) (F0 m 7 ls [])), ∀ (x1 : Int32) (x2 : Int32) (u : q_St) (ls : Array Slot), lv_has ls 3 [(0, .ref (a 2)), (1, .int x1), (2, .int x2)] → fX8_liveEntries_b26 L N ih7 x1 x2 u = some (r0, σ0) → ∀ (H : Heap) (locs : List Loc), va_P D vwCl (ax_W a cI L u) H → va_S (ax_A a) s.heap H locs → W p l e (headSpec (Cond.code yX8_liveEntries cX8_liveEntries 3 (some .int) :: q_T) ({ frames := 1, cells := 0, slots := 0, locals := 24 } : Room)).room s m ([.ref (a 2)] : List Value).toArray below meth c H locs 0 0 (MQ below (q_Qi D vwCl (ax_W a cI L) (ax_A a) r0 σ0) ([.ref (a 2)] : List Value).toArray s 0 0 (ax_A a)) (F0 m 26 ls []) := by
    intro ih7 hi7 x1 x2 u ls hl hF _ _ hP hS
    unfold fX8_liveEntries_b26 at hF
    refine sx_iinc (d := 1) (k := 2) (lv2 := [(0, .ref (a 2)), (1, .int x1)]) hx hb hF dX8_liveEntries_26 hl rfl (by decide) (by decide) rfl (fun v5 hF ls hl => ?_)
    refine lv_goto (tgt := 7) hx hb dX8_liveEntries_29 (by decide) ?_
    exact hi7 x1 v5 u ls (lv_sub hl [1, 2, 0] rfl) hF _ _ hP hS
  have hB7 : ∀ (n : Nat) (x1 : Int32) (x2 : Int32) (u : q_St) (ls : Array Slot), lv_has ls 3 [(0, .ref (a 2)), (1, .int x1), (2, .int x2)] → q_lp (fX8_liveEntries_b7 L N) (fun _ _ _ => none) n x1 x2 u = some (r0, σ0) → ∀ (H : Heap) (locs : List Loc), va_P D vwCl (ax_W a cI L u) H → va_S (ax_A a) s.heap H locs → W p l e (headSpec (Cond.code yX8_liveEntries cX8_liveEntries 3 (some .int) :: q_T) ({ frames := 1, cells := 0, slots := 0, locals := 24 } : Room)).room s m ([.ref (a 2)] : List Value).toArray below meth c H locs 0 0 (MQ below (q_Qi D vwCl (ax_W a cI L) (ax_A a) r0 σ0) ([.ref (a 2)] : List Value).toArray s 0 0 (ax_A a)) (F0 m 7 ls []) := by
    intro n
    induction n with
    | zero => intro x1 x2 u ls hl hF; exact absurd (show (none : Option (Int32 × q_St)) = some _ from hF) (fun h => nomatch h)
    | succ n hi7 =>
      intro x1 x2 u ls hl hF _ _ hP hS
      obtain ⟨ih7, hih⟩ : ∃ q, q = q_lp (fX8_liveEntries_b7 L N) (fun _ _ _ => none) n := ⟨_, rfl⟩
      rw [← hih] at hi7
      have hF : fX8_liveEntries_b7 L N (q_lp (fX8_liveEntries_b7 L N) (fun _ _ _ => none) n) x1 x2 u = some (r0, σ0) := hF
      rw [← hih] at hF
      clear hih
      unfold fX8_liveEntries_b7 at hF
      refine lv_iload_n hx hb dX8_liveEntries_7 rfl (lv_at hl 2 rfl) ?_
      refine lv_aload_n hx hb dX8_liveEntries_8 rfl (lv_at hl 0 rfl) ?_
      refine gx_vol_head hx hb hts hown hK hP fl_X8_65 dX8_liveEntries_9 ?_
      refine sx_icmp_ge (tgt := 32) hx hb hF dX8_liveEntries_12 (by decide) (fun hF => ?_) (fun hF => ?_)
      · refine lv_iload_n hx hb dX8_liveEntries_32 rfl (lv_at hl 1 rfl) ?_
        exact sx_reti (Wd := (ax_W a cI L)) (σ := u) hx hb hr hF hP hS hlocks dX8_liveEntries_33
      · refine lv_aload_n hx hb dX8_liveEntries_15 rfl (lv_at hl 0 rfl) ?_
        refine lv_iload_n hx hb dX8_liveEntries_16 rfl (lv_at hl 2 rfl) ?_
        obtain ⟨r2, u3, hc4, hF⟩ := q_bnd_some hF
        refine sx_ci (Wd := (ax_W a cI L)) (σ1 := u3) (q_runV (Wd := (ax_W a cI L)) (σ := u) (q0 := 2) (ci := 8) (T := TX8) (N := 15) (As := [.int x2]) (rest := []) hx hb hml hown hts hK hP (kt_X8_isLive hD hc4) cw_X8_74 rfl rfl ⟨Nat.le_of_ble_eq_true rfl, Nat.le_of_ble_eq_true rfl⟩ rfl rfl rfl hl.1 rfl (Nat.le_of_ble_eq_true rfl) dX8_liveEntries_17) hS (fun H locs hP hS => ?_)
        refine sx_if_eq (tgt := 26) hx hb hF dX8_liveEntries_20 (by decide) (fun hF => ?_) (fun hF => ?_)
        · exact hB26 ih7 hi7 x1 x2 u3 ls (lv_sub hl [0, 1, 2] rfl) hF _ _ hP hS
        · refine sx_iinc (d := 1) (k := 1) (lv2 := [(0, .ref (a 2)), (2, .int x2)]) hx hb hF dX8_liveEntries_23 hl rfl (by decide) (by decide) rfl (fun v6 hF ls hl => ?_)
          exact hB26 ih7 hi7 v6 x2 u3 ls (lv_sub hl [1, 0, 2] rfl) hF _ _ hP hS
  unfold fX8_liveEntries at hF
  refine lv_iconst (v := 0) hx hb dX8_liveEntries_0 (by decide) ?_
  refine lv_istore_n (lv' := [(1, .int 0), (0, .ref (a 2))]) hx hb dX8_liveEntries_1 rfl hl (by decide) rfl (fun ls hl => ?_)
  refine lv_aload_n hx hb dX8_liveEntries_2 rfl (lv_at hl 1 rfl) ?_
  refine gx_vol_tail hx hb hts hown hK hP fl_X8_68 dX8_liveEntries_3 ?_
  refine sx_istore_n (lv2 := [(1, .int 0), (0, .ref (a 2))]) hx hb hF dX8_liveEntries_6 rfl hl (by decide) rfl (fun v1 hF ls hl => ?_)
  exact hB7 N 0 v1 u ls (lv_sub hl [2, 1, 0] rfl) hF _ _ hP hS
set_option maxHeartbeats 4000000 in
set_option maxRecDepth 100000 in
theorem kt_X4_freeCount {N : Nat} {l : Launch} {D : va_G} {a : Nat → Nat} {cI : Nat → ClassId} {L : Nat → Nat} (hD : ∀ σ, va_D (ax_A a) (ax_W a cI L σ))  {u σ0 : q_St} {r0 : Int32} (hF : fX4_freeCount L N u = some (r0, σ0)) : Met l yX4_freeCount (Cond.code yX4_freeCount cX4_freeCount 3 (some .int) :: q_T) ({ frames := 4, cells := 0, slots := 0, locals := 89 } : Room) (q_P D vwCl (ax_T cI) (ax_W a cI L) [.ref (a 5)] u) (q_Qi D vwCl (ax_W a cI L) (ax_A a) r0 σ0) 0 0 (ax_A a) := by
  refine Met.ofW (cc := cX4_freeCount) (maxL := 3) (ret := (some .int)) (by decide) rfl ?_
  intro p e s m args below meth c s₁ B hml hv
  obtain ⟨rfl, hP, hK⟩ := hv
  have hx := B.exec
  have hb := B.bytes
  have hr := B.returns
  have hts := q_ts (atoms_spec (ws := Cond.code yX4_freeCount cX4_freeCount 3 (some .int) :: q_T) B.pre)
  have hown : s.vm.findClass RX4 = some m.cls := findClass_of_methodNamed B.named
  have hlocks := B.notSynchronized
  have hS : va_S (ax_A a) s.heap s.heap [] := va_S.rf
  have hl := lv_entry ([.ref (a 5)]) (n := 3) (Nat.le_of_ble_eq_true rfl)
  rw [lg_entry_eq]
  generalize (lg_sl ([.ref (a 5)]) ++ List.replicate (3 - (lg_sl ([.ref (a 5)])).length) Slot.unset).toArray = ls at hl ⊢
  have hl : lv_has ls 3 [(0, .ref (a 5))] := hl
  have hB21 : ∀ (ih4 : Int32 → Int32 → q_St → Option (Int32 × q_St)) (hi4 : ∀ (x1 : Int32) (x2 : Int32) (u : q_St) (ls : Array Slot), lv_has ls 3 [(0, .ref (a 5)), (1, .int x1), (2, .int x2)] → ih4 x1 x2 u = some (r0, σ0) → ∀ (H : Heap) (locs : List Loc), va_P D vwCl (ax_W a cI L u) H → va_S (ax_A a) s.heap H locs → W p l e (headSpec (Cond.code yX4_freeCount cX4_freeCount 3 (some .int) :: q_T) ({ frames := 4, cells := 0, slots := 0, locals := 89 } : Room)).room s m ([.ref (a 5)] : List Value).toArray below meth c H locs 0 0 (MQ below (q_Qi D vwCl (ax_W a cI L) (ax_A a) r0 σ0) ([.ref (a 5)] : List Value).toArray s 0 0 (ax_A a)) (F0 m 4 ls [])), ∀ (x1 : Int32) (x2 : Int32) (u : q_St) (ls : Array Slot), lv_has ls 3 [(0, .ref (a 5)), (1, .int x1), (2, .int x2)] → fX4_freeCount_b21 L N ih4 x1 x2 u = some (r0, σ0) → ∀ (H : Heap) (locs : List Loc), va_P D vwCl (ax_W a cI L u) H → va_S (ax_A a) s.heap H locs → W p l e (headSpec (Cond.code yX4_freeCount cX4_freeCount 3 (some .int) :: q_T) ({ frames := 4, cells := 0, slots := 0, locals := 89 } : Room)).room s m ([.ref (a 5)] : List Value).toArray below meth c H locs 0 0 (MQ below (q_Qi D vwCl (ax_W a cI L) (ax_A a) r0 σ0) ([.ref (a 5)] : List Value).toArray s 0 0 (ax_A a)) (F0 m 21 ls []) := by
    intro ih4 hi4 x1 x2 u ls hl hF _ _ hP hS
    unfold fX4_freeCount_b21 at hF
    refine sx_iinc (d := 1) (k := 2) (lv2 := [(0, .ref (a 5)), (1, .int x1)]) hx hb hF dX4_freeCount_21 hl rfl (by decide) (by decide) rfl (fun v4 hF ls hl => ?_)
    refine lv_goto (tgt := 4) hx hb dX4_freeCount_24 (by decide) ?_
    exact hi4 x1 v4 u ls (lv_sub hl [1, 2, 0] rfl) hF _ _ hP hS
  have hB4 : ∀ (n : Nat) (x1 : Int32) (x2 : Int32) (u : q_St) (ls : Array Slot), lv_has ls 3 [(0, .ref (a 5)), (1, .int x1), (2, .int x2)] → q_lp (fX4_freeCount_b4 L N) (fun _ _ _ => none) n x1 x2 u = some (r0, σ0) → ∀ (H : Heap) (locs : List Loc), va_P D vwCl (ax_W a cI L u) H → va_S (ax_A a) s.heap H locs → W p l e (headSpec (Cond.code yX4_freeCount cX4_freeCount 3 (some .int) :: q_T) ({ frames := 4, cells := 0, slots := 0, locals := 89 } : Room)).room s m ([.ref (a 5)] : List Value).toArray below meth c H locs 0 0 (MQ below (q_Qi D vwCl (ax_W a cI L) (ax_A a) r0 σ0) ([.ref (a 5)] : List Value).toArray s 0 0 (ax_A a)) (F0 m 4 ls []) := by
    intro n
    induction n with
    | zero => intro x1 x2 u ls hl hF; exact absurd (show (none : Option (Int32 × q_St)) = some _ from hF) (fun h => nomatch h)
    | succ n hi4 =>
      intro x1 x2 u ls hl hF _ _ hP hS
      obtain ⟨ih4, hih⟩ : ∃ q, q = q_lp (fX4_freeCount_b4 L N) (fun _ _ _ => none) n := ⟨_, rfl⟩
      rw [← hih] at hi4
      have hF : fX4_freeCount_b4 L N (q_lp (fX4_freeCount_b4 L N) (fun _ _ _ => none) n) x1 x2 u = some (r0, σ0) := hF
      rw [← hih] at hF
      clear hih
      unfold fX4_freeCount_b4 at hF
      refine lv_iload_n hx hb dX4_freeCount_4 rfl (lv_at hl 2 rfl) ?_
      refine lv_bipush (v := 64) hx hb dX4_freeCount_5 (by decide) ?_
      refine sx_icmp_ge (tgt := 27) hx hb hF dX4_freeCount_7 (by decide) (fun hF => ?_) (fun hF => ?_)
      · refine lv_iload_n hx hb dX4_freeCount_27 rfl (lv_at hl 1 rfl) ?_
        exact sx_reti (Wd := (ax_W a cI L)) (σ := u) hx hb hr hF hP hS hlocks dX4_freeCount_28
      · refine lv_aload_n hx hb dX4_freeCount_10 rfl (lv_at hl 0 rfl) ?_
        refine lv_iload_n hx hb dX4_freeCount_11 rfl (lv_at hl 2 rfl) ?_
        obtain ⟨r1, u2, hc3, hF⟩ := q_bnd_some hF
        refine sx_ci (Wd := (ax_W a cI L)) (σ1 := u2) (q_runV (Wd := (ax_W a cI L)) (σ := u) (q0 := 5) (ci := 4) (T := TX4) (N := 2) (As := [.int x2]) (rest := []) hx hb hml hown hts hK hP (kt_X4_kindOf hD hc3) cw_X4_29 rfl rfl ⟨Nat.le_of_ble_eq_true rfl, Nat.le_of_ble_eq_true rfl⟩ rfl rfl rfl hl.1 rfl (Nat.le_of_ble_eq_true rfl) dX4_freeCount_12) hS (fun H locs hP hS => ?_)
        refine sx_if_ne (tgt := 21) hx hb hF dX4_freeCount_15 (by decide) (fun hF => ?_) (fun hF => ?_)
        · exact hB21 ih4 hi4 x1 x2 u2 ls (lv_sub hl [0, 1, 2] rfl) hF _ _ hP hS
        · refine sx_iinc (d := 1) (k := 1) (lv2 := [(0, .ref (a 5)), (2, .int x2)]) hx hb hF dX4_freeCount_18 hl rfl (by decide) (by decide) rfl (fun v5 hF ls hl => ?_)
          exact hB21 ih4 hi4 v5 x2 u2 ls (lv_sub hl [1, 0, 2] rfl) hF _ _ hP hS
  unfold fX4_freeCount at hF
  refine lv_iconst (v := 0) hx hb dX4_freeCount_0 (by decide) ?_
  refine lv_istore_n (lv' := [(1, .int 0), (0, .ref (a 5))]) hx hb dX4_freeCount_1 rfl hl (by decide) rfl (fun ls hl => ?_)
  refine lv_iconst (v := 0) hx hb dX4_freeCount_2 (by decide) ?_
  refine lv_istore_n (lv' := [(2, .int 0), (1, .int 0), (0, .ref (a 5))]) hx hb dX4_freeCount_3 rfl hl (by decide) rfl (fun ls hl => ?_)
  exact hB4 N 0 0 u ls (lv_sub hl [2, 1, 0] rfl) hF _ _ hP hS
set_option maxHeartbeats 4000000 in
set_option maxRecDepth 100000 in
theorem kt_X10_countInMemory {N : Nat} {l : Launch} {D : va_G} {a : Nat → Nat} {cI : Nat → ClassId} {L : Nat → Nat} (hD : ∀ σ, va_D (ax_A a) (ax_W a cI L σ)) {o1 : Int32} {u σ0 : q_St} {r0 : Int32} (hF : fX10_countInMemory L N o1 u = some (r0, σ0)) : Met l yX10_countInMemory (Cond.code yX10_countInMemory cX10_countInMemory 2 (some .int) :: q_T) ({ frames := 5, cells := 0, slots := 0, locals := 111 } : Room) (q_P D vwCl (ax_T cI) (ax_W a cI L) [.ref (a 0), .int o1] u) (q_Qi D vwCl (ax_W a cI L) (ax_A a) r0 σ0) 0 0 (ax_A a) := by
  refine Met.ofW (cc := cX10_countInMemory) (maxL := 2) (ret := (some .int)) (by decide) rfl ?_
  intro p e s m args below meth c s₁ B hml hv
  obtain ⟨rfl, hP, hK⟩ := hv
  have hx := B.exec
  have hb := B.bytes
  have hr := B.returns
  have hts := q_ts (atoms_spec (ws := Cond.code yX10_countInMemory cX10_countInMemory 2 (some .int) :: q_T) B.pre)
  have hown : s.vm.findClass RX10 = some m.cls := findClass_of_methodNamed B.named
  have hlocks := B.notSynchronized
  have hS : va_S (ax_A a) s.heap s.heap [] := va_S.rf
  have hl := lv_entry ([.ref (a 0), .int o1]) (n := 2) (Nat.le_of_ble_eq_true rfl)
  rw [lg_entry_eq]
  generalize (lg_sl ([.ref (a 0), .int o1]) ++ List.replicate (2 - (lg_sl ([.ref (a 0), .int o1])).length) Slot.unset).toArray = ls at hl ⊢
  have hl : lv_has ls 2 [(0, .ref (a 0)), (1, .int o1)] := hl
  unfold fX10_countInMemory at hF
  refine lv_iload_n hx hb dX10_countInMemory_0 rfl (lv_at hl 1 rfl) ?_
  by_cases hq5 : o1 = 5
  · have hF := (if_pos hq5).symm.trans hF
    refine sx_tabIn hx hb 5 hq5 (off := 59) (tgt := 60) dX10_countInMemory_1 (by decide) (by decide) (by decide) (by decide) ?_
    refine lv_aload_n hx hb dX10_countInMemory_60 rfl (lv_at hl 0 rfl) ?_
    refine gx_h_volume hx hb hts hown hK hP fl_X10_59 dX10_countInMemory_61 ?_
    obtain ⟨r1, u2, hc3, hF⟩ := q_bnd_some hF
    refine sx_ci (Wd := (ax_W a cI L)) (σ1 := u2) (q_runV (Wd := (ax_W a cI L)) (σ := u) (q0 := 2) (ci := 8) (T := TX8) (N := 15) (As := []) (rest := []) hx hb hml hown hts hK hP (kt_X8_freePlaces hD hc3) cw_X10_323 rfl rfl ⟨Nat.le_of_ble_eq_true rfl, Nat.le_of_ble_eq_true rfl⟩ rfl rfl rfl hl.1 rfl (Nat.le_of_ble_eq_true rfl) dX10_countInMemory_64) hS (fun H locs hP hS => ?_)
    exact sx_reti (Wd := (ax_W a cI L)) (σ := u2) hx hb hr hF hP hS hlocks dX10_countInMemory_67
  have hF := (if_neg hq5).symm.trans hF
  by_cases hq6 : o1 = 6
  · have hF := (if_pos hq6).symm.trans hF
    refine sx_tabIn hx hb 6 hq6 (off := 67) (tgt := 68) dX10_countInMemory_1 (by decide) (by decide) (by decide) (by decide) ?_
    refine lv_aload_n hx hb dX10_countInMemory_68 rfl (lv_at hl 0 rfl) ?_
    refine gx_h_volume hx hb hts hown hK hP fl_X10_59 dX10_countInMemory_69 ?_
    obtain ⟨r4, u5, hc6, hF⟩ := q_bnd_some hF
    refine sx_ci (Wd := (ax_W a cI L)) (σ1 := u5) (q_runV (Wd := (ax_W a cI L)) (σ := u) (q0 := 2) (ci := 8) (T := TX8) (N := 15) (As := []) (rest := []) hx hb hml hown hts hK hP (kt_X8_liveEntries hD hc6) cw_X10_326 rfl rfl ⟨Nat.le_of_ble_eq_true rfl, Nat.le_of_ble_eq_true rfl⟩ rfl rfl rfl hl.1 rfl (Nat.le_of_ble_eq_true rfl) dX10_countInMemory_72) hS (fun H locs hP hS => ?_)
    exact sx_reti (Wd := (ax_W a cI L)) (σ := u5) hx hb hr hF hP hS hlocks dX10_countInMemory_75
  have hF := (if_neg hq6).symm.trans hF
  by_cases hq7 : o1 = 7
  · have hF := (if_pos hq7).symm.trans hF
    refine sx_tabIn hx hb 7 hq7 (off := 75) (tgt := 76) dX10_countInMemory_1 (by decide) (by decide) (by decide) (by decide) ?_
    refine lv_aload_n hx hb dX10_countInMemory_76 rfl (lv_at hl 0 rfl) ?_
    refine gx_h_store hx hb hts hown hK hP fl_X10_63 dX10_countInMemory_77 ?_
    refine gx_store_dirtyCount hx hb hts hown hK hP fl_X10_268 dX10_countInMemory_80 ?_
    exact sx_reti (Wd := (ax_W a cI L)) (σ := u) hx hb hr hF hP hS hlocks dX10_countInMemory_83
  have hF := (if_neg hq7).symm.trans hF
  by_cases hq8 : o1 = 8
  · have hF := (if_pos hq8).symm.trans hF
    refine sx_tabIn hx hb 8 hq8 (off := 83) (tgt := 84) dX10_countInMemory_1 (by decide) (by decide) (by decide) (by decide) ?_
    refine lv_aload_n hx hb dX10_countInMemory_84 rfl (lv_at hl 0 rfl) ?_
    refine gx_h_space hx hb hts hown hK hP fl_X10_67 dX10_countInMemory_85 ?_
    obtain ⟨r7, u8, hc9, hF⟩ := q_bnd_some hF
    refine sx_ci (Wd := (ax_W a cI L)) (σ1 := u8) (q_runV (Wd := (ax_W a cI L)) (σ := u) (q0 := 4) (ci := 5) (T := TX5) (N := 6) (As := []) (rest := []) hx hb hml hown hts hK hP (kt_X5_freeCount hD hc9) cw_X10_329 rfl rfl ⟨Nat.le_of_ble_eq_true rfl, Nat.le_of_ble_eq_true rfl⟩ rfl rfl rfl hl.1 rfl (Nat.le_of_ble_eq_true rfl) dX10_countInMemory_88) hS (fun H locs hP hS => ?_)
    exact sx_reti (Wd := (ax_W a cI L)) (σ := u8) hx hb hr hF hP hS hlocks dX10_countInMemory_91
  have hF := (if_neg hq8).symm.trans hF
  by_cases hq9 : o1 = 9
  · have hF := (if_pos hq9).symm.trans hF
    refine sx_tabIn hx hb 9 hq9 (off := 91) (tgt := 92) dX10_countInMemory_1 (by decide) (by decide) (by decide) (by decide) ?_
    refine lv_aload_n hx hb dX10_countInMemory_92 rfl (lv_at hl 0 rfl) ?_
    refine gx_h_nodes hx hb hts hown hK hP fl_X10_71 dX10_countInMemory_93 ?_
    obtain ⟨r10, u11, hc12, hF⟩ := q_bnd_some hF
    refine sx_ci (Wd := (ax_W a cI L)) (σ1 := u11) (q_runV (Wd := (ax_W a cI L)) (σ := u) (q0 := 5) (ci := 4) (T := TX4) (N := 2) (As := []) (rest := []) hx hb hml hown hts hK hP (kt_X4_freeCount hD hc12) cw_X10_332 rfl rfl ⟨Nat.le_of_ble_eq_true rfl, Nat.le_of_ble_eq_true rfl⟩ rfl rfl rfl hl.1 rfl (Nat.le_of_ble_eq_true rfl) dX10_countInMemory_96) hS (fun H locs hP hS => ?_)
    exact sx_reti (Wd := (ax_W a cI L)) (σ := u11) hx hb hr hF hP hS hlocks dX10_countInMemory_99
  have hF := (if_neg hq9).symm.trans hF
  by_cases hq14 : o1 = 14
  · have hF := (if_pos hq14).symm.trans hF
    refine sx_tabIn hx hb 14 hq14 (off := 99) (tgt := 100) dX10_countInMemory_1 (by decide) (by decide) (by decide) (by decide) ?_
    refine lv_aload_n hx hb dX10_countInMemory_100 rfl (lv_at hl 0 rfl) ?_
    refine gx_h_volume hx hb hts hown hK hP fl_X10_59 dX10_countInMemory_101 ?_
    refine gx_vol_cleanBand hx hb hts hown hK hP fl_X10_333 dX10_countInMemory_104 ?_
    exact sx_reti (Wd := (ax_W a cI L)) (σ := u) hx hb hr hF hP hS hlocks dX10_countInMemory_107
  have hF := (if_neg hq14).symm.trans hF
  by_cases hq15 : o1 = 15
  · have hF := (if_pos hq15).symm.trans hF
    refine sx_tabIn hx hb 15 hq15 (off := 107) (tgt := 108) dX10_countInMemory_1 (by decide) (by decide) (by decide) (by decide) ?_
    refine lv_aload_n hx hb dX10_countInMemory_108 rfl (lv_at hl 0 rfl) ?_
    refine gx_h_volume hx hb hts hown hK hP fl_X10_59 dX10_countInMemory_109 ?_
    obtain ⟨r13, u14, hc15, hF⟩ := q_bnd_some hF
    refine sx_ci (Wd := (ax_W a cI L)) (σ1 := u14) (q_runV (Wd := (ax_W a cI L)) (σ := u) (q0 := 2) (ci := 8) (T := TX8) (N := 15) (As := []) (rest := []) hx hb hml hown hts hK hP (kt_X8_nextKind hD hc15) cw_X10_336 rfl rfl ⟨Nat.le_of_ble_eq_true rfl, Nat.le_of_ble_eq_true rfl⟩ rfl rfl rfl hl.1 rfl (Nat.le_of_ble_eq_true rfl) dX10_countInMemory_112) hS (fun H locs hP hS => ?_)
    exact sx_reti (Wd := (ax_W a cI L)) (σ := u14) hx hb hr hF hP hS hlocks dX10_countInMemory_115
  have hF := (if_neg hq15).symm.trans hF
  by_cases hr1 : Int32.toInt o1 < 5 ∨ 15 < Int32.toInt o1
  · refine lv_tableOut (tgt := 116) hx hb dX10_countInMemory_1 hr1 (by decide) ?_
    refine lv_iconst (v := (-1)) hx hb dX10_countInMemory_116 (by decide) ?_
    exact sx_reti (Wd := (ax_W a cI L)) (σ := u) hx hb hr hF hP hS hlocks dX10_countInMemory_117
  · have hr2 : Int32.toInt o1 = 5 ∨ Int32.toInt o1 = 6 ∨ Int32.toInt o1 = 7 ∨ Int32.toInt o1 = 8 ∨ Int32.toInt o1 = 9 ∨ Int32.toInt o1 = 10 ∨ Int32.toInt o1 = 11 ∨ Int32.toInt o1 = 12 ∨ Int32.toInt o1 = 13 ∨ Int32.toInt o1 = 14 ∨ Int32.toInt o1 = 15 := by omega
    rcases hr2 with hr2 | hr2 | hr2 | hr2 | hr2 | hr2 | hr2 | hr2 | hr2 | hr2 | hr2
    · exact absurd (Int32.toInt_inj.mp (hr2.trans (by decide : (5 : Int) = Int32.toInt 5))) hq5
    · exact absurd (Int32.toInt_inj.mp (hr2.trans (by decide : (6 : Int) = Int32.toInt 6))) hq6
    · exact absurd (Int32.toInt_inj.mp (hr2.trans (by decide : (7 : Int) = Int32.toInt 7))) hq7
    · exact absurd (Int32.toInt_inj.mp (hr2.trans (by decide : (8 : Int) = Int32.toInt 8))) hq8
    · exact absurd (Int32.toInt_inj.mp (hr2.trans (by decide : (9 : Int) = Int32.toInt 9))) hq9
    · refine sx_tabIn hx hb 10 (Int32.toInt_inj.mp (hr2.trans (by decide : (10 : Int) = Int32.toInt 10))) (off := 115) (tgt := 116) dX10_countInMemory_1 (by decide) (by decide) (by decide) (by decide) ?_
      refine lv_iconst (v := (-1)) hx hb dX10_countInMemory_116 (by decide) ?_
      exact sx_reti (Wd := (ax_W a cI L)) (σ := u) hx hb hr hF hP hS hlocks dX10_countInMemory_117
    · refine sx_tabIn hx hb 11 (Int32.toInt_inj.mp (hr2.trans (by decide : (11 : Int) = Int32.toInt 11))) (off := 115) (tgt := 116) dX10_countInMemory_1 (by decide) (by decide) (by decide) (by decide) ?_
      refine lv_iconst (v := (-1)) hx hb dX10_countInMemory_116 (by decide) ?_
      exact sx_reti (Wd := (ax_W a cI L)) (σ := u) hx hb hr hF hP hS hlocks dX10_countInMemory_117
    · refine sx_tabIn hx hb 12 (Int32.toInt_inj.mp (hr2.trans (by decide : (12 : Int) = Int32.toInt 12))) (off := 115) (tgt := 116) dX10_countInMemory_1 (by decide) (by decide) (by decide) (by decide) ?_
      refine lv_iconst (v := (-1)) hx hb dX10_countInMemory_116 (by decide) ?_
      exact sx_reti (Wd := (ax_W a cI L)) (σ := u) hx hb hr hF hP hS hlocks dX10_countInMemory_117
    · refine sx_tabIn hx hb 13 (Int32.toInt_inj.mp (hr2.trans (by decide : (13 : Int) = Int32.toInt 13))) (off := 115) (tgt := 116) dX10_countInMemory_1 (by decide) (by decide) (by decide) (by decide) ?_
      refine lv_iconst (v := (-1)) hx hb dX10_countInMemory_116 (by decide) ?_
      exact sx_reti (Wd := (ax_W a cI L)) (σ := u) hx hb hr hF hP hS hlocks dX10_countInMemory_117
    · exact absurd (Int32.toInt_inj.mp (hr2.trans (by decide : (14 : Int) = Int32.toInt 14))) hq14
    · exact absurd (Int32.toInt_inj.mp (hr2.trans (by decide : (15 : Int) = Int32.toInt 15))) hq15
set_option maxHeartbeats 4000000 in
set_option maxRecDepth 100000 in
theorem kt_X10_count {N : Nat} {l : Launch} {D : va_G} {a : Nat → Nat} {cI : Nat → ClassId} {L : Nat → Nat} (hD : ∀ σ, va_D (ax_A a) (ax_W a cI L σ)) {o1 : Int32} {u σ0 : q_St} {r0 : Int32} (hF : fX10_count L N o1 u = some (r0, σ0)) : Met l yX10_count (Cond.code yX10_count cX10_count 2 (some .int) :: q_T) ({ frames := 6, cells := 0, slots := 0, locals := 132 } : Room) (q_P D vwCl (ax_T cI) (ax_W a cI L) [.ref (a 0), .int o1] u) (q_Qi D vwCl (ax_W a cI L) (ax_A a) r0 σ0) 0 0 (ax_A a) := by
  refine Met.ofW (cc := cX10_count) (maxL := 2) (ret := (some .int)) (by decide) rfl ?_
  intro p e s m args below meth c s₁ B hml hv
  obtain ⟨rfl, hP, hK⟩ := hv
  have hx := B.exec
  have hb := B.bytes
  have hr := B.returns
  have hts := q_ts (atoms_spec (ws := Cond.code yX10_count cX10_count 2 (some .int) :: q_T) B.pre)
  have hown : s.vm.findClass RX10 = some m.cls := findClass_of_methodNamed B.named
  have hlocks := B.notSynchronized
  have hS : va_S (ax_A a) s.heap s.heap [] := va_S.rf
  have hl := lv_entry ([.ref (a 0), .int o1]) (n := 2) (Nat.le_of_ble_eq_true rfl)
  rw [lg_entry_eq]
  generalize (lg_sl ([.ref (a 0), .int o1]) ++ List.replicate (2 - (lg_sl ([.ref (a 0), .int o1])).length) Slot.unset).toArray = ls at hl ⊢
  have hl : lv_has ls 2 [(0, .ref (a 0)), (1, .int o1)] := hl
  unfold fX10_count at hF
  refine lv_iload_n hx hb dX10_count_0 rfl (lv_at hl 1 rfl) ?_
  by_cases hq0 : o1 = 0
  · have hF := (if_pos hq0).symm.trans hF
    refine sx_tabIn hx hb 0 hq0 (off := 71) (tgt := 72) dX10_count_1 (by decide) (by decide) (by decide) (by decide) ?_
    refine lv_aload_n hx hb dX10_count_72 rfl (lv_at hl 0 rfl) ?_
    refine gx_h_disk hx hb hts hown hK hP fl_X10_53 dX10_count_73 ?_
    refine gx_disk_entryWrites hx hb hts hown hK hP fl_X10_296 dX10_count_76 ?_
    exact sx_reti (Wd := (ax_W a cI L)) (σ := u) hx hb hr hF hP hS hlocks dX10_count_79
  have hF := (if_neg hq0).symm.trans hF
  by_cases hq1 : o1 = 1
  · have hF := (if_pos hq1).symm.trans hF
    refine sx_tabIn hx hb 1 hq1 (off := 79) (tgt := 80) dX10_count_1 (by decide) (by decide) (by decide) (by decide) ?_
    refine lv_aload_n hx hb dX10_count_80 rfl (lv_at hl 0 rfl) ?_
    refine gx_h_disk hx hb hts hown hK hP fl_X10_53 dX10_count_81 ?_
    refine gx_disk_bandWrites hx hb hts hown hK hP fl_X10_299 dX10_count_84 ?_
    exact sx_reti (Wd := (ax_W a cI L)) (σ := u) hx hb hr hF hP hS hlocks dX10_count_87
  have hF := (if_neg hq1).symm.trans hF
  by_cases hq2 : o1 = 2
  · have hF := (if_pos hq2).symm.trans hF
    refine sx_tabIn hx hb 2 hq2 (off := 87) (tgt := 88) dX10_count_1 (by decide) (by decide) (by decide) (by decide) ?_
    refine lv_aload_n hx hb dX10_count_88 rfl (lv_at hl 0 rfl) ?_
    refine gx_h_disk hx hb hts hown hK hP fl_X10_53 dX10_count_89 ?_
    refine gx_disk_scratchWrites hx hb hts hown hK hP fl_X10_302 dX10_count_92 ?_
    exact sx_reti (Wd := (ax_W a cI L)) (σ := u) hx hb hr hF hP hS hlocks dX10_count_95
  have hF := (if_neg hq2).symm.trans hF
  by_cases hq3 : o1 = 3
  · have hF := (if_pos hq3).symm.trans hF
    refine sx_tabIn hx hb 3 hq3 (off := 95) (tgt := 96) dX10_count_1 (by decide) (by decide) (by decide) (by decide) ?_
    refine lv_aload_n hx hb dX10_count_96 rfl (lv_at hl 0 rfl) ?_
    refine gx_h_disk hx hb hts hown hK hP fl_X10_53 dX10_count_97 ?_
    refine gx_disk_recordWrites hx hb hts hown hK hP fl_X10_305 dX10_count_100 ?_
    exact sx_reti (Wd := (ax_W a cI L)) (σ := u) hx hb hr hF hP hS hlocks dX10_count_103
  have hF := (if_neg hq3).symm.trans hF
  by_cases hq4 : o1 = 4
  · have hF := (if_pos hq4).symm.trans hF
    refine sx_tabIn hx hb 4 hq4 (off := 103) (tgt := 104) dX10_count_1 (by decide) (by decide) (by decide) (by decide) ?_
    refine lv_aload_n hx hb dX10_count_104 rfl (lv_at hl 0 rfl) ?_
    refine gx_h_volume hx hb hts hown hK hP fl_X10_59 dX10_count_105 ?_
    refine gx_vol_bandsDone hx hb hts hown hK hP fl_X10_308 dX10_count_108 ?_
    exact sx_reti (Wd := (ax_W a cI L)) (σ := u) hx hb hr hF hP hS hlocks dX10_count_111
  have hF := (if_neg hq4).symm.trans hF
  by_cases hq10 : o1 = 10
  · have hF := (if_pos hq10).symm.trans hF
    refine sx_tabIn hx hb 10 hq10 (off := 111) (tgt := 112) dX10_count_1 (by decide) (by decide) (by decide) (by decide) ?_
    refine lv_aload_n hx hb dX10_count_112 rfl (lv_at hl 0 rfl) ?_
    refine gx_h_store hx hb hts hown hK hP fl_X10_63 dX10_count_113 ?_
    refine gx_store_commits hx hb hts hown hK hP fl_X10_311 dX10_count_116 ?_
    exact sx_reti (Wd := (ax_W a cI L)) (σ := u) hx hb hr hF hP hS hlocks dX10_count_119
  have hF := (if_neg hq10).symm.trans hF
  by_cases hq11 : o1 = 11
  · have hF := (if_pos hq11).symm.trans hF
    refine sx_tabIn hx hb 11 hq11 (off := 119) (tgt := 120) dX10_count_1 (by decide) (by decide) (by decide) (by decide) ?_
    refine lv_aload_n hx hb dX10_count_120 rfl (lv_at hl 0 rfl) ?_
    refine gx_h_disk hx hb hts hown hK hP fl_X10_53 dX10_count_121 ?_
    refine gx_disk_misreads hx hb hts hown hK hP fl_X10_314 dX10_count_124 ?_
    exact sx_reti (Wd := (ax_W a cI L)) (σ := u) hx hb hr hF hP hS hlocks dX10_count_127
  have hF := (if_neg hq11).symm.trans hF
  by_cases hq12 : o1 = 12
  · have hF := (if_pos hq12).symm.trans hF
    refine sx_tabIn hx hb 12 hq12 (off := 127) (tgt := 128) dX10_count_1 (by decide) (by decide) (by decide) (by decide) ?_
    refine lv_aload_n hx hb dX10_count_128 rfl (lv_at hl 0 rfl) ?_
    refine gx_h_disk hx hb hts hown hK hP fl_X10_53 dX10_count_129 ?_
    obtain ⟨r1, u2, hc3, hF⟩ := q_bnd_some hF
    refine sx_ci (Wd := (ax_W a cI L)) (σ1 := u2) (q_runV (Wd := (ax_W a cI L)) (σ := u) (q0 := 1) (ci := 2) (T := TX2) (N := 15) (As := []) (rest := []) hx hb hml hown hts hK hP (kt_X2_lostNow hD hc3) cw_X10_317 rfl rfl ⟨Nat.le_of_ble_eq_true rfl, Nat.le_of_ble_eq_true rfl⟩ rfl rfl rfl hl.1 rfl (Nat.le_of_ble_eq_true rfl) dX10_count_132) hS (fun H locs hP hS => ?_)
    exact sx_reti (Wd := (ax_W a cI L)) (σ := u2) hx hb hr hF hP hS hlocks dX10_count_135
  have hF := (if_neg hq12).symm.trans hF
  by_cases hq13 : o1 = 13
  · have hF := (if_pos hq13).symm.trans hF
    refine sx_tabIn hx hb 13 hq13 (off := 135) (tgt := 136) dX10_count_1 (by decide) (by decide) (by decide) (by decide) ?_
    refine lv_aload_n hx hb dX10_count_136 rfl (lv_at hl 0 rfl) ?_
    refine gx_h_disk hx hb hts hown hK hP fl_X10_53 dX10_count_137 ?_
    refine gx_disk_sectors hx hb hts hown hK hP fl_X10_259 dX10_count_140 ?_
    exact sx_reti (Wd := (ax_W a cI L)) (σ := u) hx hb hr hF hP hS hlocks dX10_count_143
  have hF := (if_neg hq13).symm.trans hF
  by_cases hr1 : Int32.toInt o1 < 0 ∨ 13 < Int32.toInt o1
  · refine lv_tableOut (tgt := 144) hx hb dX10_count_1 hr1 (by decide) ?_
    refine lv_aload_n hx hb dX10_count_144 rfl (lv_at hl 0 rfl) ?_
    refine gx_h_disk hx hb hts hown hK hP fl_X10_53 dX10_count_145 ?_
    refine gx_disk_on hx hb hts hown hK hP fl_X10_122 dX10_count_148 ?_
    refine sx_if_eq (tgt := 162) hx hb hF dX10_count_151 (by decide) (fun hF => ?_) (fun hF => ?_)
    · refine lv_bipush (v := (-99)) hx hb dX10_count_162 (by decide) ?_
      exact sx_reti (Wd := (ax_W a cI L)) (σ := u) hx hb hr hF hP hS hlocks dX10_count_164
    · refine lv_aload_n hx hb dX10_count_154 rfl (lv_at hl 0 rfl) ?_
      refine lv_iload_n hx hb dX10_count_155 rfl (lv_at hl 1 rfl) ?_
      obtain ⟨r4, u5, hc6, hF⟩ := q_bnd_some hF
      refine sx_ci (Wd := (ax_W a cI L)) (σ1 := u5) (q_runV (Wd := (ax_W a cI L)) (σ := u) (q0 := 0) (ci := 10) (T := TX10) (N := 11) (As := [.int o1]) (rest := []) hx hb hml hown hts hK hP (kt_X10_countInMemory hD hc6) cw_X10_320 rfl rfl ⟨Nat.le_of_ble_eq_true rfl, Nat.le_of_ble_eq_true rfl⟩ rfl rfl rfl hl.1 rfl (Nat.le_of_ble_eq_true rfl) dX10_count_156) hS (fun H locs hP hS => ?_)
      refine lv_goto (tgt := 164) hx hb dX10_count_159 (by decide) ?_
      exact sx_reti (Wd := (ax_W a cI L)) (σ := u5) hx hb hr hF hP hS hlocks dX10_count_164
  · have hr2 : Int32.toInt o1 = 0 ∨ Int32.toInt o1 = 1 ∨ Int32.toInt o1 = 2 ∨ Int32.toInt o1 = 3 ∨ Int32.toInt o1 = 4 ∨ Int32.toInt o1 = 5 ∨ Int32.toInt o1 = 6 ∨ Int32.toInt o1 = 7 ∨ Int32.toInt o1 = 8 ∨ Int32.toInt o1 = 9 ∨ Int32.toInt o1 = 10 ∨ Int32.toInt o1 = 11 ∨ Int32.toInt o1 = 12 ∨ Int32.toInt o1 = 13 := by omega
    rcases hr2 with hr2 | hr2 | hr2 | hr2 | hr2 | hr2 | hr2 | hr2 | hr2 | hr2 | hr2 | hr2 | hr2 | hr2
    · exact absurd (Int32.toInt_inj.mp (hr2.trans (by decide : (0 : Int) = Int32.toInt 0))) hq0
    · exact absurd (Int32.toInt_inj.mp (hr2.trans (by decide : (1 : Int) = Int32.toInt 1))) hq1
    · exact absurd (Int32.toInt_inj.mp (hr2.trans (by decide : (2 : Int) = Int32.toInt 2))) hq2
    · exact absurd (Int32.toInt_inj.mp (hr2.trans (by decide : (3 : Int) = Int32.toInt 3))) hq3
    · exact absurd (Int32.toInt_inj.mp (hr2.trans (by decide : (4 : Int) = Int32.toInt 4))) hq4
    · refine sx_tabIn hx hb 5 (Int32.toInt_inj.mp (hr2.trans (by decide : (5 : Int) = Int32.toInt 5))) (off := 143) (tgt := 144) dX10_count_1 (by decide) (by decide) (by decide) (by decide) ?_
      refine lv_aload_n hx hb dX10_count_144 rfl (lv_at hl 0 rfl) ?_
      refine gx_h_disk hx hb hts hown hK hP fl_X10_53 dX10_count_145 ?_
      refine gx_disk_on hx hb hts hown hK hP fl_X10_122 dX10_count_148 ?_
      refine sx_if_eq (tgt := 162) hx hb hF dX10_count_151 (by decide) (fun hF => ?_) (fun hF => ?_)
      · refine lv_bipush (v := (-99)) hx hb dX10_count_162 (by decide) ?_
        exact sx_reti (Wd := (ax_W a cI L)) (σ := u) hx hb hr hF hP hS hlocks dX10_count_164
      · refine lv_aload_n hx hb dX10_count_154 rfl (lv_at hl 0 rfl) ?_
        refine lv_iload_n hx hb dX10_count_155 rfl (lv_at hl 1 rfl) ?_
        obtain ⟨r4, u5, hc6, hF⟩ := q_bnd_some hF
        refine sx_ci (Wd := (ax_W a cI L)) (σ1 := u5) (q_runV (Wd := (ax_W a cI L)) (σ := u) (q0 := 0) (ci := 10) (T := TX10) (N := 11) (As := [.int o1]) (rest := []) hx hb hml hown hts hK hP (kt_X10_countInMemory hD hc6) cw_X10_320 rfl rfl ⟨Nat.le_of_ble_eq_true rfl, Nat.le_of_ble_eq_true rfl⟩ rfl rfl rfl hl.1 rfl (Nat.le_of_ble_eq_true rfl) dX10_count_156) hS (fun H locs hP hS => ?_)
        refine lv_goto (tgt := 164) hx hb dX10_count_159 (by decide) ?_
        exact sx_reti (Wd := (ax_W a cI L)) (σ := u5) hx hb hr hF hP hS hlocks dX10_count_164
    · refine sx_tabIn hx hb 6 (Int32.toInt_inj.mp (hr2.trans (by decide : (6 : Int) = Int32.toInt 6))) (off := 143) (tgt := 144) dX10_count_1 (by decide) (by decide) (by decide) (by decide) ?_
      refine lv_aload_n hx hb dX10_count_144 rfl (lv_at hl 0 rfl) ?_
      refine gx_h_disk hx hb hts hown hK hP fl_X10_53 dX10_count_145 ?_
      refine gx_disk_on hx hb hts hown hK hP fl_X10_122 dX10_count_148 ?_
      refine sx_if_eq (tgt := 162) hx hb hF dX10_count_151 (by decide) (fun hF => ?_) (fun hF => ?_)
      · refine lv_bipush (v := (-99)) hx hb dX10_count_162 (by decide) ?_
        exact sx_reti (Wd := (ax_W a cI L)) (σ := u) hx hb hr hF hP hS hlocks dX10_count_164
      · refine lv_aload_n hx hb dX10_count_154 rfl (lv_at hl 0 rfl) ?_
        refine lv_iload_n hx hb dX10_count_155 rfl (lv_at hl 1 rfl) ?_
        obtain ⟨r4, u5, hc6, hF⟩ := q_bnd_some hF
        refine sx_ci (Wd := (ax_W a cI L)) (σ1 := u5) (q_runV (Wd := (ax_W a cI L)) (σ := u) (q0 := 0) (ci := 10) (T := TX10) (N := 11) (As := [.int o1]) (rest := []) hx hb hml hown hts hK hP (kt_X10_countInMemory hD hc6) cw_X10_320 rfl rfl ⟨Nat.le_of_ble_eq_true rfl, Nat.le_of_ble_eq_true rfl⟩ rfl rfl rfl hl.1 rfl (Nat.le_of_ble_eq_true rfl) dX10_count_156) hS (fun H locs hP hS => ?_)
        refine lv_goto (tgt := 164) hx hb dX10_count_159 (by decide) ?_
        exact sx_reti (Wd := (ax_W a cI L)) (σ := u5) hx hb hr hF hP hS hlocks dX10_count_164
    · refine sx_tabIn hx hb 7 (Int32.toInt_inj.mp (hr2.trans (by decide : (7 : Int) = Int32.toInt 7))) (off := 143) (tgt := 144) dX10_count_1 (by decide) (by decide) (by decide) (by decide) ?_
      refine lv_aload_n hx hb dX10_count_144 rfl (lv_at hl 0 rfl) ?_
      refine gx_h_disk hx hb hts hown hK hP fl_X10_53 dX10_count_145 ?_
      refine gx_disk_on hx hb hts hown hK hP fl_X10_122 dX10_count_148 ?_
      refine sx_if_eq (tgt := 162) hx hb hF dX10_count_151 (by decide) (fun hF => ?_) (fun hF => ?_)
      · refine lv_bipush (v := (-99)) hx hb dX10_count_162 (by decide) ?_
        exact sx_reti (Wd := (ax_W a cI L)) (σ := u) hx hb hr hF hP hS hlocks dX10_count_164
      · refine lv_aload_n hx hb dX10_count_154 rfl (lv_at hl 0 rfl) ?_
        refine lv_iload_n hx hb dX10_count_155 rfl (lv_at hl 1 rfl) ?_
        obtain ⟨r4, u5, hc6, hF⟩ := q_bnd_some hF
        refine sx_ci (Wd := (ax_W a cI L)) (σ1 := u5) (q_runV (Wd := (ax_W a cI L)) (σ := u) (q0 := 0) (ci := 10) (T := TX10) (N := 11) (As := [.int o1]) (rest := []) hx hb hml hown hts hK hP (kt_X10_countInMemory hD hc6) cw_X10_320 rfl rfl ⟨Nat.le_of_ble_eq_true rfl, Nat.le_of_ble_eq_true rfl⟩ rfl rfl rfl hl.1 rfl (Nat.le_of_ble_eq_true rfl) dX10_count_156) hS (fun H locs hP hS => ?_)
        refine lv_goto (tgt := 164) hx hb dX10_count_159 (by decide) ?_
        exact sx_reti (Wd := (ax_W a cI L)) (σ := u5) hx hb hr hF hP hS hlocks dX10_count_164
    · refine sx_tabIn hx hb 8 (Int32.toInt_inj.mp (hr2.trans (by decide : (8 : Int) = Int32.toInt 8))) (off := 143) (tgt := 144) dX10_count_1 (by decide) (by decide) (by decide) (by decide) ?_
      refine lv_aload_n hx hb dX10_count_144 rfl (lv_at hl 0 rfl) ?_
      refine gx_h_disk hx hb hts hown hK hP fl_X10_53 dX10_count_145 ?_
      refine gx_disk_on hx hb hts hown hK hP fl_X10_122 dX10_count_148 ?_
      refine sx_if_eq (tgt := 162) hx hb hF dX10_count_151 (by decide) (fun hF => ?_) (fun hF => ?_)
      · refine lv_bipush (v := (-99)) hx hb dX10_count_162 (by decide) ?_
        exact sx_reti (Wd := (ax_W a cI L)) (σ := u) hx hb hr hF hP hS hlocks dX10_count_164
      · refine lv_aload_n hx hb dX10_count_154 rfl (lv_at hl 0 rfl) ?_
        refine lv_iload_n hx hb dX10_count_155 rfl (lv_at hl 1 rfl) ?_
        obtain ⟨r4, u5, hc6, hF⟩ := q_bnd_some hF
        refine sx_ci (Wd := (ax_W a cI L)) (σ1 := u5) (q_runV (Wd := (ax_W a cI L)) (σ := u) (q0 := 0) (ci := 10) (T := TX10) (N := 11) (As := [.int o1]) (rest := []) hx hb hml hown hts hK hP (kt_X10_countInMemory hD hc6) cw_X10_320 rfl rfl ⟨Nat.le_of_ble_eq_true rfl, Nat.le_of_ble_eq_true rfl⟩ rfl rfl rfl hl.1 rfl (Nat.le_of_ble_eq_true rfl) dX10_count_156) hS (fun H locs hP hS => ?_)
        refine lv_goto (tgt := 164) hx hb dX10_count_159 (by decide) ?_
        exact sx_reti (Wd := (ax_W a cI L)) (σ := u5) hx hb hr hF hP hS hlocks dX10_count_164
    · refine sx_tabIn hx hb 9 (Int32.toInt_inj.mp (hr2.trans (by decide : (9 : Int) = Int32.toInt 9))) (off := 143) (tgt := 144) dX10_count_1 (by decide) (by decide) (by decide) (by decide) ?_
      refine lv_aload_n hx hb dX10_count_144 rfl (lv_at hl 0 rfl) ?_
      refine gx_h_disk hx hb hts hown hK hP fl_X10_53 dX10_count_145 ?_
      refine gx_disk_on hx hb hts hown hK hP fl_X10_122 dX10_count_148 ?_
      refine sx_if_eq (tgt := 162) hx hb hF dX10_count_151 (by decide) (fun hF => ?_) (fun hF => ?_)
      · refine lv_bipush (v := (-99)) hx hb dX10_count_162 (by decide) ?_
        exact sx_reti (Wd := (ax_W a cI L)) (σ := u) hx hb hr hF hP hS hlocks dX10_count_164
      · refine lv_aload_n hx hb dX10_count_154 rfl (lv_at hl 0 rfl) ?_
        refine lv_iload_n hx hb dX10_count_155 rfl (lv_at hl 1 rfl) ?_
        obtain ⟨r4, u5, hc6, hF⟩ := q_bnd_some hF
        refine sx_ci (Wd := (ax_W a cI L)) (σ1 := u5) (q_runV (Wd := (ax_W a cI L)) (σ := u) (q0 := 0) (ci := 10) (T := TX10) (N := 11) (As := [.int o1]) (rest := []) hx hb hml hown hts hK hP (kt_X10_countInMemory hD hc6) cw_X10_320 rfl rfl ⟨Nat.le_of_ble_eq_true rfl, Nat.le_of_ble_eq_true rfl⟩ rfl rfl rfl hl.1 rfl (Nat.le_of_ble_eq_true rfl) dX10_count_156) hS (fun H locs hP hS => ?_)
        refine lv_goto (tgt := 164) hx hb dX10_count_159 (by decide) ?_
        exact sx_reti (Wd := (ax_W a cI L)) (σ := u5) hx hb hr hF hP hS hlocks dX10_count_164
    · exact absurd (Int32.toInt_inj.mp (hr2.trans (by decide : (10 : Int) = Int32.toInt 10))) hq10
    · exact absurd (Int32.toInt_inj.mp (hr2.trans (by decide : (11 : Int) = Int32.toInt 11))) hq11
    · exact absurd (Int32.toInt_inj.mp (hr2.trans (by decide : (12 : Int) = Int32.toInt 12))) hq12
    · exact absurd (Int32.toInt_inj.mp (hr2.trans (by decide : (13 : Int) = Int32.toInt 13))) hq13
