set_option maxHeartbeats 4000000 in
set_option maxRecDepth 100000 in
theorem kt_X6_half {N : Nat} {l : Launch} {D : va_G} {a : Nat → Nat} {cI : Nat → ClassId} {L : Nat → Nat} (hD : ∀ σ, va_D (ax_A a) (ax_W a cI L σ)) {o1 : Int32} {o2 : Int32} {u σ0 : q_St} {r0 : Int32} (hF : fX6_half L N o1 o2 u = some (r0, σ0)) : Met l yX6_half (Cond.code yX6_half cX6_half 3 (some .int) :: q_T) ({ frames := 2, cells := 0, slots := 0, locals := 46 } : Room) (q_P D vwCl (ax_T cI) (ax_W a cI L) [.ref (a 3), .int o1, .int o2] u) (q_Qi D vwCl (ax_W a cI L) (ax_A a) r0 σ0) 0 0 (ax_A a) := by
  refine Met.ofW (cc := cX6_half) (maxL := 3) (ret := (some .int)) (by decide) rfl ?_
  intro p e s m args below meth c s₁ B hml hv
  obtain ⟨rfl, hP, hK⟩ := hv
  have hx := B.exec
  have hb := B.bytes
  have hr := B.returns
  have hts := q_ts (atoms_spec (ws := Cond.code yX6_half cX6_half 3 (some .int) :: q_T) B.pre)
  have hown : s.vm.findClass RX6 = some m.cls := findClass_of_methodNamed B.named
  have hlocks := B.notSynchronized
  have hS : va_S (ax_A a) s.heap s.heap [] := va_S.rf
  have hl := lv_entry ([.ref (a 3), .int o1, .int o2]) (n := 3) (Nat.le_of_ble_eq_true rfl)
  rw [lg_entry_eq]
  generalize (lg_sl ([.ref (a 3), .int o1, .int o2]) ++ List.replicate (3 - (lg_sl ([.ref (a 3), .int o1, .int o2])).length) Slot.unset).toArray = ls at hl ⊢
  have hl : lv_has ls 3 [(0, .ref (a 3)), (1, .int o1), (2, .int o2)] := hl
  unfold fX6_half at hF
  refine lv_iload_n hx hb dX6_half_0 rfl (lv_at hl 1 rfl) ?_
  refine sx_if_ne (tgt := 8) hx hb hF dX6_half_1 (by decide) (fun hF => ?_) (fun hF => ?_)
  · refine lv_aload_n hx hb dX6_half_8 rfl (lv_at hl 0 rfl) ?_
    refine lv_iload_n hx hb dX6_half_9 rfl (lv_at hl 1 rfl) ?_
    refine lv_iload_n hx hb dX6_half_10 rfl (lv_at hl 2 rfl) ?_
    refine lv_iconst (v := 4) hx hb dX6_half_11 (by decide) ?_
    refine lv_idiv hx hb dX6_half_12 (by decide) ?_
    obtain ⟨r1, u2, hc3, hF⟩ := q_bnd_some hF
    refine sx_cl (Wd := (ax_W a cI L)) (σ1 := u2) (q_runV (Wd := (ax_W a cI L)) (σ := u) (q0 := 3) (ci := 6) (T := TX6) (N := 9) (As := [.int o1, .int (o2 / 4)]) (rest := []) hx hb hml hown hts hK hP (kt_X6_word hD hc3) cw_X6_58 rfl rfl ⟨Nat.le_of_ble_eq_true rfl, Nat.le_of_ble_eq_true rfl⟩ rfl rfl rfl hl.1 rfl (Nat.le_of_ble_eq_true rfl) dX6_half_13) hS (fun H locs hP hS => ?_)
    refine lv_bipush (v := 16) hx hb dX6_half_16 (by decide) ?_
    refine lv_iload_n hx hb dX6_half_18 rfl (lv_at hl 2 rfl) ?_
    refine lv_iconst (v := 4) hx hb dX6_half_19 (by decide) ?_
    refine lv_irem hx hb dX6_half_20 (by decide) ?_
    refine lv_imul hx hb dX6_half_21 ?_
    refine lv_lushr (v := q_lush r1 (16 * (o2 - o2 / 4 * 4))) hx hb dX6_half_22 rfl ?_
    refine lv_l2i (v := Int64.toInt32 (q_lush r1 (16 * (o2 - o2 / 4 * 4)))) hx hb dX6_half_23 rfl ?_
    refine lv_ldc (v := 65535) hx hb hown (hts _ kc_X6_62) dX6_half_24 ?_
    refine lv_iand hx hb dX6_half_26 ?_
    exact sx_reti (Wd := (ax_W a cI L)) (σ := u2) hx hb hr hF hP hS hlocks dX6_half_27
  · refine lv_iconst (v := 0) hx hb dX6_half_4 (by decide) ?_
    refine lv_goto (tgt := 27) hx hb dX6_half_5 (by decide) ?_
    exact sx_reti (Wd := (ax_W a cI L)) (σ := u) hx hb hr hF hP hS hlocks dX6_half_27
set_option maxHeartbeats 4000000 in
set_option maxRecDepth 100000 in
theorem kt_X3_blockAt {N : Nat} {l : Launch} {D : va_G} {a : Nat → Nat} {cI : Nat → ClassId} {L : Nat → Nat} (hD : ∀ σ, va_D (ax_A a) (ax_W a cI L σ)) {o1 : Int32} {o2 : Int32} {u σ0 : q_St} {r0 : Int32} (hF : fX3_blockAt L N o1 o2 u = some (r0, σ0)) : Met l yX3_blockAt (Cond.code yX3_blockAt cX3_blockAt 3 (some .int) :: q_T) ({ frames := 3, cells := 0, slots := 0, locals := 68 } : Room) (q_P D vwCl (ax_T cI) (ax_W a cI L) [.ref (a 6), .int o1, .int o2] u) (q_Qi D vwCl (ax_W a cI L) (ax_A a) r0 σ0) 0 0 (ax_A a) := by
  refine Met.ofW (cc := cX3_blockAt) (maxL := 3) (ret := (some .int)) (by decide) rfl ?_
  intro p e s m args below meth c s₁ B hml hv
  obtain ⟨rfl, hP, hK⟩ := hv
  have hx := B.exec
  have hb := B.bytes
  have hr := B.returns
  have hts := q_ts (atoms_spec (ws := Cond.code yX3_blockAt cX3_blockAt 3 (some .int) :: q_T) B.pre)
  have hown : s.vm.findClass RX3 = some m.cls := findClass_of_methodNamed B.named
  have hlocks := B.notSynchronized
  have hS : va_S (ax_A a) s.heap s.heap [] := va_S.rf
  have hl := lv_entry ([.ref (a 6), .int o1, .int o2]) (n := 3) (Nat.le_of_ble_eq_true rfl)
  rw [lg_entry_eq]
  generalize (lg_sl ([.ref (a 6), .int o1, .int o2]) ++ List.replicate (3 - (lg_sl ([.ref (a 6), .int o1, .int o2])).length) Slot.unset).toArray = ls at hl ⊢
  have hl : lv_has ls 3 [(0, .ref (a 6)), (1, .int o1), (2, .int o2)] := hl
  unfold fX3_blockAt at hF
  refine lv_aload_n hx hb dX3_blockAt_0 rfl (lv_at hl 0 rfl) ?_
  refine gx_folders_store hx hb hts hown hK hP fl_X3_9 dX3_blockAt_1 ?_
  refine lv_aload_n hx hb dX3_blockAt_4 rfl (lv_at hl 0 rfl) ?_
  refine gx_folders_nodes hx hb hts hown hK hP fl_X3_19 dX3_blockAt_5 ?_
  refine lv_iload_n hx hb dX3_blockAt_8 rfl (lv_at hl 1 rfl) ?_
  obtain ⟨r1, u2, hc3, hF⟩ := q_bnd_some hF
  refine sx_ci (Wd := (ax_W a cI L)) (σ1 := u2) (q_runV (Wd := (ax_W a cI L)) (σ := u) (q0 := 5) (ci := 4) (T := TX4) (N := 2) (As := [.int o1]) (rest := [.ref (a 3)]) hx hb hml hown hts hK hP (kt_X4_sectorOf hD hc3) cw_X3_37 rfl rfl ⟨Nat.le_of_ble_eq_true rfl, Nat.le_of_ble_eq_true rfl⟩ rfl rfl rfl hl.1 rfl (Nat.le_of_ble_eq_true rfl) dX3_blockAt_9) hS (fun H locs hP hS => ?_)
  refine lv_iconst (v := 4) hx hb dX3_blockAt_12 (by decide) ?_
  refine lv_iload_n hx hb dX3_blockAt_13 rfl (lv_at hl 2 rfl) ?_
  refine lv_iadd hx hb dX3_blockAt_14 ?_
  obtain ⟨r4, u5, hc6, hF⟩ := q_bnd_some hF
  refine sx_ci (Wd := (ax_W a cI L)) (σ1 := u5) (q_runV (Wd := (ax_W a cI L)) (σ := u2) (q0 := 3) (ci := 6) (T := TX6) (N := 9) (As := [.int r1, .int (4 + o2)]) (rest := []) hx hb hml hown hts hK hP (kt_X6_half hD hc6) cw_X3_43 rfl rfl ⟨Nat.le_of_ble_eq_true rfl, Nat.le_of_ble_eq_true rfl⟩ rfl rfl rfl hl.1 rfl (Nat.le_of_ble_eq_true rfl) dX3_blockAt_15) hS (fun H locs hP hS => ?_)
  exact sx_reti (Wd := (ax_W a cI L)) (σ := u5) hx hb hr hF hP hS hlocks dX3_blockAt_18
set_option maxHeartbeats 4000000 in
set_option maxRecDepth 100000 in
theorem kt_X3_seek {N : Nat} {l : Launch} {D : va_G} {a : Nat → Nat} {cI : Nat → ClassId} {L : Nat → Nat} (hD : ∀ σ, va_D (ax_A a) (ax_W a cI L σ)) {o1 : Int32} {o2 : Int64} {u σ0 : q_St} {r0 : Int32} (hF : fX3_seek L N o1 o2 u = some (r0, σ0)) : Met l yX3_seek (Cond.code yX3_seek cX3_seek 7 (some .int) :: q_T) ({ frames := 4, cells := 0, slots := 0, locals := 90 } : Room) (q_P D vwCl (ax_T cI) (ax_W a cI L) [.ref (a 6), .int o1, .long o2] u) (q_Qi D vwCl (ax_W a cI L) (ax_A a) r0 σ0) 0 0 (ax_A a) := by
  refine Met.ofW (cc := cX3_seek) (maxL := 7) (ret := (some .int)) (by decide) rfl ?_
  intro p e s m args below meth c s₁ B hml hv
  obtain ⟨rfl, hP, hK⟩ := hv
  have hx := B.exec
  have hb := B.bytes
  have hr := B.returns
  have hts := q_ts (atoms_spec (ws := Cond.code yX3_seek cX3_seek 7 (some .int) :: q_T) B.pre)
  have hown : s.vm.findClass RX3 = some m.cls := findClass_of_methodNamed B.named
  have hlocks := B.notSynchronized
  have hS : va_S (ax_A a) s.heap s.heap [] := va_S.rf
  have hl := lv_entry ([.ref (a 6), .int o1, .long o2]) (n := 7) (Nat.le_of_ble_eq_true rfl)
  rw [lg_entry_eq]
  generalize (lg_sl ([.ref (a 6), .int o1, .long o2]) ++ List.replicate (7 - (lg_sl ([.ref (a 6), .int o1, .long o2])).length) Slot.unset).toArray = ls at hl ⊢
  have hl : lv_has ls 7 [(0, .ref (a 6)), (1, .int o1), (2, .long o2)] := hl
  have hB29 : ∀ (ih3 : Int32 → Int64 → Int32 → q_St → Option (Int32 × q_St)) (hi3 : ∀ (x1 : Int32) (x2 : Int64) (x4 : Int32) (u : q_St) (ls : Array Slot), lv_has ls 7 [(0, .ref (a 6)), (1, .int x1), (2, .long x2), (4, .int x4)] → ih3 x1 x2 x4 u = some (r0, σ0) → ∀ (H : Heap) (locs : List Loc), va_P D vwCl (ax_W a cI L u) H → va_S (ax_A a) s.heap H locs → W p l e (headSpec (Cond.code yX3_seek cX3_seek 7 (some .int) :: q_T) ({ frames := 4, cells := 0, slots := 0, locals := 90 } : Room)).room s m ([.ref (a 6), .int o1, .long o2] : List Value).toArray below meth c H locs 0 0 (MQ below (q_Qi D vwCl (ax_W a cI L) (ax_A a) r0 σ0) ([.ref (a 6), .int o1, .long o2] : List Value).toArray s 0 0 (ax_A a)) (F0 m 3 ls [])), ∀ (n : Nat) (x1 : Int32) (x2 : Int64) (x4 : Int32) (x5 : Int32) (x6 : Int32) (u : q_St) (ls : Array Slot), lv_has ls 7 [(0, .ref (a 6)), (1, .int x1), (2, .long x2), (4, .int x4), (5, .int x5), (6, .int x6)] → q_lp (fX3_seek_b29 L N ih3) (fun _ _ _ _ _ _ => none) n x1 x2 x4 x5 x6 u = some (r0, σ0) → ∀ (H : Heap) (locs : List Loc), va_P D vwCl (ax_W a cI L u) H → va_S (ax_A a) s.heap H locs → W p l e (headSpec (Cond.code yX3_seek cX3_seek 7 (some .int) :: q_T) ({ frames := 4, cells := 0, slots := 0, locals := 90 } : Room)).room s m ([.ref (a 6), .int o1, .long o2] : List Value).toArray below meth c H locs 0 0 (MQ below (q_Qi D vwCl (ax_W a cI L) (ax_A a) r0 σ0) ([.ref (a 6), .int o1, .long o2] : List Value).toArray s 0 0 (ax_A a)) (F0 m 29 ls []) := by
    intro ih3 hi3 n
    induction n with
    | zero => intro x1 x2 x4 x5 x6 u ls hl hF; exact absurd (show (none : Option (Int32 × q_St)) = some _ from hF) (fun h => nomatch h)
    | succ n hi29 =>
      intro x1 x2 x4 x5 x6 u ls hl hF _ _ hP hS
      obtain ⟨ih29, hih⟩ : ∃ q, q = q_lp (fX3_seek_b29 L N ih3) (fun _ _ _ _ _ _ => none) n := ⟨_, rfl⟩
      rw [← hih] at hi29
      have hF : fX3_seek_b29 L N ih3 (q_lp (fX3_seek_b29 L N ih3) (fun _ _ _ _ _ _ => none) n) x1 x2 x4 x5 x6 u = some (r0, σ0) := hF
      rw [← hih] at hF
      clear hih
      unfold fX3_seek_b29 at hF
      refine lv_iload hx hb dX3_seek_29 (lv_at hl 5 rfl) ?_
      refine lv_iconst (v := 4) hx hb dX3_seek_31 (by decide) ?_
      refine sx_icmp_ge (tgt := 65) hx hb hF dX3_seek_32 (by decide) (fun hF => ?_) (fun hF => ?_)
      · refine sx_iinc (d := 1) (k := 3) (lv2 := [(0, .ref (a 6)), (1, .int x1), (2, .long x2), (5, .int x5), (6, .int x6)]) hx hb hF dX3_seek_65 hl rfl (by decide) (by decide) rfl (fun v4 hF ls hl => ?_)
        refine lv_goto (tgt := 3) hx hb dX3_seek_68 (by decide) ?_
        exact hi3 x1 x2 v4 u ls (lv_sub hl [1, 2, 3, 0] rfl) hF _ _ hP hS
      · refine lv_aload_n hx hb dX3_seek_35 rfl (lv_at hl 0 rfl) ?_
        refine gx_folders_store hx hb hts hown hK hP fl_X3_9 dX3_seek_36 ?_
        refine lv_iload hx hb dX3_seek_39 (lv_at hl 4 rfl) ?_
        refine lv_iload hx hb dX3_seek_41 (lv_at hl 5 rfl) ?_
        obtain ⟨r5, u6, hc7, hF⟩ := q_bnd_some hF
        refine sx_cl (Wd := (ax_W a cI L)) (σ1 := u6) (q_runV (Wd := (ax_W a cI L)) (σ := u) (q0 := 3) (ci := 6) (T := TX6) (N := 9) (As := [.int x5, .int x6]) (rest := []) hx hb hml hown hts hK hP (kt_X6_word hD hc7) cw_X3_52 rfl rfl ⟨Nat.le_of_ble_eq_true rfl, Nat.le_of_ble_eq_true rfl⟩ rfl rfl rfl hl.1 rfl (Nat.le_of_ble_eq_true rfl) dX3_seek_43) hS (fun H locs hP hS => ?_)
        refine lv_lload_n hx hb dX3_seek_46 rfl (lv_at hl 2 rfl) ?_
        refine W.lcmp hx hb dX3_seek_47 ?_
        refine sx_if_ne (tgt := 59) hx hb hF dX3_seek_48 (by decide) (fun hF => ?_) (fun hF => ?_)
        · refine sx_iinc (d := 1) (k := 5) (lv2 := [(0, .ref (a 6)), (1, .int x1), (2, .long x2), (4, .int x4), (5, .int x5)]) hx hb hF dX3_seek_59 hl rfl (by decide) (by decide) rfl (fun v8 hF ls hl => ?_)
          refine lv_goto (tgt := 29) hx hb dX3_seek_62 (by decide) ?_
          exact hi29 x1 x2 x4 x5 v8 u6 ls (lv_sub hl [1, 2, 3, 4, 5, 0] rfl) hF _ _ hP hS
        · refine lv_iconst (v := 4) hx hb dX3_seek_51 (by decide) ?_
          refine lv_iload hx hb dX3_seek_52 (lv_at hl 3 rfl) ?_
          refine lv_imul hx hb dX3_seek_54 ?_
          refine lv_iload hx hb dX3_seek_55 (lv_at hl 5 rfl) ?_
          refine lv_iadd hx hb dX3_seek_57 ?_
          exact sx_reti (Wd := (ax_W a cI L)) (σ := u6) hx hb hr hF hP hS hlocks dX3_seek_58
  have hB3 : ∀ (n : Nat) (x1 : Int32) (x2 : Int64) (x4 : Int32) (u : q_St) (ls : Array Slot), lv_has ls 7 [(0, .ref (a 6)), (1, .int x1), (2, .long x2), (4, .int x4)] → q_lp (fX3_seek_b3 L N) (fun _ _ _ _ => none) n x1 x2 x4 u = some (r0, σ0) → ∀ (H : Heap) (locs : List Loc), va_P D vwCl (ax_W a cI L u) H → va_S (ax_A a) s.heap H locs → W p l e (headSpec (Cond.code yX3_seek cX3_seek 7 (some .int) :: q_T) ({ frames := 4, cells := 0, slots := 0, locals := 90 } : Room)).room s m ([.ref (a 6), .int o1, .long o2] : List Value).toArray below meth c H locs 0 0 (MQ below (q_Qi D vwCl (ax_W a cI L) (ax_A a) r0 σ0) ([.ref (a 6), .int o1, .long o2] : List Value).toArray s 0 0 (ax_A a)) (F0 m 3 ls []) := by
    intro n
    induction n with
    | zero => intro x1 x2 x4 u ls hl hF; exact absurd (show (none : Option (Int32 × q_St)) = some _ from hF) (fun h => nomatch h)
    | succ n hi3 =>
      intro x1 x2 x4 u ls hl hF _ _ hP hS
      obtain ⟨ih3, hih⟩ : ∃ q, q = q_lp (fX3_seek_b3 L N) (fun _ _ _ _ => none) n := ⟨_, rfl⟩
      rw [← hih] at hi3
      have hF : fX3_seek_b3 L N (q_lp (fX3_seek_b3 L N) (fun _ _ _ _ => none) n) x1 x2 x4 u = some (r0, σ0) := hF
      rw [← hih] at hF
      clear hih
      unfold fX3_seek_b3 at hF
      refine lv_iload hx hb dX3_seek_3 (lv_at hl 3 rfl) ?_
      refine lv_bipush (v := 12) hx hb dX3_seek_5 (by decide) ?_
      refine sx_icmp_ge (tgt := 71) hx hb hF dX3_seek_7 (by decide) (fun hF => ?_) (fun hF => ?_)
      · refine lv_iconst (v := (-1)) hx hb dX3_seek_71 (by decide) ?_
        exact sx_reti (Wd := (ax_W a cI L)) (σ := u) hx hb hr hF hP hS hlocks dX3_seek_72
      · refine lv_aload_n hx hb dX3_seek_10 rfl (lv_at hl 0 rfl) ?_
        refine lv_iload_n hx hb dX3_seek_11 rfl (lv_at hl 1 rfl) ?_
        refine lv_iload hx hb dX3_seek_12 (lv_at hl 3 rfl) ?_
        obtain ⟨r1, u2, hc3, hF⟩ := q_bnd_some hF
        refine sx_ci (Wd := (ax_W a cI L)) (σ1 := u2) (q_runV (Wd := (ax_W a cI L)) (σ := u) (q0 := 6) (ci := 3) (T := TX3) (N := 5) (As := [.int x1, .int x4]) (rest := []) hx hb hml hown hts hK hP (kt_X3_blockAt hD hc3) cw_X3_49 rfl rfl ⟨Nat.le_of_ble_eq_true rfl, Nat.le_of_ble_eq_true rfl⟩ rfl rfl rfl hl.1 rfl (Nat.le_of_ble_eq_true rfl) dX3_seek_14) hS (fun H locs hP hS => ?_)
        refine lv_istore (lv' := [(5, .int r1), (0, .ref (a 6)), (1, .int x1), (2, .long x2), (4, .int x4)]) hx hb dX3_seek_17 hl (by decide) rfl (fun ls hl => ?_)
        refine lv_iload hx hb dX3_seek_19 (lv_at hl 0 rfl) ?_
        refine sx_if_ne (tgt := 26) hx hb hF dX3_seek_21 (by decide) (fun hF => ?_) (fun hF => ?_)
        · refine lv_iconst (v := 0) hx hb dX3_seek_26 (by decide) ?_
          refine lv_istore (lv' := [(6, .int 0), (5, .int r1), (0, .ref (a 6)), (1, .int x1), (2, .long x2), (4, .int x4)]) hx hb dX3_seek_27 hl (by decide) rfl (fun ls hl => ?_)
          exact hB29 ih3 hi3 N x1 x2 x4 r1 0 u2 ls (lv_sub hl [2, 3, 4, 5, 1, 0] rfl) hF _ _ hP hS
        · refine lv_iconst (v := (-1)) hx hb dX3_seek_24 (by decide) ?_
          exact sx_reti (Wd := (ax_W a cI L)) (σ := u2) hx hb hr hF hP hS hlocks dX3_seek_25
  unfold fX3_seek at hF
  refine lv_iconst (v := 0) hx hb dX3_seek_0 (by decide) ?_
  refine lv_istore (lv' := [(4, .int 0), (0, .ref (a 6)), (1, .int o1), (2, .long o2)]) hx hb dX3_seek_1 hl (by decide) rfl (fun ls hl => ?_)
  exact hB3 N o1 o2 0 u ls (lv_sub hl [1, 2, 3, 0] rfl) hF _ _ hP hS
set_option maxHeartbeats 4000000 in
set_option maxRecDepth 100000 in
theorem kt_X10_refusalToAdd {N : Nat} {l : Launch} {D : va_G} {a : Nat → Nat} {cI : Nat → ClassId} {L : Nat → Nat} (hD : ∀ σ, va_D (ax_A a) (ax_W a cI L σ)) {o1 : Int32} {o2 : Int64} {u σ0 : q_St} {r0 : Int32} (hF : fX10_refusalToAdd L N o1 o2 u = some (r0, σ0)) : Met l yX10_refusalToAdd (Cond.code yX10_refusalToAdd cX10_refusalToAdd 5 (some .int) :: q_T) ({ frames := 5, cells := 0, slots := 0, locals := 116 } : Room) (q_P D vwCl (ax_T cI) (ax_W a cI L) [.ref (a 0), .int o1, .long o2] u) (q_Qi D vwCl (ax_W a cI L) (ax_A a) r0 σ0) 0 0 (ax_A a) := by
  refine Met.ofW (cc := cX10_refusalToAdd) (maxL := 5) (ret := (some .int)) (by decide) rfl ?_
  intro p e s m args below meth c s₁ B hml hv
  obtain ⟨rfl, hP, hK⟩ := hv
  have hx := B.exec
  have hb := B.bytes
  have hr := B.returns
  have hts := q_ts (atoms_spec (ws := Cond.code yX10_refusalToAdd cX10_refusalToAdd 5 (some .int) :: q_T) B.pre)
  have hown : s.vm.findClass RX10 = some m.cls := findClass_of_methodNamed B.named
  have hlocks := B.notSynchronized
  have hS : va_S (ax_A a) s.heap s.heap [] := va_S.rf
  have hl := lv_entry ([.ref (a 0), .int o1, .long o2]) (n := 5) (Nat.le_of_ble_eq_true rfl)
  rw [lg_entry_eq]
  generalize (lg_sl ([.ref (a 0), .int o1, .long o2]) ++ List.replicate (5 - (lg_sl ([.ref (a 0), .int o1, .long o2])).length) Slot.unset).toArray = ls at hl ⊢
  have hl : lv_has ls 5 [(0, .ref (a 0)), (1, .int o1), (2, .long o2)] := hl
  unfold fX10_refusalToAdd at hF
  refine lv_aload_n hx hb dX10_refusalToAdd_0 rfl (lv_at hl 0 rfl) ?_
  refine lv_iload_n hx hb dX10_refusalToAdd_1 rfl (lv_at hl 1 rfl) ?_
  refine lv_lload_n hx hb dX10_refusalToAdd_2 rfl (lv_at hl 2 rfl) ?_
  obtain ⟨r1, u2, hc3, hF⟩ := q_bnd_some hF
  refine sx_ci (Wd := (ax_W a cI L)) (σ1 := u2) (q_runV (Wd := (ax_W a cI L)) (σ := u) (q0 := 0) (ci := 10) (T := TX10) (N := 11) (As := [.int o1, .long o2]) (rest := []) hx hb hml hown hts hK hP (kt_X10_refusalToGoBy hD hc3) cw_X10_145 rfl rfl ⟨Nat.le_of_ble_eq_true rfl, Nat.le_of_ble_eq_true rfl⟩ rfl rfl rfl hl.1 rfl (Nat.le_of_ble_eq_true rfl) dX10_refusalToAdd_3) hS (fun H locs hP hS => ?_)
  refine lv_istore (lv' := [(4, .int r1), (0, .ref (a 0)), (1, .int o1), (2, .long o2)]) hx hb dX10_refusalToAdd_6 hl (by decide) rfl (fun ls hl => ?_)
  refine lv_iload hx hb dX10_refusalToAdd_8 (lv_at hl 0 rfl) ?_
  refine sx_if_eq (tgt := 16) hx hb hF dX10_refusalToAdd_10 (by decide) (fun hF => ?_) (fun hF => ?_)
  · refine lv_aload_n hx hb dX10_refusalToAdd_16 rfl (lv_at hl 1 rfl) ?_
    refine gx_h_folders hx hb hts hown hK hP fl_X10_75 dX10_refusalToAdd_17 ?_
    refine lv_iload_n hx hb dX10_refusalToAdd_20 rfl (lv_at hl 2 rfl) ?_
    refine lv_lload_n hx hb dX10_refusalToAdd_21 rfl (lv_at hl 3 rfl) ?_
    obtain ⟨r4, u5, hc6, hF⟩ := q_bnd_some hF
    refine sx_ci (Wd := (ax_W a cI L)) (σ1 := u5) (q_runV (Wd := (ax_W a cI L)) (σ := u2) (q0 := 6) (ci := 3) (T := TX3) (N := 5) (As := [.int o1, .long o2]) (rest := []) hx hb hml hown hts hK hP (kt_X3_seek hD hc6) cw_X10_151 rfl rfl ⟨Nat.le_of_ble_eq_true rfl, Nat.le_of_ble_eq_true rfl⟩ rfl rfl rfl hl.1 rfl (Nat.le_of_ble_eq_true rfl) dX10_refusalToAdd_22) hS (fun H locs hP hS => ?_)
    refine lv_iconst (v := (-1)) hx hb dX10_refusalToAdd_25 (by decide) ?_
    refine sx_icmp_ne (tgt := 33) hx hb hF dX10_refusalToAdd_26 (by decide) (fun hF => ?_) (fun hF => ?_)
    · refine lv_bipush (v := (-13)) hx hb dX10_refusalToAdd_33 (by decide) ?_
      exact sx_reti (Wd := (ax_W a cI L)) (σ := u5) hx hb hr hF hP hS hlocks dX10_refusalToAdd_35
    · refine lv_iconst (v := 0) hx hb dX10_refusalToAdd_29 (by decide) ?_
      refine lv_goto (tgt := 35) hx hb dX10_refusalToAdd_30 (by decide) ?_
      exact sx_reti (Wd := (ax_W a cI L)) (σ := u5) hx hb hr hF hP hS hlocks dX10_refusalToAdd_35
  · refine lv_iload hx hb dX10_refusalToAdd_13 (lv_at hl 0 rfl) ?_
    exact sx_reti (Wd := (ax_W a cI L)) (σ := u2) hx hb hr hF hP hS hlocks dX10_refusalToAdd_15
set_option maxHeartbeats 4000000 in
set_option maxRecDepth 100000 in
theorem kt_X4_lowestFree {N : Nat} {l : Launch} {D : va_G} {a : Nat → Nat} {cI : Nat → ClassId} {L : Nat → Nat} (hD : ∀ σ, va_D (ax_A a) (ax_W a cI L σ))  {u σ0 : q_St} {r0 : Int32} (hF : fX4_lowestFree L N u = some (r0, σ0)) : Met l yX4_lowestFree (Cond.code yX4_lowestFree cX4_lowestFree 2 (some .int) :: q_T) ({ frames := 4, cells := 0, slots := 0, locals := 89 } : Room) (q_P D vwCl (ax_T cI) (ax_W a cI L) [.ref (a 5)] u) (q_Qi D vwCl (ax_W a cI L) (ax_A a) r0 σ0) 0 0 (ax_A a) := by
  refine Met.ofW (cc := cX4_lowestFree) (maxL := 2) (ret := (some .int)) (by decide) rfl ?_
  intro p e s m args below meth c s₁ B hml hv
  obtain ⟨rfl, hP, hK⟩ := hv
  have hx := B.exec
  have hb := B.bytes
  have hr := B.returns
  have hts := q_ts (atoms_spec (ws := Cond.code yX4_lowestFree cX4_lowestFree 2 (some .int) :: q_T) B.pre)
  have hown : s.vm.findClass RX4 = some m.cls := findClass_of_methodNamed B.named
  have hlocks := B.notSynchronized
  have hS : va_S (ax_A a) s.heap s.heap [] := va_S.rf
  have hl := lv_entry ([.ref (a 5)]) (n := 2) (Nat.le_of_ble_eq_true rfl)
  rw [lg_entry_eq]
  generalize (lg_sl ([.ref (a 5)]) ++ List.replicate (2 - (lg_sl ([.ref (a 5)])).length) Slot.unset).toArray = ls at hl ⊢
  have hl : lv_has ls 2 [(0, .ref (a 5))] := hl
  have hB2 : ∀ (n : Nat) (x1 : Int32) (u : q_St) (ls : Array Slot), lv_has ls 2 [(0, .ref (a 5)), (1, .int x1)] → q_lp (fX4_lowestFree_b2 L N) (fun _ _ => none) n x1 u = some (r0, σ0) → ∀ (H : Heap) (locs : List Loc), va_P D vwCl (ax_W a cI L u) H → va_S (ax_A a) s.heap H locs → W p l e (headSpec (Cond.code yX4_lowestFree cX4_lowestFree 2 (some .int) :: q_T) ({ frames := 4, cells := 0, slots := 0, locals := 89 } : Room)).room s m ([.ref (a 5)] : List Value).toArray below meth c H locs 0 0 (MQ below (q_Qi D vwCl (ax_W a cI L) (ax_A a) r0 σ0) ([.ref (a 5)] : List Value).toArray s 0 0 (ax_A a)) (F0 m 2 ls []) := by
    intro n
    induction n with
    | zero => intro x1 u ls hl hF; exact absurd (show (none : Option (Int32 × q_St)) = some _ from hF) (fun h => nomatch h)
    | succ n hi2 =>
      intro x1 u ls hl hF _ _ hP hS
      obtain ⟨ih2, hih⟩ : ∃ q, q = q_lp (fX4_lowestFree_b2 L N) (fun _ _ => none) n := ⟨_, rfl⟩
      rw [← hih] at hi2
      have hF : fX4_lowestFree_b2 L N (q_lp (fX4_lowestFree_b2 L N) (fun _ _ => none) n) x1 u = some (r0, σ0) := hF
      rw [← hih] at hF
      clear hih
      unfold fX4_lowestFree_b2 at hF
      refine lv_iload_n hx hb dX4_lowestFree_2 rfl (lv_at hl 1 rfl) ?_
      refine lv_bipush (v := 64) hx hb dX4_lowestFree_3 (by decide) ?_
      refine sx_icmp_ge (tgt := 24) hx hb hF dX4_lowestFree_5 (by decide) (fun hF => ?_) (fun hF => ?_)
      · refine lv_iconst (v := (-1)) hx hb dX4_lowestFree_24 (by decide) ?_
        exact sx_reti (Wd := (ax_W a cI L)) (σ := u) hx hb hr hF hP hS hlocks dX4_lowestFree_25
      · refine lv_aload_n hx hb dX4_lowestFree_8 rfl (lv_at hl 0 rfl) ?_
        refine lv_iload_n hx hb dX4_lowestFree_9 rfl (lv_at hl 1 rfl) ?_
        obtain ⟨r1, u2, hc3, hF⟩ := q_bnd_some hF
        refine sx_ci (Wd := (ax_W a cI L)) (σ1 := u2) (q_runV (Wd := (ax_W a cI L)) (σ := u) (q0 := 5) (ci := 4) (T := TX4) (N := 2) (As := [.int x1]) (rest := []) hx hb hml hown hts hK hP (kt_X4_kindOf hD hc3) cw_X4_29 rfl rfl ⟨Nat.le_of_ble_eq_true rfl, Nat.le_of_ble_eq_true rfl⟩ rfl rfl rfl hl.1 rfl (Nat.le_of_ble_eq_true rfl) dX4_lowestFree_10) hS (fun H locs hP hS => ?_)
        refine sx_if_ne (tgt := 18) hx hb hF dX4_lowestFree_13 (by decide) (fun hF => ?_) (fun hF => ?_)
        · refine sx_iinc (d := 1) (k := 1) (lv2 := [(0, .ref (a 5))]) hx hb hF dX4_lowestFree_18 hl rfl (by decide) (by decide) rfl (fun v4 hF ls hl => ?_)
          refine lv_goto (tgt := 2) hx hb dX4_lowestFree_21 (by decide) ?_
          exact hi2 v4 u2 ls (lv_sub hl [1, 0] rfl) hF _ _ hP hS
        · refine lv_iload_n hx hb dX4_lowestFree_16 rfl (lv_at hl 1 rfl) ?_
          exact sx_reti (Wd := (ax_W a cI L)) (σ := u2) hx hb hr hF hP hS hlocks dX4_lowestFree_17
  unfold fX4_lowestFree at hF
  refine lv_iconst (v := 0) hx hb dX4_lowestFree_0 (by decide) ?_
  refine lv_istore_n (lv' := [(1, .int 0), (0, .ref (a 5))]) hx hb dX4_lowestFree_1 rfl hl (by decide) rfl (fun ls hl => ?_)
  exact hB2 N 0 u ls (lv_sub hl [1, 0] rfl) hF _ _ hP hS
set_option maxHeartbeats 4000000 in
set_option maxRecDepth 100000 in
theorem kt_J13_bitCount {N : Nat} {l : Launch} {D : va_G} {a : Nat → Nat} {cI : Nat → ClassId} {L : Nat → Nat} (hD : ∀ σ, va_D (ax_A a) (ax_W a cI L σ)) {o0 : Int64} {u σ0 : q_St} {r0 : Int32} (hF : fJ13_bitCount L N o0 u = some (r0, σ0)) : Met l yJ13_bitCount_95d88 (Cond.code yJ13_bitCount_95d88 cJ13_bitCount_95d88 2 (some .int) :: q_T) ({ frames := 0, cells := 0, slots := 0, locals := 0 } : Room) (q_P D vwCl (ax_T cI) (ax_W a cI L) [.long o0] u) (q_Qi D vwCl (ax_W a cI L) (ax_A a) r0 σ0) 0 0 (ax_A a) := by
  refine Met.ofW (cc := cJ13_bitCount_95d88) (maxL := 2) (ret := (some .int)) (by decide) rfl ?_
  intro p e s m args below meth c s₁ B hml hv
  obtain ⟨rfl, hP, hK⟩ := hv
  have hx := B.exec
  have hb := B.bytes
  have hr := B.returns
  have hts := q_ts (atoms_spec (ws := Cond.code yJ13_bitCount_95d88 cJ13_bitCount_95d88 2 (some .int) :: q_T) B.pre)
  have hown : s.vm.findClass RJ13 = some m.cls := findClass_of_methodNamed B.named
  have hlocks := B.notSynchronized
  have hS : va_S (ax_A a) s.heap s.heap [] := va_S.rf
  have hl := lv_entry ([.long o0]) (n := 2) (Nat.le_of_ble_eq_true rfl)
  rw [lg_entry_eq]
  generalize (lg_sl ([.long o0]) ++ List.replicate (2 - (lg_sl ([.long o0])).length) Slot.unset).toArray = ls at hl ⊢
  have hl : lv_has ls 2 [(0, .long o0)] := hl
  unfold fJ13_bitCount at hF
  refine lv_lload_n hx hb dJ13_bitCount_95d88_0 rfl (lv_at hl 0 rfl) ?_
  refine lv_lload_n hx hb dJ13_bitCount_95d88_1 rfl (lv_at hl 0 rfl) ?_
  refine lv_iconst (v := 1) hx hb dJ13_bitCount_95d88_2 (by decide) ?_
  refine lv_lushr (v := q_lush o0 1) hx hb dJ13_bitCount_95d88_3 rfl ?_
  refine lv_ldc2 (v := 6148914691236517205) hx hb hown (hts _ kc_J13_314) dJ13_bitCount_95d88_4 ?_
  refine lv_land hx hb dJ13_bitCount_95d88_7 ?_
  refine lv_lsub hx hb dJ13_bitCount_95d88_8 ?_
  refine sx_lstore_n (lv2 := []) hx hb hF dJ13_bitCount_95d88_9 rfl hl (by decide) rfl (fun v1 hF ls hl => ?_)
  refine lv_lload_n hx hb dJ13_bitCount_95d88_10 rfl (lv_at hl 0 rfl) ?_
  refine lv_ldc2 (v := 3689348814741910323) hx hb hown (hts _ kc_J13_316) dJ13_bitCount_95d88_11 ?_
  refine lv_land hx hb dJ13_bitCount_95d88_14 ?_
  refine lv_lload_n hx hb dJ13_bitCount_95d88_15 rfl (lv_at hl 0 rfl) ?_
  refine lv_iconst (v := 2) hx hb dJ13_bitCount_95d88_16 (by decide) ?_
  refine lv_lushr (v := q_lush v1 2) hx hb dJ13_bitCount_95d88_17 rfl ?_
  refine lv_ldc2 (v := 3689348814741910323) hx hb hown (hts _ kc_J13_316) dJ13_bitCount_95d88_18 ?_
  refine lv_land hx hb dJ13_bitCount_95d88_21 ?_
  refine lv_ladd hx hb dJ13_bitCount_95d88_22 ?_
  refine sx_lstore_n (lv2 := []) hx hb hF dJ13_bitCount_95d88_23 rfl hl (by decide) rfl (fun v2 hF ls hl => ?_)
  refine lv_lload_n hx hb dJ13_bitCount_95d88_24 rfl (lv_at hl 0 rfl) ?_
  refine lv_lload_n hx hb dJ13_bitCount_95d88_25 rfl (lv_at hl 0 rfl) ?_
  refine lv_iconst (v := 4) hx hb dJ13_bitCount_95d88_26 (by decide) ?_
  refine lv_lushr (v := q_lush v2 4) hx hb dJ13_bitCount_95d88_27 rfl ?_
  refine lv_ladd hx hb dJ13_bitCount_95d88_28 ?_
  refine lv_ldc2 (v := 1085102592571150095) hx hb hown (hts _ kc_J13_318) dJ13_bitCount_95d88_29 ?_
  refine lv_land hx hb dJ13_bitCount_95d88_32 ?_
  refine sx_lstore_n (lv2 := []) hx hb hF dJ13_bitCount_95d88_33 rfl hl (by decide) rfl (fun v3 hF ls hl => ?_)
  refine lv_lload_n hx hb dJ13_bitCount_95d88_34 rfl (lv_at hl 0 rfl) ?_
  refine lv_lload_n hx hb dJ13_bitCount_95d88_35 rfl (lv_at hl 0 rfl) ?_
  refine lv_bipush (v := 8) hx hb dJ13_bitCount_95d88_36 (by decide) ?_
  refine lv_lushr (v := q_lush v3 8) hx hb dJ13_bitCount_95d88_38 rfl ?_
  refine lv_ladd hx hb dJ13_bitCount_95d88_39 ?_
  refine sx_lstore_n (lv2 := []) hx hb hF dJ13_bitCount_95d88_40 rfl hl (by decide) rfl (fun v4 hF ls hl => ?_)
  refine lv_lload_n hx hb dJ13_bitCount_95d88_41 rfl (lv_at hl 0 rfl) ?_
  refine lv_lload_n hx hb dJ13_bitCount_95d88_42 rfl (lv_at hl 0 rfl) ?_
  refine lv_bipush (v := 16) hx hb dJ13_bitCount_95d88_43 (by decide) ?_
  refine lv_lushr (v := q_lush v4 16) hx hb dJ13_bitCount_95d88_45 rfl ?_
  refine lv_ladd hx hb dJ13_bitCount_95d88_46 ?_
  refine sx_lstore_n (lv2 := []) hx hb hF dJ13_bitCount_95d88_47 rfl hl (by decide) rfl (fun v5 hF ls hl => ?_)
  refine lv_lload_n hx hb dJ13_bitCount_95d88_48 rfl (lv_at hl 0 rfl) ?_
  refine lv_lload_n hx hb dJ13_bitCount_95d88_49 rfl (lv_at hl 0 rfl) ?_
  refine lv_bipush (v := 32) hx hb dJ13_bitCount_95d88_50 (by decide) ?_
  refine lv_lushr (v := q_lush v5 32) hx hb dJ13_bitCount_95d88_52 rfl ?_
  refine lv_ladd hx hb dJ13_bitCount_95d88_53 ?_
  refine sx_lstore_n (lv2 := []) hx hb hF dJ13_bitCount_95d88_54 rfl hl (by decide) rfl (fun v6 hF ls hl => ?_)
  refine lv_lload_n hx hb dJ13_bitCount_95d88_55 rfl (lv_at hl 0 rfl) ?_
  refine lv_l2i (v := Int64.toInt32 v6) hx hb dJ13_bitCount_95d88_56 rfl ?_
  refine lv_bipush (v := 127) hx hb dJ13_bitCount_95d88_57 (by decide) ?_
  refine lv_iand hx hb dJ13_bitCount_95d88_59 ?_
  exact sx_reti (Wd := (ax_W a cI L)) (σ := u) hx hb hr hF hP hS hlocks dJ13_bitCount_95d88_60
set_option maxHeartbeats 4000000 in
set_option maxRecDepth 100000 in
theorem kt_X5_freeCount {N : Nat} {l : Launch} {D : va_G} {a : Nat → Nat} {cI : Nat → ClassId} {L : Nat → Nat} (hD : ∀ σ, va_D (ax_A a) (ax_W a cI L σ))  {u σ0 : q_St} {r0 : Int32} (hF : fX5_freeCount L N u = some (r0, σ0)) : Met l yX5_freeCount (Cond.code yX5_freeCount cX5_freeCount 3 (some .int) :: q_T) ({ frames := 2, cells := 0, slots := 0, locals := 46 } : Room) (q_P D vwCl (ax_T cI) (ax_W a cI L) [.ref (a 4)] u) (q_Qi D vwCl (ax_W a cI L) (ax_A a) r0 σ0) 0 0 (ax_A a) := by
  refine Met.ofW (cc := cX5_freeCount) (maxL := 3) (ret := (some .int)) (by decide) rfl ?_
  intro p e s m args below meth c s₁ B hml hv
  obtain ⟨rfl, hP, hK⟩ := hv
  have hx := B.exec
  have hb := B.bytes
  have hr := B.returns
  have hts := q_ts (atoms_spec (ws := Cond.code yX5_freeCount cX5_freeCount 3 (some .int) :: q_T) B.pre)
  have hown : s.vm.findClass RX5 = some m.cls := findClass_of_methodNamed B.named
  have hlocks := B.notSynchronized
  have hS : va_S (ax_A a) s.heap s.heap [] := va_S.rf
  have hl := lv_entry ([.ref (a 4)]) (n := 3) (Nat.le_of_ble_eq_true rfl)
  rw [lg_entry_eq]
  generalize (lg_sl ([.ref (a 4)]) ++ List.replicate (3 - (lg_sl ([.ref (a 4)])).length) Slot.unset).toArray = ls at hl ⊢
  have hl : lv_has ls 3 [(0, .ref (a 4))] := hl
  have hB4 : ∀ (n : Nat) (x1 : Int32) (x2 : Int32) (u : q_St) (ls : Array Slot), lv_has ls 3 [(0, .ref (a 4)), (1, .int x1), (2, .int x2)] → q_lp (fX5_freeCount_b4 L N) (fun _ _ _ => none) n x1 x2 u = some (r0, σ0) → ∀ (H : Heap) (locs : List Loc), va_P D vwCl (ax_W a cI L u) H → va_S (ax_A a) s.heap H locs → W p l e (headSpec (Cond.code yX5_freeCount cX5_freeCount 3 (some .int) :: q_T) ({ frames := 2, cells := 0, slots := 0, locals := 46 } : Room)).room s m ([.ref (a 4)] : List Value).toArray below meth c H locs 0 0 (MQ below (q_Qi D vwCl (ax_W a cI L) (ax_A a) r0 σ0) ([.ref (a 4)] : List Value).toArray s 0 0 (ax_A a)) (F0 m 4 ls []) := by
    intro n
    induction n with
    | zero => intro x1 x2 u ls hl hF; exact absurd (show (none : Option (Int32 × q_St)) = some _ from hF) (fun h => nomatch h)
    | succ n hi4 =>
      intro x1 x2 u ls hl hF _ _ hP hS
      obtain ⟨ih4, hih⟩ : ∃ q, q = q_lp (fX5_freeCount_b4 L N) (fun _ _ _ => none) n := ⟨_, rfl⟩
      rw [← hih] at hi4
      have hF : fX5_freeCount_b4 L N (q_lp (fX5_freeCount_b4 L N) (fun _ _ _ => none) n) x1 x2 u = some (r0, σ0) := hF
      rw [← hih] at hF
      clear hih
      unfold fX5_freeCount_b4 at hF
      refine lv_iload_n hx hb dX5_freeCount_4 rfl (lv_at hl 2 rfl) ?_
      refine lv_aload_n hx hb dX5_freeCount_5 rfl (lv_at hl 0 rfl) ?_
      refine gx_space_mapWords hx hb hts hown hK hP fl_X5_26 dX5_freeCount_6 ?_
      refine sx_icmp_ge (tgt := 42) hx hb hF dX5_freeCount_9 (by decide) (fun hF => ?_) (fun hF => ?_)
      · refine lv_aload_n hx hb dX5_freeCount_42 rfl (lv_at hl 0 rfl) ?_
        refine gx_space_sectors hx hb hts hown hK hP fl_X5_21 dX5_freeCount_43 ?_
        refine lv_iload_n hx hb dX5_freeCount_46 rfl (lv_at hl 1 rfl) ?_
        refine lv_isub hx hb dX5_freeCount_47 ?_
        exact sx_reti (Wd := (ax_W a cI L)) (σ := u) hx hb hr hF hP hS hlocks dX5_freeCount_48
      · refine lv_iload_n hx hb dX5_freeCount_12 rfl (lv_at hl 1 rfl) ?_
        refine lv_aload_n hx hb dX5_freeCount_13 rfl (lv_at hl 0 rfl) ?_
        refine gx_space_store hx hb hts hown hK hP fl_X5_9 dX5_freeCount_14 ?_
        refine lv_bipush (v := 80) hx hb dX5_freeCount_17 (by decide) ?_
        refine lv_iload_n hx hb dX5_freeCount_19 rfl (lv_at hl 2 rfl) ?_
        refine lv_bipush (v := 8) hx hb dX5_freeCount_20 (by decide) ?_
        refine lv_idiv hx hb dX5_freeCount_22 (by decide) ?_
        refine lv_iadd hx hb dX5_freeCount_23 ?_
        refine lv_iload_n hx hb dX5_freeCount_24 rfl (lv_at hl 2 rfl) ?_
        refine lv_bipush (v := 8) hx hb dX5_freeCount_25 (by decide) ?_
        refine lv_irem hx hb dX5_freeCount_27 (by decide) ?_
        obtain ⟨r1, u2, hc3, hF⟩ := q_bnd_some hF
        refine sx_cl (Wd := (ax_W a cI L)) (σ1 := u2) (q_runV (Wd := (ax_W a cI L)) (σ := u) (q0 := 3) (ci := 6) (T := TX6) (N := 9) (As := [.int (80 + (x2 / 8)), .int (x2 - x2 / 8 * 8)]) (rest := [.int x1]) hx hb hml hown hts hK hP (kt_X6_word hD hc3) cw_X5_35 rfl rfl ⟨Nat.le_of_ble_eq_true rfl, Nat.le_of_ble_eq_true rfl⟩ rfl rfl rfl hl.1 rfl (Nat.le_of_ble_eq_true rfl) dX5_freeCount_28) hS (fun H locs hP hS => ?_)
        obtain ⟨r4, u5, hc6, hF⟩ := q_bnd_some hF
        refine sx_ci (Wd := (ax_W a cI L)) (σ1 := u5) (q_runS (Wd := (ax_W a cI L)) (σ := u2) (As := [.long r1]) (rest := [.int x1]) hx hb hml hown hts hK hP (kt_J13_bitCount hD hc6) cw_X5_48 rfl rfl ⟨Nat.le_of_ble_eq_true rfl, Nat.le_of_ble_eq_true rfl⟩ rfl hl.1 rfl (Nat.le_of_ble_eq_true rfl) dX5_freeCount_31) hS (fun H locs hP hS => ?_)
        refine lv_iadd hx hb dX5_freeCount_34 ?_
        refine sx_istore_n (lv2 := [(0, .ref (a 4)), (2, .int x2)]) hx hb hF dX5_freeCount_35 rfl hl (by decide) rfl (fun v7 hF ls hl => ?_)
        refine sx_iinc (d := 1) (k := 2) (lv2 := [(1, .int v7), (0, .ref (a 4))]) hx hb hF dX5_freeCount_36 hl rfl (by decide) (by decide) rfl (fun v8 hF ls hl => ?_)
        refine lv_goto (tgt := 4) hx hb dX5_freeCount_39 (by decide) ?_
        exact hi4 v7 v8 u5 ls (lv_sub hl [2, 1, 0] rfl) hF _ _ hP hS
  unfold fX5_freeCount at hF
  refine lv_iconst (v := 0) hx hb dX5_freeCount_0 (by decide) ?_
  refine lv_istore_n (lv' := [(1, .int 0), (0, .ref (a 4))]) hx hb dX5_freeCount_1 rfl hl (by decide) rfl (fun ls hl => ?_)
  refine lv_iconst (v := 0) hx hb dX5_freeCount_2 (by decide) ?_
  refine lv_istore_n (lv' := [(2, .int 0), (1, .int 0), (0, .ref (a 4))]) hx hb dX5_freeCount_3 rfl hl (by decide) rfl (fun ls hl => ?_)
  exact hB4 N 0 0 u ls (lv_sub hl [2, 1, 0] rfl) hF _ _ hP hS
set_option maxHeartbeats 4000000 in
set_option maxRecDepth 100000 in
theorem kt_X3_hasRoom {N : Nat} {l : Launch} {D : va_G} {a : Nat → Nat} {cI : Nat → ClassId} {L : Nat → Nat} (hD : ∀ σ, va_D (ax_A a) (ax_W a cI L σ)) {o1 : Int32} {o2 : Int32} {u σ0 : q_St} {r0 : Int32} (hF : fX3_hasRoom L N o1 o2 u = some (r0, σ0)) : Met l yX3_hasRoom (Cond.code yX3_hasRoom cX3_hasRoom 3 (some .boolean) :: q_T) ({ frames := 5, cells := 0, slots := 0, locals := 116 } : Room) (q_P D vwCl (ax_T cI) (ax_W a cI L) [.ref (a 6), .int o1, .int o2] u) (q_Qi D vwCl (ax_W a cI L) (ax_A a) r0 σ0) 0 0 (ax_A a) := by
  refine Met.ofW (cc := cX3_hasRoom) (maxL := 3) (ret := (some .boolean)) (by decide) rfl ?_
  intro p e s m args below meth c s₁ B hml hv
  obtain ⟨rfl, hP, hK⟩ := hv
  have hx := B.exec
  have hb := B.bytes
  have hr := B.returns
  have hts := q_ts (atoms_spec (ws := Cond.code yX3_hasRoom cX3_hasRoom 3 (some .boolean) :: q_T) B.pre)
  have hown : s.vm.findClass RX3 = some m.cls := findClass_of_methodNamed B.named
  have hlocks := B.notSynchronized
  have hS : va_S (ax_A a) s.heap s.heap [] := va_S.rf
  have hl := lv_entry ([.ref (a 6), .int o1, .int o2]) (n := 3) (Nat.le_of_ble_eq_true rfl)
  rw [lg_entry_eq]
  generalize (lg_sl ([.ref (a 6), .int o1, .int o2]) ++ List.replicate (3 - (lg_sl ([.ref (a 6), .int o1, .int o2])).length) Slot.unset).toArray = ls at hl ⊢
  have hl : lv_has ls 3 [(0, .ref (a 6)), (1, .int o1), (2, .int o2)] := hl
  unfold fX3_hasRoom at hF
  refine lv_aload_n hx hb dX3_hasRoom_0 rfl (lv_at hl 0 rfl) ?_
  refine lv_iload_n hx hb dX3_hasRoom_1 rfl (lv_at hl 1 rfl) ?_
  refine lv_lconst (v := 0) hx hb dX3_hasRoom_2 (by decide) ?_
  obtain ⟨r1, u2, hc3, hF⟩ := q_bnd_some hF
  refine sx_ci (Wd := (ax_W a cI L)) (σ1 := u2) (q_runV (Wd := (ax_W a cI L)) (σ := u) (q0 := 6) (ci := 3) (T := TX3) (N := 5) (As := [.int o1, .long 0]) (rest := []) hx hb hml hown hts hK hP (kt_X3_seek hD hc3) cw_X3_68 rfl rfl ⟨Nat.le_of_ble_eq_true rfl, Nat.le_of_ble_eq_true rfl⟩ rfl rfl rfl hl.1 rfl (Nat.le_of_ble_eq_true rfl) dX3_hasRoom_3) hS (fun H locs hP hS => ?_)
  refine lv_iconst (v := (-1)) hx hb dX3_hasRoom_6 (by decide) ?_
  refine sx_icmp_eq (tgt := 12) hx hb hF dX3_hasRoom_7 (by decide) (fun hF => ?_) (fun hF => ?_)
  · refine lv_aload_n hx hb dX3_hasRoom_12 rfl (lv_at hl 0 rfl) ?_
    refine lv_iload_n hx hb dX3_hasRoom_13 rfl (lv_at hl 1 rfl) ?_
    refine lv_bipush (v := 11) hx hb dX3_hasRoom_14 (by decide) ?_
    obtain ⟨r4, u5, hc6, hF⟩ := q_bnd_some hF
    refine sx_ci (Wd := (ax_W a cI L)) (σ1 := u5) (q_runV (Wd := (ax_W a cI L)) (σ := u2) (q0 := 6) (ci := 3) (T := TX3) (N := 5) (As := [.int o1, .int 11]) (rest := []) hx hb hml hown hts hK hP (kt_X3_blockAt hD hc6) cw_X3_49 rfl rfl ⟨Nat.le_of_ble_eq_true rfl, Nat.le_of_ble_eq_true rfl⟩ rfl rfl rfl hl.1 rfl (Nat.le_of_ble_eq_true rfl) dX3_hasRoom_16) hS (fun H locs hP hS => ?_)
    refine sx_if_ne (tgt := 37) hx hb hF dX3_hasRoom_19 (by decide) (fun hF => ?_) (fun hF => ?_)
    · refine lv_iconst (v := 0) hx hb dX3_hasRoom_37 (by decide) ?_
      exact sx_retz (Wd := (ax_W a cI L)) (σ := u5) hx hb hr (by decide) hF hP hS hlocks dX3_hasRoom_38
    · refine lv_aload_n hx hb dX3_hasRoom_22 rfl (lv_at hl 0 rfl) ?_
      refine gx_folders_space hx hb hts hown hK hP fl_X3_15 dX3_hasRoom_23 ?_
      obtain ⟨r7, u8, hc9, hF⟩ := q_bnd_some hF
      refine sx_ci (Wd := (ax_W a cI L)) (σ1 := u8) (q_runV (Wd := (ax_W a cI L)) (σ := u5) (q0 := 4) (ci := 5) (T := TX5) (N := 6) (As := []) (rest := []) hx hb hml hown hts hK hP (kt_X5_freeCount hD hc9) cw_X3_72 rfl rfl ⟨Nat.le_of_ble_eq_true rfl, Nat.le_of_ble_eq_true rfl⟩ rfl rfl rfl hl.1 rfl (Nat.le_of_ble_eq_true rfl) dX3_hasRoom_26) hS (fun H locs hP hS => ?_)
      refine lv_iload_n hx hb dX3_hasRoom_29 rfl (lv_at hl 2 rfl) ?_
      refine sx_icmp_le (tgt := 37) hx hb hF dX3_hasRoom_30 (by decide) (fun hF => ?_) (fun hF => ?_)
      · refine lv_iconst (v := 0) hx hb dX3_hasRoom_37 (by decide) ?_
        exact sx_retz (Wd := (ax_W a cI L)) (σ := u8) hx hb hr (by decide) hF hP hS hlocks dX3_hasRoom_38
      · refine lv_iconst (v := 1) hx hb dX3_hasRoom_33 (by decide) ?_
        refine lv_goto (tgt := 38) hx hb dX3_hasRoom_34 (by decide) ?_
        exact sx_retz (Wd := (ax_W a cI L)) (σ := u8) hx hb hr (by decide) hF hP hS hlocks dX3_hasRoom_38
  · refine lv_iconst (v := 1) hx hb dX3_hasRoom_10 (by decide) ?_
    exact sx_retz (Wd := (ax_W a cI L)) (σ := u2) hx hb hr (by decide) hF hP hS hlocks dX3_hasRoom_11
set_option maxHeartbeats 4000000 in
set_option maxRecDepth 100000 in
theorem kt_X6_clear {N : Nat} {l : Launch} {D : va_G} {a : Nat → Nat} {cI : Nat → ClassId} {L : Nat → Nat} (hD : ∀ σ, va_D (ax_A a) (ax_W a cI L σ)) {o1 : Int32} {u σ0 : q_St} {r0 : Unit} (hF : fX6_clear L N o1 u = some (r0, σ0)) : Met l yX6_clear (Cond.code yX6_clear cX6_clear 3 none :: q_T) ({ frames := 0, cells := 0, slots := 0, locals := 0 } : Room) (q_P D vwCl (ax_T cI) (ax_W a cI L) [.ref (a 3), .int o1] u) (q_Qv D vwCl (ax_W a cI L) (ax_A a) σ0) 0 0 (ax_A a) := by
  refine Met.ofW (cc := cX6_clear) (maxL := 3) (ret := none) (by decide) rfl ?_
  intro p e s m args below meth c s₁ B hml hv
  obtain ⟨rfl, hP, hK⟩ := hv
  have hx := B.exec
  have hb := B.bytes
  have hr := B.returns
  have hts := q_ts (atoms_spec (ws := Cond.code yX6_clear cX6_clear 3 none :: q_T) B.pre)
  have hown : s.vm.findClass RX6 = some m.cls := findClass_of_methodNamed B.named
  have hlocks := B.notSynchronized
  have hS : va_S (ax_A a) s.heap s.heap [] := va_S.rf
  have hl := lv_entry ([.ref (a 3), .int o1]) (n := 3) (Nat.le_of_ble_eq_true rfl)
  rw [lg_entry_eq]
  generalize (lg_sl ([.ref (a 3), .int o1]) ++ List.replicate (3 - (lg_sl ([.ref (a 3), .int o1])).length) Slot.unset).toArray = ls at hl ⊢
  have hl : lv_has ls 3 [(0, .ref (a 3)), (1, .int o1)] := hl
  have hB42 : ∀ (n : Nat) (x1 : Int32) (x2 : Int32) (u : q_St) (ls : Array Slot), lv_has ls 3 [(0, .ref (a 3)), (1, .int x1), (2, .int x2)] → q_lp (fX6_clear_b42 L N) (fun _ _ _ => none) n x1 x2 u = some (r0, σ0) → ∀ (H : Heap) (locs : List Loc), va_P D vwCl (ax_W a cI L u) H → va_S (ax_A a) s.heap H locs → W p l e (headSpec (Cond.code yX6_clear cX6_clear 3 none :: q_T) ({ frames := 0, cells := 0, slots := 0, locals := 0 } : Room)).room s m ([.ref (a 3), .int o1] : List Value).toArray below meth c H locs 0 0 (MQ below (q_Qv D vwCl (ax_W a cI L) (ax_A a) σ0) ([.ref (a 3), .int o1] : List Value).toArray s 0 0 (ax_A a)) (F0 m 42 ls []) := by
    intro n
    induction n with
    | zero => intro x1 x2 u ls hl hF; exact absurd (show (none : Option (Unit × q_St)) = some _ from hF) (fun h => nomatch h)
    | succ n hi42 =>
      intro x1 x2 u ls hl hF _ _ hP hS
      obtain ⟨ih42, hih⟩ : ∃ q, q = q_lp (fX6_clear_b42 L N) (fun _ _ _ => none) n := ⟨_, rfl⟩
      rw [← hih] at hi42
      have hF : fX6_clear_b42 L N (q_lp (fX6_clear_b42 L N) (fun _ _ _ => none) n) x1 x2 u = some (r0, σ0) := hF
      rw [← hih] at hF
      clear hih
      unfold fX6_clear_b42 at hF
      refine lv_iload_n hx hb dX6_clear_42 rfl (lv_at hl 2 rfl) ?_
      refine lv_bipush (v := 8) hx hb dX6_clear_43 (by decide) ?_
      refine sx_icmp_ge (tgt := 66) hx hb hF dX6_clear_45 (by decide) (fun hF => ?_) (fun hF => ?_)
      · exact sx_retv (Wd := (ax_W a cI L)) (σ := u) hx hb hr hF hP hS hlocks dX6_clear_66
      · refine lv_aload_n hx hb dX6_clear_48 rfl (lv_at hl 0 rfl) ?_
        refine gx_store_memory hx hb hts hown hK hP fl_X6_25 dX6_clear_49 ?_
        refine lv_iload_n hx hb dX6_clear_52 rfl (lv_at hl 1 rfl) ?_
        refine lv_bipush (v := 8) hx hb dX6_clear_53 (by decide) ?_
        refine lv_imul hx hb dX6_clear_55 ?_
        refine lv_iload_n hx hb dX6_clear_56 rfl (lv_at hl 2 rfl) ?_
        refine lv_iadd hx hb dX6_clear_57 ?_
        refine lv_lconst (v := 0) hx hb dX6_clear_58 (by decide) ?_
        refine ux_store_memory hx hb hK hP hD hS hF dX6_clear_59 (fun u2 H locs hF hP hS => ?_)
        refine sx_iinc (d := 1) (k := 2) (lv2 := [(0, .ref (a 3)), (1, .int x1)]) hx hb hF dX6_clear_60 hl rfl (by decide) (by decide) rfl (fun v3 hF ls hl => ?_)
        refine lv_goto (tgt := 42) hx hb dX6_clear_63 (by decide) ?_
        exact hi42 x1 v3 u2 ls (lv_sub hl [1, 2, 0] rfl) hF _ _ hP hS
  have hB40 : ∀ (x1 : Int32) (u : q_St) (ls : Array Slot), lv_has ls 3 [(0, .ref (a 3)), (1, .int x1)] → fX6_clear_b40 L N x1 u = some (r0, σ0) → ∀ (H : Heap) (locs : List Loc), va_P D vwCl (ax_W a cI L u) H → va_S (ax_A a) s.heap H locs → W p l e (headSpec (Cond.code yX6_clear cX6_clear 3 none :: q_T) ({ frames := 0, cells := 0, slots := 0, locals := 0 } : Room)).room s m ([.ref (a 3), .int o1] : List Value).toArray below meth c H locs 0 0 (MQ below (q_Qv D vwCl (ax_W a cI L) (ax_A a) σ0) ([.ref (a 3), .int o1] : List Value).toArray s 0 0 (ax_A a)) (F0 m 40 ls []) := by
    intro x1 u ls hl hF _ _ hP hS
    unfold fX6_clear_b40 at hF
    refine lv_iconst (v := 0) hx hb dX6_clear_40 (by decide) ?_
    refine lv_istore_n (lv' := [(2, .int 0), (0, .ref (a 3)), (1, .int x1)]) hx hb dX6_clear_41 rfl hl (by decide) rfl (fun ls hl => ?_)
    exact hB42 N x1 0 u ls (lv_sub hl [1, 2, 0] rfl) hF _ _ hP hS
  unfold fX6_clear at hF
  refine lv_iload_n hx hb dX6_clear_0 rfl (lv_at hl 1 rfl) ?_
  refine sx_if_lt (tgt := 13) hx hb hF dX6_clear_1 (by decide) (fun hF => ?_) (fun hF => ?_)
  · exact sx_retv (Wd := (ax_W a cI L)) (σ := u) hx hb hr hF hP hS hlocks dX6_clear_13
  · refine lv_iload_n hx hb dX6_clear_4 rfl (lv_at hl 1 rfl) ?_
    refine lv_aload_n hx hb dX6_clear_5 rfl (lv_at hl 0 rfl) ?_
    refine gx_store_dirty hx hb hts hown hK hP fl_X6_29 dX6_clear_6 ?_
    refine nx_store_dirty hx hb hK hP dX6_clear_9 ?_
    refine sx_icmp_lt (tgt := 14) hx hb hF dX6_clear_10 (by decide) (fun hF => ?_) (fun hF => ?_)
    · refine lv_aload_n hx hb dX6_clear_14 rfl (lv_at hl 0 rfl) ?_
      refine gx_store_dirty hx hb hts hown hK hP fl_X6_29 dX6_clear_15 ?_
      refine lv_iload_n hx hb dX6_clear_18 rfl (lv_at hl 1 rfl) ?_
      refine lx_store_dirty hx hb hK hP hF dX6_clear_19 (fun v1 hF => ?_)
      refine sx_if_ne (tgt := 40) hx hb hF dX6_clear_20 (by decide) (fun hF => ?_) (fun hF => ?_)
      · exact hB40 o1 u ls (lv_sub hl [0, 1] rfl) hF _ _ hP hS
      · refine lv_aload_n hx hb dX6_clear_23 rfl (lv_at hl 0 rfl) ?_
        refine gx_store_dirty hx hb hts hown hK hP fl_X6_29 dX6_clear_24 ?_
        refine lv_iload_n hx hb dX6_clear_27 rfl (lv_at hl 1 rfl) ?_
        refine lv_iconst (v := 1) hx hb dX6_clear_28 (by decide) ?_
        refine ux_store_dirty hx hb hK hP hD hS hF dX6_clear_29 (fun u4 H locs hF hP hS => ?_)
        refine lv_aload_n hx hb dX6_clear_30 rfl (lv_at hl 0 rfl) ?_
        refine lv_dup hx hb dX6_clear_31 rfl ?_
        refine gx_store_dirtyCount hx hb hts hown hK hP fl_X6_55 dX6_clear_32 ?_
        refine lv_iconst (v := 1) hx hb dX6_clear_35 (by decide) ?_
        refine lv_iadd hx hb dX6_clear_36 ?_
        refine px_store_dirtyCount hx hb hts hown hK hP fl_X6_55 hD hS hF dX6_clear_37 (fun u5 H locs hF hP hS => ?_)
        exact hB40 o1 u5 ls (lv_sub hl [0, 1] rfl) hF _ _ hP hS
    · exact sx_retv (Wd := (ax_W a cI L)) (σ := u) hx hb hr hF hP hS hlocks dX6_clear_13
set_option maxHeartbeats 4000000 in
set_option maxRecDepth 100000 in
theorem kt_X6_setWord {N : Nat} {l : Launch} {D : va_G} {a : Nat → Nat} {cI : Nat → ClassId} {L : Nat → Nat} (hD : ∀ σ, va_D (ax_A a) (ax_W a cI L σ)) {o1 : Int32} {o2 : Int32} {o3 : Int64} {u σ0 : q_St} {r0 : Unit} (hF : fX6_setWord L N o1 o2 o3 u = some (r0, σ0)) : Met l yX6_setWord (Cond.code yX6_setWord cX6_setWord 5 none :: q_T) ({ frames := 1, cells := 0, slots := 0, locals := 30 } : Room) (q_P D vwCl (ax_T cI) (ax_W a cI L) [.ref (a 3), .int o1, .int o2, .long o3] u) (q_Qv D vwCl (ax_W a cI L) (ax_A a) σ0) 0 0 (ax_A a) := by
  refine Met.ofW (cc := cX6_setWord) (maxL := 5) (ret := none) (by decide) rfl ?_
  intro p e s m args below meth c s₁ B hml hv
  obtain ⟨rfl, hP, hK⟩ := hv
  have hx := B.exec
  have hb := B.bytes
  have hr := B.returns
  have hts := q_ts (atoms_spec (ws := Cond.code yX6_setWord cX6_setWord 5 none :: q_T) B.pre)
  have hown : s.vm.findClass RX6 = some m.cls := findClass_of_methodNamed B.named
  have hlocks := B.notSynchronized
  have hS : va_S (ax_A a) s.heap s.heap [] := va_S.rf
  have hl := lv_entry ([.ref (a 3), .int o1, .int o2, .long o3]) (n := 5) (Nat.le_of_ble_eq_true rfl)
  rw [lg_entry_eq]
  generalize (lg_sl ([.ref (a 3), .int o1, .int o2, .long o3]) ++ List.replicate (5 - (lg_sl ([.ref (a 3), .int o1, .int o2, .long o3])).length) Slot.unset).toArray = ls at hl ⊢
  have hl : lv_has ls 5 [(0, .ref (a 3)), (1, .int o1), (2, .int o2), (3, .long o3)] := hl
  have hB78 : ∀ (x1 : Int32) (x2 : Int32) (x3 : Int64) (u : q_St) (ls : Array Slot), lv_has ls 5 [(0, .ref (a 3)), (1, .int x1), (2, .int x2), (3, .long x3)] → fX6_setWord_b78 L N x1 x2 x3 u = some (r0, σ0) → ∀ (H : Heap) (locs : List Loc), va_P D vwCl (ax_W a cI L u) H → va_S (ax_A a) s.heap H locs → W p l e (headSpec (Cond.code yX6_setWord cX6_setWord 5 none :: q_T) ({ frames := 1, cells := 0, slots := 0, locals := 30 } : Room)).room s m ([.ref (a 3), .int o1, .int o2, .long o3] : List Value).toArray below meth c H locs 0 0 (MQ below (q_Qv D vwCl (ax_W a cI L) (ax_A a) σ0) ([.ref (a 3), .int o1, .int o2, .long o3] : List Value).toArray s 0 0 (ax_A a)) (F0 m 78 ls []) := by
    intro x1 x2 x3 u ls hl hF _ _ hP hS
    unfold fX6_setWord_b78 at hF
    refine lv_aload_n hx hb dX6_setWord_78 rfl (lv_at hl 0 rfl) ?_
    refine gx_store_memory hx hb hts hown hK hP fl_X6_25 dX6_setWord_79 ?_
    refine lv_iload_n hx hb dX6_setWord_82 rfl (lv_at hl 1 rfl) ?_
    refine lv_bipush (v := 8) hx hb dX6_setWord_83 (by decide) ?_
    refine lv_imul hx hb dX6_setWord_85 ?_
    refine lv_iload_n hx hb dX6_setWord_86 rfl (lv_at hl 2 rfl) ?_
    refine lv_iadd hx hb dX6_setWord_87 ?_
    refine lv_lload_n hx hb dX6_setWord_88 rfl (lv_at hl 3 rfl) ?_
    refine ux_store_memory hx hb hK hP hD hS hF dX6_setWord_89 (fun u2 H locs hF hP hS => ?_)
    exact sx_retv (Wd := (ax_W a cI L)) (σ := u2) hx hb hr hF hP hS hlocks dX6_setWord_90
  unfold fX6_setWord at hF
  refine lv_iload_n hx hb dX6_setWord_0 rfl (lv_at hl 1 rfl) ?_
  refine sx_if_lt (tgt := 23) hx hb hF dX6_setWord_1 (by decide) (fun hF => ?_) (fun hF => ?_)
  · exact sx_retv (Wd := (ax_W a cI L)) (σ := u) hx hb hr hF hP hS hlocks dX6_setWord_23
  · refine lv_iload_n hx hb dX6_setWord_4 rfl (lv_at hl 1 rfl) ?_
    refine lv_aload_n hx hb dX6_setWord_5 rfl (lv_at hl 0 rfl) ?_
    refine gx_store_dirty hx hb hts hown hK hP fl_X6_29 dX6_setWord_6 ?_
    refine nx_store_dirty hx hb hK hP dX6_setWord_9 ?_
    refine sx_icmp_ge (tgt := 23) hx hb hF dX6_setWord_10 (by decide) (fun hF => ?_) (fun hF => ?_)
    · exact sx_retv (Wd := (ax_W a cI L)) (σ := u) hx hb hr hF hP hS hlocks dX6_setWord_23
    · refine lv_iload_n hx hb dX6_setWord_13 rfl (lv_at hl 2 rfl) ?_
      refine sx_if_lt (tgt := 23) hx hb hF dX6_setWord_14 (by decide) (fun hF => ?_) (fun hF => ?_)
      · exact sx_retv (Wd := (ax_W a cI L)) (σ := u) hx hb hr hF hP hS hlocks dX6_setWord_23
      · refine lv_iload_n hx hb dX6_setWord_17 rfl (lv_at hl 2 rfl) ?_
        refine lv_bipush (v := 8) hx hb dX6_setWord_18 (by decide) ?_
        refine sx_icmp_lt (tgt := 24) hx hb hF dX6_setWord_20 (by decide) (fun hF => ?_) (fun hF => ?_)
        · refine lv_aload_n hx hb dX6_setWord_24 rfl (lv_at hl 0 rfl) ?_
          refine gx_store_dirty hx hb hts hown hK hP fl_X6_29 dX6_setWord_25 ?_
          refine lv_iload_n hx hb dX6_setWord_28 rfl (lv_at hl 1 rfl) ?_
          refine lx_store_dirty hx hb hK hP hF dX6_setWord_29 (fun v1 hF => ?_)
          refine sx_if_ne (tgt := 78) hx hb hF dX6_setWord_30 (by decide) (fun hF => ?_) (fun hF => ?_)
          · exact hB78 o1 o2 o3 u ls (lv_sub hl [0, 1, 2, 3] rfl) hF _ _ hP hS
          · refine lv_aload_n hx hb dX6_setWord_33 rfl (lv_at hl 0 rfl) ?_
            refine gx_store_disk hx hb hts hown hK hP fl_X6_9 dX6_setWord_34 ?_
            refine gx_disk_cells hx hb hts hown hK hP fl_X6_40 dX6_setWord_37 ?_
            refine lv_aload_n hx hb dX6_setWord_40 rfl (lv_at hl 0 rfl) ?_
            refine gx_store_volume hx hb hts hown hK hP fl_X6_15 dX6_setWord_41 ?_
            refine lv_iload_n hx hb dX6_setWord_44 rfl (lv_at hl 1 rfl) ?_
            obtain ⟨r3, u4, hc5, hF⟩ := q_bnd_some hF
            refine sx_ci (Wd := (ax_W a cI L)) (σ1 := u4) (q_runV (Wd := (ax_W a cI L)) (σ := u) (q0 := 2) (ci := 8) (T := TX8) (N := 15) (As := [.int o1]) (rest := [.ref (a 12)]) hx hb hml hown hts hK hP (kt_X8_spot hD hc5) cw_X6_43 rfl rfl ⟨Nat.le_of_ble_eq_true rfl, Nat.le_of_ble_eq_true rfl⟩ rfl rfl rfl hl.1 rfl (Nat.le_of_ble_eq_true rfl) dX6_setWord_45) hS (fun H locs hP hS => ?_)
            refine lv_aload_n hx hb dX6_setWord_48 rfl (lv_at hl 0 rfl) ?_
            refine gx_store_memory hx hb hts hown hK hP fl_X6_25 dX6_setWord_49 ?_
            refine lv_iload_n hx hb dX6_setWord_52 rfl (lv_at hl 1 rfl) ?_
            refine lv_bipush (v := 8) hx hb dX6_setWord_53 (by decide) ?_
            refine lv_imul hx hb dX6_setWord_55 ?_
            refine lv_bipush (v := 8) hx hb dX6_setWord_56 (by decide) ?_
            obtain ⟨⟨hs1, hs2, hs3, hs4, hs5⟩, hF⟩ := q_cp_some hF
            refine va_copyl hx hb (hml.trans hl.1.symm) hown (hts _ lw_X6_49) (hts _ lb_cp_n) (hts _ lb_cp_s) (hts _ lb_sys) hK hP (hD u4) hS 12 19 0 7 (ty := .long) rfl rfl rfl rfl rfl hs1 hs2 hs3 hs4 hs5 (fun _ _ => rfl) (Nat.le_of_ble_eq_true rfl) (Nat.le_of_ble_eq_true rfl) dX6_setWord_58 (fun H locs hP _ hS => ?_)
            have hP : va_P D vwCl (ax_W a cI L (q_sj u4 2 (va_cpy (q_j u4 0) (q_j u4 2) (Int32.toNatClampNeg r3) (Int32.toNatClampNeg (o1 * 8)) (Int32.toNatClampNeg 8)))) H := hP
            obtain ⟨u6, hu1⟩ : ∃ q, q = (q_sj u4 2 (va_cpy (q_j u4 0) (q_j u4 2) (Int32.toNatClampNeg r3) (Int32.toNatClampNeg (o1 * 8)) (Int32.toNatClampNeg 8))) := ⟨_, rfl⟩
            rw [← hu1] at hP hF
            refine lv_aload_n hx hb dX6_setWord_61 rfl (lv_at hl 0 rfl) ?_
            refine gx_store_dirty hx hb hts hown hK hP fl_X6_29 dX6_setWord_62 ?_
            refine lv_iload_n hx hb dX6_setWord_65 rfl (lv_at hl 1 rfl) ?_
            refine lv_iconst (v := 1) hx hb dX6_setWord_66 (by decide) ?_
            refine ux_store_dirty hx hb hK hP hD hS hF dX6_setWord_67 (fun u7 H locs hF hP hS => ?_)
            refine lv_aload_n hx hb dX6_setWord_68 rfl (lv_at hl 0 rfl) ?_
            refine lv_dup hx hb dX6_setWord_69 rfl ?_
            refine gx_store_dirtyCount hx hb hts hown hK hP fl_X6_55 dX6_setWord_70 ?_
            refine lv_iconst (v := 1) hx hb dX6_setWord_73 (by decide) ?_
            refine lv_iadd hx hb dX6_setWord_74 ?_
            refine px_store_dirtyCount hx hb hts hown hK hP fl_X6_55 hD hS hF dX6_setWord_75 (fun u8 H locs hF hP hS => ?_)
            exact hB78 o1 o2 o3 u8 ls (lv_sub hl [0, 1, 2, 3] rfl) hF _ _ hP hS
        · exact sx_retv (Wd := (ax_W a cI L)) (σ := u) hx hb hr hF hP hS hlocks dX6_setWord_23
set_option maxHeartbeats 4000000 in
set_option maxRecDepth 100000 in
theorem kt_X4_begin {N : Nat} {l : Launch} {D : va_G} {a : Nat → Nat} {cI : Nat → ClassId} {L : Nat → Nat} (hD : ∀ σ, va_D (ax_A a) (ax_W a cI L σ)) {o1 : Int32} {o2 : Int32} {o3 : Int32} {o4 : Int32} {u σ0 : q_St} {r0 : Unit} (hF : fX4_begin L N o1 o2 o3 o4 u = some (r0, σ0)) : Met l yX4_begin (Cond.code yX4_begin cX4_begin 6 none :: q_T) ({ frames := 2, cells := 0, slots := 0, locals := 54 } : Room) (q_P D vwCl (ax_T cI) (ax_W a cI L) [.ref (a 5), .int o1, .int o2, .int o3, .int o4] u) (q_Qv D vwCl (ax_W a cI L) (ax_A a) σ0) 0 0 (ax_A a) := by
  refine Met.ofW (cc := cX4_begin) (maxL := 6) (ret := none) (by decide) rfl ?_
  intro p e s m args below meth c s₁ B hml hv
  obtain ⟨rfl, hP, hK⟩ := hv
  have hx := B.exec
  have hb := B.bytes
  have hr := B.returns
  have hts := q_ts (atoms_spec (ws := Cond.code yX4_begin cX4_begin 6 none :: q_T) B.pre)
  have hown : s.vm.findClass RX4 = some m.cls := findClass_of_methodNamed B.named
  have hlocks := B.notSynchronized
  have hS : va_S (ax_A a) s.heap s.heap [] := va_S.rf
  have hl := lv_entry ([.ref (a 5), .int o1, .int o2, .int o3, .int o4]) (n := 6) (Nat.le_of_ble_eq_true rfl)
  rw [lg_entry_eq]
  generalize (lg_sl ([.ref (a 5), .int o1, .int o2, .int o3, .int o4]) ++ List.replicate (6 - (lg_sl ([.ref (a 5), .int o1, .int o2, .int o3, .int o4])).length) Slot.unset).toArray = ls at hl ⊢
  have hl : lv_has ls 6 [(0, .ref (a 5)), (1, .int o1), (2, .int o2), (3, .int o3), (4, .int o4)] := hl
  have hB15 : ∀ (x1 : Int32) (x2 : Int32) (x3 : Int32) (x4 : Int32) (y0 : Int32) (u : q_St) (ls : Array Slot), lv_has ls 6 [(0, .ref (a 5)), (1, .int x1), (2, .int x2), (3, .int x3), (4, .int x4)] → fX4_begin_b15 L N x1 x2 x3 x4 y0 u = some (r0, σ0) → ∀ (H : Heap) (locs : List Loc), va_P D vwCl (ax_W a cI L u) H → va_S (ax_A a) s.heap H locs → W p l e (headSpec (Cond.code yX4_begin cX4_begin 6 none :: q_T) ({ frames := 2, cells := 0, slots := 0, locals := 54 } : Room)).room s m ([.ref (a 5), .int o1, .int o2, .int o3, .int o4] : List Value).toArray below meth c H locs 0 0 (MQ below (q_Qv D vwCl (ax_W a cI L) (ax_A a) σ0) ([.ref (a 5), .int o1, .int o2, .int o3, .int o4] : List Value).toArray s 0 0 (ax_A a)) (F0 m 15 ls [.int y0]) := by
    intro x1 x2 x3 x4 y0 u ls hl hF _ _ hP hS
    unfold fX4_begin_b15 at hF
    refine lv_istore (lv' := [(5, .int y0), (0, .ref (a 5)), (1, .int x1), (2, .int x2), (3, .int x3), (4, .int x4)]) hx hb dX4_begin_15 hl (by decide) rfl (fun ls hl => ?_)
    refine lv_aload_n hx hb dX4_begin_17 rfl (lv_at hl 1 rfl) ?_
    refine gx_nodes_store hx hb hts hown hK hP fl_X4_9 dX4_begin_18 ?_
    refine lv_aload_n hx hb dX4_begin_21 rfl (lv_at hl 1 rfl) ?_
    refine gx_nodes_firstNode hx hb hts hown hK hP fl_X4_15 dX4_begin_22 ?_
    refine lv_iload_n hx hb dX4_begin_25 rfl (lv_at hl 2 rfl) ?_
    refine lv_iadd hx hb dX4_begin_26 ?_
    obtain ⟨r1, u2, hc3, hF⟩ := q_bnd_some hF
    refine sx_cv (Wd := (ax_W a cI L)) (σ1 := u2) (q_runV (Wd := (ax_W a cI L)) (σ := u) (q0 := 3) (ci := 6) (T := TX6) (N := 9) (As := [.int ((q_i u 30) + x1)]) (rest := []) hx hb hml hown hts hK hP (kt_X6_clear hD hc3) cw_X4_73 rfl rfl ⟨Nat.le_of_ble_eq_true rfl, Nat.le_of_ble_eq_true rfl⟩ rfl rfl rfl hl.1 rfl (Nat.le_of_ble_eq_true rfl) dX4_begin_27) hS (fun H locs hP hS => ?_)
    refine lv_aload_n hx hb dX4_begin_30 rfl (lv_at hl 1 rfl) ?_
    refine gx_nodes_store hx hb hts hown hK hP fl_X4_9 dX4_begin_31 ?_
    refine lv_aload_n hx hb dX4_begin_34 rfl (lv_at hl 1 rfl) ?_
    refine gx_nodes_firstNode hx hb hts hown hK hP fl_X4_15 dX4_begin_35 ?_
    refine lv_iload_n hx hb dX4_begin_38 rfl (lv_at hl 2 rfl) ?_
    refine lv_iadd hx hb dX4_begin_39 ?_
    refine lv_iconst (v := 0) hx hb dX4_begin_40 (by decide) ?_
    refine lv_iload_n hx hb dX4_begin_41 rfl (lv_at hl 3 rfl) ?_
    refine lv_iload_n hx hb dX4_begin_42 rfl (lv_at hl 4 rfl) ?_
    refine lv_bipush (v := 8) hx hb dX4_begin_43 (by decide) ?_
    refine lv_ishl hx hb dX4_begin_45 ?_
    refine lv_ior hx hb dX4_begin_46 ?_
    refine lv_iload hx hb dX4_begin_47 (lv_at hl 5 rfl) ?_
    refine lv_bipush (v := 16) hx hb dX4_begin_49 (by decide) ?_
    refine lv_ishl hx hb dX4_begin_51 ?_
    refine lv_ior hx hb dX4_begin_52 ?_
    refine lv_i2l (v := Int32.toInt64 ((x2 ||| (x3 <<< (8 &&& 31))) ||| (x4 <<< (16 &&& 31)))) hx hb dX4_begin_53 rfl ?_
    refine lv_iload hx hb dX4_begin_54 (lv_at hl 0 rfl) ?_
    refine lv_i2l (v := Int32.toInt64 y0) hx hb dX4_begin_56 rfl ?_
    refine lv_bipush (v := 24) hx hb dX4_begin_57 (by decide) ?_
    refine lv_lshl (v := q_lshl (Int32.toInt64 y0) 24) hx hb dX4_begin_59 rfl ?_
    refine lv_lor hx hb dX4_begin_60 ?_
    obtain ⟨r4, u5, hc6, hF⟩ := q_bnd_some hF
    refine sx_cv (Wd := (ax_W a cI L)) (σ1 := u5) (q_runV (Wd := (ax_W a cI L)) (σ := u2) (q0 := 3) (ci := 6) (T := TX6) (N := 9) (As := [.int ((q_i u2 30) + x1), .int 0, .long ((Int32.toInt64 ((x2 ||| (x3 <<< (8 &&& 31))) ||| (x4 <<< (16 &&& 31)))) ||| (q_lshl (Int32.toInt64 y0) 24))]) (rest := []) hx hb hml hown hts hK hP (kt_X6_setWord hD hc6) cw_X4_43 rfl rfl ⟨Nat.le_of_ble_eq_true rfl, Nat.le_of_ble_eq_true rfl⟩ rfl rfl rfl hl.1 rfl (Nat.le_of_ble_eq_true rfl) dX4_begin_61) hS (fun H locs hP hS => ?_)
    exact sx_retv (Wd := (ax_W a cI L)) (σ := u5) hx hb hr hF hP hS hlocks dX4_begin_64
  have hB10 : ∀ (x1 : Int32) (x2 : Int32) (x3 : Int32) (x4 : Int32) (u : q_St) (ls : Array Slot), lv_has ls 6 [(0, .ref (a 5)), (1, .int x1), (2, .int x2), (3, .int x3), (4, .int x4)] → fX4_begin_b10 L N x1 x2 x3 x4 u = some (r0, σ0) → ∀ (H : Heap) (locs : List Loc), va_P D vwCl (ax_W a cI L u) H → va_S (ax_A a) s.heap H locs → W p l e (headSpec (Cond.code yX4_begin cX4_begin 6 none :: q_T) ({ frames := 2, cells := 0, slots := 0, locals := 54 } : Room)).room s m ([.ref (a 5), .int o1, .int o2, .int o3, .int o4] : List Value).toArray below meth c H locs 0 0 (MQ below (q_Qv D vwCl (ax_W a cI L) (ax_A a) σ0) ([.ref (a 5), .int o1, .int o2, .int o3, .int o4] : List Value).toArray s 0 0 (ax_A a)) (F0 m 10 ls []) := by
    intro x1 x2 x3 x4 u ls hl hF _ _ hP hS
    unfold fX4_begin_b10 at hF
    refine lv_iconst (v := 1) hx hb dX4_begin_10 (by decide) ?_
    refine lv_goto (tgt := 15) hx hb dX4_begin_11 (by decide) ?_
    exact hB15 x1 x2 x3 x4 1 u ls (lv_sub hl [0, 1, 2, 3, 4] rfl) hF _ _ hP hS
  unfold fX4_begin at hF
  refine lv_iload_n hx hb dX4_begin_0 rfl (lv_at hl 2 rfl) ?_
  refine lv_iconst (v := 1) hx hb dX4_begin_1 (by decide) ?_
  refine sx_icmp_eq (tgt := 10) hx hb hF dX4_begin_2 (by decide) (fun hF => ?_) (fun hF => ?_)
  · exact hB10 o1 o2 o3 o4 u ls (lv_sub hl [0, 1, 2, 3, 4] rfl) hF _ _ hP hS
  · refine lv_iload_n hx hb dX4_begin_5 rfl (lv_at hl 2 rfl) ?_
    refine lv_iconst (v := 3) hx hb dX4_begin_6 (by decide) ?_
    refine sx_icmp_ne (tgt := 14) hx hb hF dX4_begin_7 (by decide) (fun hF => ?_) (fun hF => ?_)
    · refine lv_iconst (v := 0) hx hb dX4_begin_14 (by decide) ?_
      exact hB15 o1 o2 o3 o4 0 u ls (lv_sub hl [0, 1, 2, 3, 4] rfl) hF _ _ hP hS
    · exact hB10 o1 o2 o3 o4 u ls (lv_sub hl [0, 1, 2, 3, 4] rfl) hF _ _ hP hS
set_option maxHeartbeats 4000000 in
set_option maxRecDepth 100000 in
theorem kt_X5_takeBlank {N : Nat} {l : Launch} {D : va_G} {a : Nat → Nat} {cI : Nat → ClassId} {L : Nat → Nat} (hD : ∀ σ, va_D (ax_A a) (ax_W a cI L σ))  {u σ0 : q_St} {r0 : Int32} (hF : fX5_takeBlank L N u = some (r0, σ0)) : Met l yX5_takeBlank (Cond.code yX5_takeBlank cX5_takeBlank 7 (some .int) :: q_T) ({ frames := 2, cells := 0, slots := 0, locals := 54 } : Room) (q_P D vwCl (ax_T cI) (ax_W a cI L) [.ref (a 4)] u) (q_Qi D vwCl (ax_W a cI L) (ax_A a) r0 σ0) 0 0 (ax_A a) := by
  refine Met.ofW (cc := cX5_takeBlank) (maxL := 7) (ret := (some .int)) (by decide) rfl ?_
  intro p e s m args below meth c s₁ B hml hv
  obtain ⟨rfl, hP, hK⟩ := hv
  have hx := B.exec
  have hb := B.bytes
  have hr := B.returns
  have hts := q_ts (atoms_spec (ws := Cond.code yX5_takeBlank cX5_takeBlank 7 (some .int) :: q_T) B.pre)
  have hown : s.vm.findClass RX5 = some m.cls := findClass_of_methodNamed B.named
  have hlocks := B.notSynchronized
  have hS : va_S (ax_A a) s.heap s.heap [] := va_S.rf
  have hl := lv_entry ([.ref (a 4)]) (n := 7) (Nat.le_of_ble_eq_true rfl)
  rw [lg_entry_eq]
  generalize (lg_sl ([.ref (a 4)]) ++ List.replicate (7 - (lg_sl ([.ref (a 4)])).length) Slot.unset).toArray = ls at hl ⊢
  have hl : lv_has ls 7 [(0, .ref (a 4))] := hl
  have hB106 : ∀ (ih2 : Int32 → q_St → Option (Int32 × q_St)) (hi2 : ∀ (x1 : Int32) (u : q_St) (ls : Array Slot), lv_has ls 7 [(0, .ref (a 4)), (1, .int x1)] → ih2 x1 u = some (r0, σ0) → ∀ (H : Heap) (locs : List Loc), va_P D vwCl (ax_W a cI L u) H → va_S (ax_A a) s.heap H locs → W p l e (headSpec (Cond.code yX5_takeBlank cX5_takeBlank 7 (some .int) :: q_T) ({ frames := 2, cells := 0, slots := 0, locals := 54 } : Room)).room s m ([.ref (a 4)] : List Value).toArray below meth c H locs 0 0 (MQ below (q_Qi D vwCl (ax_W a cI L) (ax_A a) r0 σ0) ([.ref (a 4)] : List Value).toArray s 0 0 (ax_A a)) (F0 m 2 ls [])), ∀ (x1 : Int32) (u : q_St) (ls : Array Slot), lv_has ls 7 [(0, .ref (a 4)), (1, .int x1)] → fX5_takeBlank_b106 L N ih2 x1 u = some (r0, σ0) → ∀ (H : Heap) (locs : List Loc), va_P D vwCl (ax_W a cI L u) H → va_S (ax_A a) s.heap H locs → W p l e (headSpec (Cond.code yX5_takeBlank cX5_takeBlank 7 (some .int) :: q_T) ({ frames := 2, cells := 0, slots := 0, locals := 54 } : Room)).room s m ([.ref (a 4)] : List Value).toArray below meth c H locs 0 0 (MQ below (q_Qi D vwCl (ax_W a cI L) (ax_A a) r0 σ0) ([.ref (a 4)] : List Value).toArray s 0 0 (ax_A a)) (F0 m 106 ls []) := by
    intro ih2 hi2 x1 u ls hl hF _ _ hP hS
    unfold fX5_takeBlank_b106 at hF
    refine sx_iinc (d := 1) (k := 1) (lv2 := [(0, .ref (a 4))]) hx hb hF dX5_takeBlank_106 hl rfl (by decide) (by decide) rfl (fun v10 hF ls hl => ?_)
    refine lv_goto (tgt := 2) hx hb dX5_takeBlank_109 (by decide) ?_
    exact hi2 v10 u ls (lv_sub hl [1, 0] rfl) hF _ _ hP hS
  have hB2 : ∀ (n : Nat) (x1 : Int32) (u : q_St) (ls : Array Slot), lv_has ls 7 [(0, .ref (a 4)), (1, .int x1)] → q_lp (fX5_takeBlank_b2 L N) (fun _ _ => none) n x1 u = some (r0, σ0) → ∀ (H : Heap) (locs : List Loc), va_P D vwCl (ax_W a cI L u) H → va_S (ax_A a) s.heap H locs → W p l e (headSpec (Cond.code yX5_takeBlank cX5_takeBlank 7 (some .int) :: q_T) ({ frames := 2, cells := 0, slots := 0, locals := 54 } : Room)).room s m ([.ref (a 4)] : List Value).toArray below meth c H locs 0 0 (MQ below (q_Qi D vwCl (ax_W a cI L) (ax_A a) r0 σ0) ([.ref (a 4)] : List Value).toArray s 0 0 (ax_A a)) (F0 m 2 ls []) := by
    intro n
    induction n with
    | zero => intro x1 u ls hl hF; exact absurd (show (none : Option (Int32 × q_St)) = some _ from hF) (fun h => nomatch h)
    | succ n hi2 =>
      intro x1 u ls hl hF _ _ hP hS
      obtain ⟨ih2, hih⟩ : ∃ q, q = q_lp (fX5_takeBlank_b2 L N) (fun _ _ => none) n := ⟨_, rfl⟩
      rw [← hih] at hi2
      have hF : fX5_takeBlank_b2 L N (q_lp (fX5_takeBlank_b2 L N) (fun _ _ => none) n) x1 u = some (r0, σ0) := hF
      rw [← hih] at hF
      clear hih
      unfold fX5_takeBlank_b2 at hF
      refine lv_iload_n hx hb dX5_takeBlank_2 rfl (lv_at hl 1 rfl) ?_
      refine lv_aload_n hx hb dX5_takeBlank_3 rfl (lv_at hl 0 rfl) ?_
      refine gx_space_mapWords hx hb hts hown hK hP fl_X5_26 dX5_takeBlank_4 ?_
      refine sx_icmp_ge (tgt := 112) hx hb hF dX5_takeBlank_7 (by decide) (fun hF => ?_) (fun hF => ?_)
      · refine lv_iconst (v := 0) hx hb dX5_takeBlank_112 (by decide) ?_
        exact sx_reti (Wd := (ax_W a cI L)) (σ := u) hx hb hr hF hP hS hlocks dX5_takeBlank_113
      · refine lv_aload_n hx hb dX5_takeBlank_10 rfl (lv_at hl 0 rfl) ?_
        refine gx_space_store hx hb hts hown hK hP fl_X5_9 dX5_takeBlank_11 ?_
        refine lv_bipush (v := 80) hx hb dX5_takeBlank_14 (by decide) ?_
        refine lv_iload_n hx hb dX5_takeBlank_16 rfl (lv_at hl 1 rfl) ?_
        refine lv_bipush (v := 8) hx hb dX5_takeBlank_17 (by decide) ?_
        refine lv_idiv hx hb dX5_takeBlank_19 (by decide) ?_
        refine lv_iadd hx hb dX5_takeBlank_20 ?_
        refine lv_iload_n hx hb dX5_takeBlank_21 rfl (lv_at hl 1 rfl) ?_
        refine lv_bipush (v := 8) hx hb dX5_takeBlank_22 (by decide) ?_
        refine lv_irem hx hb dX5_takeBlank_24 (by decide) ?_
        obtain ⟨r1, u2, hc3, hF⟩ := q_bnd_some hF
        refine sx_cl (Wd := (ax_W a cI L)) (σ1 := u2) (q_runV (Wd := (ax_W a cI L)) (σ := u) (q0 := 3) (ci := 6) (T := TX6) (N := 9) (As := [.int (80 + (x1 / 8)), .int (x1 - x1 / 8 * 8)]) (rest := []) hx hb hml hown hts hK hP (kt_X6_word hD hc3) cw_X5_35 rfl rfl ⟨Nat.le_of_ble_eq_true rfl, Nat.le_of_ble_eq_true rfl⟩ rfl rfl rfl hl.1 rfl (Nat.le_of_ble_eq_true rfl) dX5_takeBlank_25) hS (fun H locs hP hS => ?_)
        refine lv_ldc2 (v := (-1)) hx hb hown (hts _ kc_X5_54) dX5_takeBlank_28 ?_
        refine lv_lxor hx hb dX5_takeBlank_31 ?_
        refine sx_lstore_n (lv2 := [(0, .ref (a 4)), (1, .int x1)]) hx hb hF dX5_takeBlank_32 rfl hl (by decide) rfl (fun v4 hF ls hl => ?_)
        refine lv_lload_n hx hb dX5_takeBlank_33 rfl (lv_at hl 0 rfl) ?_
        refine lv_lload_n hx hb dX5_takeBlank_34 rfl (lv_at hl 0 rfl) ?_
        refine lv_lneg hx hb dX5_takeBlank_35 ?_
        refine lv_land hx hb dX5_takeBlank_36 ?_
        refine sx_lstore (lv2 := [(2, .long v4), (0, .ref (a 4)), (1, .int x1)]) hx hb hF dX5_takeBlank_37 hl (by decide) rfl (fun v5 hF ls hl => ?_)
        refine lv_bipush (v := 64) hx hb dX5_takeBlank_39 (by decide) ?_
        refine lv_iload_n hx hb dX5_takeBlank_41 rfl (lv_at hl 3 rfl) ?_
        refine lv_imul hx hb dX5_takeBlank_42 ?_
        refine lv_lload hx hb dX5_takeBlank_43 (lv_at hl 0 rfl) ?_
        refine lv_lconst (v := 1) hx hb dX5_takeBlank_45 (by decide) ?_
        refine lv_lsub hx hb dX5_takeBlank_46 ?_
        obtain ⟨r6, u7, hc8, hF⟩ := q_bnd_some hF
        refine sx_ci (Wd := (ax_W a cI L)) (σ1 := u7) (q_runS (Wd := (ax_W a cI L)) (σ := u2) (As := [.long (v5 - 1)]) (rest := [.int (64 * x1)]) hx hb hml hown hts hK hP (kt_J13_bitCount hD hc8) cw_X5_48 rfl rfl ⟨Nat.le_of_ble_eq_true rfl, Nat.le_of_ble_eq_true rfl⟩ rfl hl.1 rfl (Nat.le_of_ble_eq_true rfl) dX5_takeBlank_47) hS (fun H locs hP hS => ?_)
        refine lv_iadd hx hb dX5_takeBlank_50 ?_
        refine sx_istore (lv2 := [(4, .long v5), (2, .long v4), (0, .ref (a 4)), (1, .int x1)]) hx hb hF dX5_takeBlank_51 hl (by decide) rfl (fun v9 hF ls hl => ?_)
        refine lv_lload_n hx hb dX5_takeBlank_53 rfl (lv_at hl 2 rfl) ?_
        refine lv_lconst (v := 0) hx hb dX5_takeBlank_54 (by decide) ?_
        refine W.lcmp hx hb dX5_takeBlank_55 ?_
        refine sx_if_eq (tgt := 106) hx hb hF dX5_takeBlank_56 (by decide) (fun hF => ?_) (fun hF => ?_)
        · exact hB106 ih2 hi2 x1 u7 ls (lv_sub hl [3, 4] rfl) hF _ _ hP hS
        · refine lv_iload hx hb dX5_takeBlank_59 (lv_at hl 0 rfl) ?_
          refine lv_aload_n hx hb dX5_takeBlank_61 rfl (lv_at hl 3 rfl) ?_
          refine gx_space_sectors hx hb hts hown hK hP fl_X5_21 dX5_takeBlank_62 ?_
          refine sx_icmp_ge (tgt := 106) hx hb hF dX5_takeBlank_65 (by decide) (fun hF => ?_) (fun hF => ?_)
          · exact hB106 ih2 hi2 x1 u7 ls (lv_sub hl [3, 4] rfl) hF _ _ hP hS
          · refine lv_aload_n hx hb dX5_takeBlank_68 rfl (lv_at hl 3 rfl) ?_
            refine gx_space_store hx hb hts hown hK hP fl_X5_9 dX5_takeBlank_69 ?_
            refine lv_bipush (v := 80) hx hb dX5_takeBlank_72 (by decide) ?_
            refine lv_iload_n hx hb dX5_takeBlank_74 rfl (lv_at hl 4 rfl) ?_
            refine lv_bipush (v := 8) hx hb dX5_takeBlank_75 (by decide) ?_
            refine lv_idiv hx hb dX5_takeBlank_77 (by decide) ?_
            refine lv_iadd hx hb dX5_takeBlank_78 ?_
            refine lv_iload_n hx hb dX5_takeBlank_79 rfl (lv_at hl 4 rfl) ?_
            refine lv_bipush (v := 8) hx hb dX5_takeBlank_80 (by decide) ?_
            refine lv_irem hx hb dX5_takeBlank_82 (by decide) ?_
            refine lv_lload_n hx hb dX5_takeBlank_83 rfl (lv_at hl 2 rfl) ?_
            refine lv_ldc2 (v := (-1)) hx hb hown (hts _ kc_X5_54) dX5_takeBlank_84 ?_
            refine lv_lxor hx hb dX5_takeBlank_87 ?_
            refine lv_lload hx hb dX5_takeBlank_88 (lv_at hl 1 rfl) ?_
            refine lv_lor hx hb dX5_takeBlank_90 ?_
            obtain ⟨r11, u12, hc13, hF⟩ := q_bnd_some hF
            refine sx_cv (Wd := (ax_W a cI L)) (σ1 := u12) (q_runV (Wd := (ax_W a cI L)) (σ := u7) (q0 := 3) (ci := 6) (T := TX6) (N := 9) (As := [.int (80 + (x1 / 8)), .int (x1 - x1 / 8 * 8), .long ((v4 ^^^ (-1)) ||| v5)]) (rest := []) hx hb hml hown hts hK hP (kt_X6_setWord hD hc13) cw_X5_56 rfl rfl ⟨Nat.le_of_ble_eq_true rfl, Nat.le_of_ble_eq_true rfl⟩ rfl rfl rfl hl.1 rfl (Nat.le_of_ble_eq_true rfl) dX5_takeBlank_91) hS (fun H locs hP hS => ?_)
            refine lv_aload_n hx hb dX5_takeBlank_94 rfl (lv_at hl 3 rfl) ?_
            refine gx_space_store hx hb hts hown hK hP fl_X5_9 dX5_takeBlank_95 ?_
            refine lv_iload hx hb dX5_takeBlank_98 (lv_at hl 0 rfl) ?_
            obtain ⟨r14, u15, hc16, hF⟩ := q_bnd_some hF
            refine sx_cv (Wd := (ax_W a cI L)) (σ1 := u15) (q_runV (Wd := (ax_W a cI L)) (σ := u12) (q0 := 3) (ci := 6) (T := TX6) (N := 9) (As := [.int v9]) (rest := []) hx hb hml hown hts hK hP (kt_X6_clear hD hc16) cw_X5_60 rfl rfl ⟨Nat.le_of_ble_eq_true rfl, Nat.le_of_ble_eq_true rfl⟩ rfl rfl rfl hl.1 rfl (Nat.le_of_ble_eq_true rfl) dX5_takeBlank_100) hS (fun H locs hP hS => ?_)
            refine lv_iload hx hb dX5_takeBlank_103 (lv_at hl 0 rfl) ?_
            exact sx_reti (Wd := (ax_W a cI L)) (σ := u15) hx hb hr hF hP hS hlocks dX5_takeBlank_105
  unfold fX5_takeBlank at hF
  refine lv_iconst (v := 0) hx hb dX5_takeBlank_0 (by decide) ?_
  refine lv_istore_n (lv' := [(1, .int 0), (0, .ref (a 4))]) hx hb dX5_takeBlank_1 rfl hl (by decide) rfl (fun ls hl => ?_)
  exact hB2 N 0 u ls (lv_sub hl [1, 0] rfl) hF _ _ hP hS
set_option maxHeartbeats 4000000 in
set_option maxRecDepth 100000 in
theorem kt_X6_setHalf {N : Nat} {l : Launch} {D : va_G} {a : Nat → Nat} {cI : Nat → ClassId} {L : Nat → Nat} (hD : ∀ σ, va_D (ax_A a) (ax_W a cI L σ)) {o1 : Int32} {o2 : Int32} {o3 : Int32} {u σ0 : q_St} {r0 : Unit} (hF : fX6_setHalf L N o1 o2 o3 u = some (r0, σ0)) : Met l yX6_setHalf (Cond.code yX6_setHalf cX6_setHalf 7 none :: q_T) ({ frames := 2, cells := 0, slots := 0, locals := 54 } : Room) (q_P D vwCl (ax_T cI) (ax_W a cI L) [.ref (a 3), .int o1, .int o2, .int o3] u) (q_Qv D vwCl (ax_W a cI L) (ax_A a) σ0) 0 0 (ax_A a) := by
  refine Met.ofW (cc := cX6_setHalf) (maxL := 7) (ret := none) (by decide) rfl ?_
  intro p e s m args below meth c s₁ B hml hv
  obtain ⟨rfl, hP, hK⟩ := hv
  have hx := B.exec
  have hb := B.bytes
  have hr := B.returns
  have hts := q_ts (atoms_spec (ws := Cond.code yX6_setHalf cX6_setHalf 7 none :: q_T) B.pre)
  have hown : s.vm.findClass RX6 = some m.cls := findClass_of_methodNamed B.named
  have hlocks := B.notSynchronized
  have hS : va_S (ax_A a) s.heap s.heap [] := va_S.rf
  have hl := lv_entry ([.ref (a 3), .int o1, .int o2, .int o3]) (n := 7) (Nat.le_of_ble_eq_true rfl)
  rw [lg_entry_eq]
  generalize (lg_sl ([.ref (a 3), .int o1, .int o2, .int o3]) ++ List.replicate (7 - (lg_sl ([.ref (a 3), .int o1, .int o2, .int o3])).length) Slot.unset).toArray = ls at hl ⊢
  have hl : lv_has ls 7 [(0, .ref (a 3)), (1, .int o1), (2, .int o2), (3, .int o3)] := hl
  unfold fX6_setHalf at hF
  refine lv_bipush (v := 16) hx hb dX6_setHalf_0 (by decide) ?_
  refine lv_iload_n hx hb dX6_setHalf_2 rfl (lv_at hl 2 rfl) ?_
  refine lv_iconst (v := 4) hx hb dX6_setHalf_3 (by decide) ?_
  refine lv_irem hx hb dX6_setHalf_4 (by decide) ?_
  refine lv_imul hx hb dX6_setHalf_5 ?_
  refine sx_istore (lv2 := [(0, .ref (a 3)), (1, .int o1), (2, .int o2), (3, .int o3)]) hx hb hF dX6_setHalf_6 hl (by decide) rfl (fun v1 hF ls hl => ?_)
  refine lv_aload_n hx hb dX6_setHalf_8 rfl (lv_at hl 1 rfl) ?_
  refine lv_iload_n hx hb dX6_setHalf_9 rfl (lv_at hl 2 rfl) ?_
  refine lv_iload_n hx hb dX6_setHalf_10 rfl (lv_at hl 3 rfl) ?_
  refine lv_iconst (v := 4) hx hb dX6_setHalf_11 (by decide) ?_
  refine lv_idiv hx hb dX6_setHalf_12 (by decide) ?_
  obtain ⟨r2, u3, hc4, hF⟩ := q_bnd_some hF
  refine sx_cl (Wd := (ax_W a cI L)) (σ1 := u3) (q_runV (Wd := (ax_W a cI L)) (σ := u) (q0 := 3) (ci := 6) (T := TX6) (N := 9) (As := [.int o1, .int (o2 / 4)]) (rest := []) hx hb hml hown hts hK hP (kt_X6_word hD hc4) cw_X6_58 rfl rfl ⟨Nat.le_of_ble_eq_true rfl, Nat.le_of_ble_eq_true rfl⟩ rfl rfl rfl hl.1 rfl (Nat.le_of_ble_eq_true rfl) dX6_setHalf_13) hS (fun H locs hP hS => ?_)
  refine lv_ldc2 (v := 65535) hx hb hown (hts _ kc_X6_63) dX6_setHalf_16 ?_
  refine lv_iload hx hb dX6_setHalf_19 (lv_at hl 0 rfl) ?_
  refine lv_lshl (v := q_lshl 65535 v1) hx hb dX6_setHalf_21 rfl ?_
  refine lv_ldc2 (v := (-1)) hx hb hown (hts _ kc_X6_65) dX6_setHalf_22 ?_
  refine lv_lxor hx hb dX6_setHalf_25 ?_
  refine lv_land hx hb dX6_setHalf_26 ?_
  refine sx_lstore (lv2 := [(4, .int v1), (0, .ref (a 3)), (1, .int o1), (2, .int o2), (3, .int o3)]) hx hb hF dX6_setHalf_27 hl (by decide) rfl (fun v5 hF ls hl => ?_)
  refine lv_aload_n hx hb dX6_setHalf_29 rfl (lv_at hl 2 rfl) ?_
  refine lv_iload_n hx hb dX6_setHalf_30 rfl (lv_at hl 3 rfl) ?_
  refine lv_iload_n hx hb dX6_setHalf_31 rfl (lv_at hl 4 rfl) ?_
  refine lv_iconst (v := 4) hx hb dX6_setHalf_32 (by decide) ?_
  refine lv_idiv hx hb dX6_setHalf_33 (by decide) ?_
  refine lv_lload hx hb dX6_setHalf_34 (lv_at hl 0 rfl) ?_
  refine lv_iload_n hx hb dX6_setHalf_36 rfl (lv_at hl 5 rfl) ?_
  refine lv_i2l (v := Int32.toInt64 o3) hx hb dX6_setHalf_37 rfl ?_
  refine lv_ldc2 (v := 65535) hx hb hown (hts _ kc_X6_63) dX6_setHalf_38 ?_
  refine lv_land hx hb dX6_setHalf_41 ?_
  refine lv_iload hx hb dX6_setHalf_42 (lv_at hl 1 rfl) ?_
  refine lv_lshl (v := q_lshl ((Int32.toInt64 o3) &&& 65535) v1) hx hb dX6_setHalf_44 rfl ?_
  refine lv_lor hx hb dX6_setHalf_45 ?_
  obtain ⟨r6, u7, hc8, hF⟩ := q_bnd_some hF
  refine sx_cv (Wd := (ax_W a cI L)) (σ1 := u7) (q_runV (Wd := (ax_W a cI L)) (σ := u3) (q0 := 3) (ci := 6) (T := TX6) (N := 9) (As := [.int o1, .int (o2 / 4), .long (v5 ||| (q_lshl ((Int32.toInt64 o3) &&& 65535) v1))]) (rest := []) hx hb hml hown hts hK hP (kt_X6_setWord hD hc8) cw_X6_67 rfl rfl ⟨Nat.le_of_ble_eq_true rfl, Nat.le_of_ble_eq_true rfl⟩ rfl rfl rfl hl.1 rfl (Nat.le_of_ble_eq_true rfl) dX6_setHalf_46) hS (fun H locs hP hS => ?_)
  exact sx_retv (Wd := (ax_W a cI L)) (σ := u7) hx hb hr hF hP hS hlocks dX6_setHalf_49
set_option maxHeartbeats 4000000 in
set_option maxRecDepth 100000 in
theorem kt_X3_fillSlot {N : Nat} {l : Launch} {D : va_G} {a : Nat → Nat} {cI : Nat → ClassId} {L : Nat → Nat} (hD : ∀ σ, va_D (ax_A a) (ax_W a cI L σ)) {o1 : Int32} {o2 : Int32} {o3 : Int64} {o5 : Int32} {u σ0 : q_St} {r0 : Unit} (hF : fX3_fillSlot L N o1 o2 o3 o5 u = some (r0, σ0)) : Met l yX3_fillSlot (Cond.code yX3_fillSlot cX3_fillSlot 6 none :: q_T) ({ frames := 3, cells := 0, slots := 0, locals := 80 } : Room) (q_P D vwCl (ax_T cI) (ax_W a cI L) [.ref (a 6), .int o1, .int o2, .long o3, .int o5] u) (q_Qv D vwCl (ax_W a cI L) (ax_A a) σ0) 0 0 (ax_A a) := by
  refine Met.ofW (cc := cX3_fillSlot) (maxL := 6) (ret := none) (by decide) rfl ?_
  intro p e s m args below meth c s₁ B hml hv
  obtain ⟨rfl, hP, hK⟩ := hv
  have hx := B.exec
  have hb := B.bytes
  have hr := B.returns
  have hts := q_ts (atoms_spec (ws := Cond.code yX3_fillSlot cX3_fillSlot 6 none :: q_T) B.pre)
  have hown : s.vm.findClass RX3 = some m.cls := findClass_of_methodNamed B.named
  have hlocks := B.notSynchronized
  have hS : va_S (ax_A a) s.heap s.heap [] := va_S.rf
  have hl := lv_entry ([.ref (a 6), .int o1, .int o2, .long o3, .int o5]) (n := 6) (Nat.le_of_ble_eq_true rfl)
  rw [lg_entry_eq]
  generalize (lg_sl ([.ref (a 6), .int o1, .int o2, .long o3, .int o5]) ++ List.replicate (6 - (lg_sl ([.ref (a 6), .int o1, .int o2, .long o3, .int o5])).length) Slot.unset).toArray = ls at hl ⊢
  have hl : lv_has ls 6 [(0, .ref (a 6)), (1, .int o1), (2, .int o2), (3, .long o3), (5, .int o5)] := hl
  unfold fX3_fillSlot at hF
  refine lv_aload_n hx hb dX3_fillSlot_0 rfl (lv_at hl 0 rfl) ?_
  refine gx_folders_store hx hb hts hown hK hP fl_X3_9 dX3_fillSlot_1 ?_
  refine lv_iload_n hx hb dX3_fillSlot_4 rfl (lv_at hl 1 rfl) ?_
  refine lv_iload_n hx hb dX3_fillSlot_5 rfl (lv_at hl 2 rfl) ?_
  refine lv_lload_n hx hb dX3_fillSlot_6 rfl (lv_at hl 3 rfl) ?_
  obtain ⟨r1, u2, hc3, hF⟩ := q_bnd_some hF
  refine sx_cv (Wd := (ax_W a cI L)) (σ1 := u2) (q_runV (Wd := (ax_W a cI L)) (σ := u) (q0 := 3) (ci := 6) (T := TX6) (N := 9) (As := [.int o1, .int o2, .long o3]) (rest := []) hx hb hml hown hts hK hP (kt_X6_setWord hD hc3) cw_X3_56 rfl rfl ⟨Nat.le_of_ble_eq_true rfl, Nat.le_of_ble_eq_true rfl⟩ rfl rfl rfl hl.1 rfl (Nat.le_of_ble_eq_true rfl) dX3_fillSlot_7) hS (fun H locs hP hS => ?_)
  refine lv_aload_n hx hb dX3_fillSlot_10 rfl (lv_at hl 0 rfl) ?_
  refine gx_folders_store hx hb hts hown hK hP fl_X3_9 dX3_fillSlot_11 ?_
  refine lv_iload_n hx hb dX3_fillSlot_14 rfl (lv_at hl 1 rfl) ?_
  refine lv_bipush (v := 16) hx hb dX3_fillSlot_15 (by decide) ?_
  refine lv_iload_n hx hb dX3_fillSlot_17 rfl (lv_at hl 2 rfl) ?_
  refine lv_iadd hx hb dX3_fillSlot_18 ?_
  refine lv_iload hx hb dX3_fillSlot_19 (lv_at hl 4 rfl) ?_
  obtain ⟨r4, u5, hc6, hF⟩ := q_bnd_some hF
  refine sx_cv (Wd := (ax_W a cI L)) (σ1 := u5) (q_runV (Wd := (ax_W a cI L)) (σ := u2) (q0 := 3) (ci := 6) (T := TX6) (N := 9) (As := [.int o1, .int (16 + o2), .int o5]) (rest := []) hx hb hml hown hts hK hP (kt_X6_setHalf hD hc6) cw_X3_60 rfl rfl ⟨Nat.le_of_ble_eq_true rfl, Nat.le_of_ble_eq_true rfl⟩ rfl rfl rfl hl.1 rfl (Nat.le_of_ble_eq_true rfl) dX3_fillSlot_21) hS (fun H locs hP hS => ?_)
  exact sx_retv (Wd := (ax_W a cI L)) (σ := u5) hx hb hr hF hP hS hlocks dX3_fillSlot_24
set_option maxHeartbeats 4000000 in
set_option maxRecDepth 100000 in
theorem kt_X3_add {N : Nat} {l : Launch} {D : va_G} {a : Nat → Nat} {cI : Nat → ClassId} {L : Nat → Nat} (hD : ∀ σ, va_D (ax_A a) (ax_W a cI L σ)) {o1 : Int32} {o2 : Int64} {o4 : Int32} {u σ0 : q_St} {r0 : Unit} (hF : fX3_add L N o1 o2 o4 u = some (r0, σ0)) : Met l yX3_add (Cond.code yX3_add cX3_add 8 none :: q_T) ({ frames := 5, cells := 0, slots := 0, locals := 116 } : Room) (q_P D vwCl (ax_T cI) (ax_W a cI L) [.ref (a 6), .int o1, .long o2, .int o4] u) (q_Qv D vwCl (ax_W a cI L) (ax_A a) σ0) 0 0 (ax_A a) := by
  refine Met.ofW (cc := cX3_add) (maxL := 8) (ret := none) (by decide) rfl ?_
  intro p e s m args below meth c s₁ B hml hv
  obtain ⟨rfl, hP, hK⟩ := hv
  have hx := B.exec
  have hb := B.bytes
  have hr := B.returns
  have hts := q_ts (atoms_spec (ws := Cond.code yX3_add cX3_add 8 none :: q_T) B.pre)
  have hown : s.vm.findClass RX3 = some m.cls := findClass_of_methodNamed B.named
  have hlocks := B.notSynchronized
  have hS : va_S (ax_A a) s.heap s.heap [] := va_S.rf
  have hl := lv_entry ([.ref (a 6), .int o1, .long o2, .int o4]) (n := 8) (Nat.le_of_ble_eq_true rfl)
  rw [lg_entry_eq]
  generalize (lg_sl ([.ref (a 6), .int o1, .long o2, .int o4]) ++ List.replicate (8 - (lg_sl ([.ref (a 6), .int o1, .long o2, .int o4])).length) Slot.unset).toArray = ls at hl ⊢
  have hl : lv_has ls 8 [(0, .ref (a 6)), (1, .int o1), (2, .long o2), (4, .int o4)] := hl
  have hB38 : ∀ (n : Nat) (x1 : Int32) (x2 : Int64) (x4 : Int32) (x6 : Int32) (u : q_St) (ls : Array Slot), lv_has ls 8 [(0, .ref (a 6)), (1, .int x1), (2, .long x2), (4, .int x4), (6, .int x6)] → q_lp (fX3_add_b38 L N) (fun _ _ _ _ _ => none) n x1 x2 x4 x6 u = some (r0, σ0) → ∀ (H : Heap) (locs : List Loc), va_P D vwCl (ax_W a cI L u) H → va_S (ax_A a) s.heap H locs → W p l e (headSpec (Cond.code yX3_add cX3_add 8 none :: q_T) ({ frames := 5, cells := 0, slots := 0, locals := 116 } : Room)).room s m ([.ref (a 6), .int o1, .long o2, .int o4] : List Value).toArray below meth c H locs 0 0 (MQ below (q_Qv D vwCl (ax_W a cI L) (ax_A a) σ0) ([.ref (a 6), .int o1, .long o2, .int o4] : List Value).toArray s 0 0 (ax_A a)) (F0 m 38 ls []) := by
    intro n
    induction n with
    | zero => intro x1 x2 x4 x6 u ls hl hF; exact absurd (show (none : Option (Unit × q_St)) = some _ from hF) (fun h => nomatch h)
    | succ n hi38 =>
      intro x1 x2 x4 x6 u ls hl hF _ _ hP hS
      obtain ⟨ih38, hih⟩ : ∃ q, q = q_lp (fX3_add_b38 L N) (fun _ _ _ _ _ => none) n := ⟨_, rfl⟩
      rw [← hih] at hi38
      have hF : fX3_add_b38 L N (q_lp (fX3_add_b38 L N) (fun _ _ _ _ _ => none) n) x1 x2 x4 x6 u = some (r0, σ0) := hF
      rw [← hih] at hF
      clear hih
      unfold fX3_add_b38 at hF
      refine lv_iload hx hb dX3_add_38 (lv_at hl 4 rfl) ?_
      refine lv_bipush (v := 12) hx hb dX3_add_40 (by decide) ?_
      refine sx_icmp_ge (tgt := 102) hx hb hF dX3_add_42 (by decide) (fun hF => ?_) (fun hF => ?_)
      · exact sx_retv (Wd := (ax_W a cI L)) (σ := u) hx hb hr hF hP hS hlocks dX3_add_102
      · refine lv_aload_n hx hb dX3_add_45 rfl (lv_at hl 0 rfl) ?_
        refine lv_iload_n hx hb dX3_add_46 rfl (lv_at hl 1 rfl) ?_
        refine lv_iload hx hb dX3_add_47 (lv_at hl 4 rfl) ?_
        obtain ⟨r4, u5, hc6, hF⟩ := q_bnd_some hF
        refine sx_ci (Wd := (ax_W a cI L)) (σ1 := u5) (q_runV (Wd := (ax_W a cI L)) (σ := u) (q0 := 6) (ci := 3) (T := TX3) (N := 5) (As := [.int x1, .int x6]) (rest := []) hx hb hml hown hts hK hP (kt_X3_blockAt hD hc6) cw_X3_49 rfl rfl ⟨Nat.le_of_ble_eq_true rfl, Nat.le_of_ble_eq_true rfl⟩ rfl rfl rfl hl.1 rfl (Nat.le_of_ble_eq_true rfl) dX3_add_49) hS (fun H locs hP hS => ?_)
        refine sx_if_ne (tgt := 96) hx hb hF dX3_add_52 (by decide) (fun hF => ?_) (fun hF => ?_)
        · refine sx_iinc (d := 1) (k := 4) (lv2 := [(0, .ref (a 6)), (1, .int x1), (2, .long x2), (4, .int x4)]) hx hb hF dX3_add_96 hl rfl (by decide) (by decide) rfl (fun v7 hF ls hl => ?_)
          refine lv_goto (tgt := 38) hx hb dX3_add_99 (by decide) ?_
          exact hi38 x1 x2 x4 v7 u5 ls (lv_sub hl [1, 2, 3, 4, 0] rfl) hF _ _ hP hS
        · refine lv_aload_n hx hb dX3_add_55 rfl (lv_at hl 0 rfl) ?_
          refine gx_folders_space hx hb hts hown hK hP fl_X3_15 dX3_add_56 ?_
          obtain ⟨r8, u9, hc10, hF⟩ := q_bnd_some hF
          refine sx_ci (Wd := (ax_W a cI L)) (σ1 := u9) (q_runV (Wd := (ax_W a cI L)) (σ := u5) (q0 := 4) (ci := 5) (T := TX5) (N := 6) (As := []) (rest := []) hx hb hml hown hts hK hP (kt_X5_takeBlank hD hc10) cw_X3_78 rfl rfl ⟨Nat.le_of_ble_eq_true rfl, Nat.le_of_ble_eq_true rfl⟩ rfl rfl rfl hl.1 rfl (Nat.le_of_ble_eq_true rfl) dX3_add_59) hS (fun H locs hP hS => ?_)
          refine lv_istore (lv' := [(7, .int r8), (0, .ref (a 6)), (1, .int x1), (2, .long x2), (4, .int x4), (6, .int x6)]) hx hb dX3_add_62 hl (by decide) rfl (fun ls hl => ?_)
          refine lv_aload_n hx hb dX3_add_64 rfl (lv_at hl 1 rfl) ?_
          refine gx_folders_store hx hb hts hown hK hP fl_X3_9 dX3_add_65 ?_
          refine lv_aload_n hx hb dX3_add_68 rfl (lv_at hl 1 rfl) ?_
          refine gx_folders_nodes hx hb hts hown hK hP fl_X3_19 dX3_add_69 ?_
          refine lv_iload_n hx hb dX3_add_72 rfl (lv_at hl 2 rfl) ?_
          obtain ⟨r11, u12, hc13, hF⟩ := q_bnd_some hF
          refine sx_ci (Wd := (ax_W a cI L)) (σ1 := u12) (q_runV (Wd := (ax_W a cI L)) (σ := u9) (q0 := 5) (ci := 4) (T := TX4) (N := 2) (As := [.int x1]) (rest := [.ref (a 3)]) hx hb hml hown hts hK hP (kt_X4_sectorOf hD hc13) cw_X3_37 rfl rfl ⟨Nat.le_of_ble_eq_true rfl, Nat.le_of_ble_eq_true rfl⟩ rfl rfl rfl hl.1 rfl (Nat.le_of_ble_eq_true rfl) dX3_add_73) hS (fun H locs hP hS => ?_)
          refine lv_iconst (v := 4) hx hb dX3_add_76 (by decide) ?_
          refine lv_iload hx hb dX3_add_77 (lv_at hl 5 rfl) ?_
          refine lv_iadd hx hb dX3_add_79 ?_
          refine lv_iload hx hb dX3_add_80 (lv_at hl 0 rfl) ?_
          obtain ⟨r14, u15, hc16, hF⟩ := q_bnd_some hF
          refine sx_cv (Wd := (ax_W a cI L)) (σ1 := u15) (q_runV (Wd := (ax_W a cI L)) (σ := u12) (q0 := 3) (ci := 6) (T := TX6) (N := 9) (As := [.int r11, .int (4 + x6), .int r8]) (rest := []) hx hb hml hown hts hK hP (kt_X6_setHalf hD hc16) cw_X3_60 rfl rfl ⟨Nat.le_of_ble_eq_true rfl, Nat.le_of_ble_eq_true rfl⟩ rfl rfl rfl hl.1 rfl (Nat.le_of_ble_eq_true rfl) dX3_add_82) hS (fun H locs hP hS => ?_)
          refine lv_aload_n hx hb dX3_add_85 rfl (lv_at hl 1 rfl) ?_
          refine lv_iload hx hb dX3_add_86 (lv_at hl 0 rfl) ?_
          refine lv_iconst (v := 0) hx hb dX3_add_88 (by decide) ?_
          refine lv_lload_n hx hb dX3_add_89 rfl (lv_at hl 3 rfl) ?_
          refine lv_iload hx hb dX3_add_90 (lv_at hl 4 rfl) ?_
          obtain ⟨r17, u18, hc19, hF⟩ := q_bnd_some hF
          refine sx_cv (Wd := (ax_W a cI L)) (σ1 := u18) (q_runV (Wd := (ax_W a cI L)) (σ := u15) (q0 := 6) (ci := 3) (T := TX3) (N := 5) (As := [.int r8, .int 0, .long x2, .int x4]) (rest := []) hx hb hml hown hts hK hP (kt_X3_fillSlot hD hc19) cw_X3_64 rfl rfl ⟨Nat.le_of_ble_eq_true rfl, Nat.le_of_ble_eq_true rfl⟩ rfl rfl rfl hl.1 rfl (Nat.le_of_ble_eq_true rfl) dX3_add_92) hS (fun H locs hP hS => ?_)
          exact sx_retv (Wd := (ax_W a cI L)) (σ := u18) hx hb hr hF hP hS hlocks dX3_add_95
  unfold fX3_add at hF
  refine lv_aload_n hx hb dX3_add_0 rfl (lv_at hl 0 rfl) ?_
  refine lv_iload_n hx hb dX3_add_1 rfl (lv_at hl 1 rfl) ?_
  refine lv_lconst (v := 0) hx hb dX3_add_2 (by decide) ?_
  obtain ⟨r1, u2, hc3, hF⟩ := q_bnd_some hF
  refine sx_ci (Wd := (ax_W a cI L)) (σ1 := u2) (q_runV (Wd := (ax_W a cI L)) (σ := u) (q0 := 6) (ci := 3) (T := TX3) (N := 5) (As := [.int o1, .long 0]) (rest := []) hx hb hml hown hts hK hP (kt_X3_seek hD hc3) cw_X3_68 rfl rfl ⟨Nat.le_of_ble_eq_true rfl, Nat.le_of_ble_eq_true rfl⟩ rfl rfl rfl hl.1 rfl (Nat.le_of_ble_eq_true rfl) dX3_add_3) hS (fun H locs hP hS => ?_)
  refine lv_istore (lv' := [(5, .int r1), (0, .ref (a 6)), (1, .int o1), (2, .long o2), (4, .int o4)]) hx hb dX3_add_6 hl (by decide) rfl (fun ls hl => ?_)
  refine lv_iload hx hb dX3_add_8 (lv_at hl 0 rfl) ?_
  refine lv_iconst (v := (-1)) hx hb dX3_add_10 (by decide) ?_
  refine sx_icmp_eq (tgt := 35) hx hb hF dX3_add_11 (by decide) (fun hF => ?_) (fun hF => ?_)
  · refine lv_iconst (v := 0) hx hb dX3_add_35 (by decide) ?_
    refine lv_istore (lv' := [(6, .int 0), (5, .int r1), (0, .ref (a 6)), (1, .int o1), (2, .long o2), (4, .int o4)]) hx hb dX3_add_36 hl (by decide) rfl (fun ls hl => ?_)
    exact hB38 N o1 o2 o4 0 u2 ls (lv_sub hl [2, 3, 4, 5, 0] rfl) hF _ _ hP hS
  · refine lv_aload_n hx hb dX3_add_14 rfl (lv_at hl 1 rfl) ?_
    refine lv_aload_n hx hb dX3_add_15 rfl (lv_at hl 1 rfl) ?_
    refine lv_iload_n hx hb dX3_add_16 rfl (lv_at hl 2 rfl) ?_
    refine lv_iload hx hb dX3_add_17 (lv_at hl 0 rfl) ?_
    refine lv_iconst (v := 4) hx hb dX3_add_19 (by decide) ?_
    refine lv_idiv hx hb dX3_add_20 (by decide) ?_
    obtain ⟨r20, u21, hc22, hF⟩ := q_bnd_some hF
    refine sx_ci (Wd := (ax_W a cI L)) (σ1 := u21) (q_runV (Wd := (ax_W a cI L)) (σ := u2) (q0 := 6) (ci := 3) (T := TX3) (N := 5) (As := [.int o1, .int (r1 / 4)]) (rest := [.ref (a 6)]) hx hb hml hown hts hK hP (kt_X3_blockAt hD hc22) cw_X3_49 rfl rfl ⟨Nat.le_of_ble_eq_true rfl, Nat.le_of_ble_eq_true rfl⟩ rfl rfl rfl hl.1 rfl (Nat.le_of_ble_eq_true rfl) dX3_add_21) hS (fun H locs hP hS => ?_)
    refine lv_iload hx hb dX3_add_24 (lv_at hl 0 rfl) ?_
    refine lv_iconst (v := 4) hx hb dX3_add_26 (by decide) ?_
    refine lv_irem hx hb dX3_add_27 (by decide) ?_
    refine lv_lload_n hx hb dX3_add_28 rfl (lv_at hl 3 rfl) ?_
    refine lv_iload hx hb dX3_add_29 (lv_at hl 4 rfl) ?_
    obtain ⟨r23, u24, hc25, hF⟩ := q_bnd_some hF
    refine sx_cv (Wd := (ax_W a cI L)) (σ1 := u24) (q_runV (Wd := (ax_W a cI L)) (σ := u21) (q0 := 6) (ci := 3) (T := TX3) (N := 5) (As := [.int r20, .int (r1 - r1 / 4 * 4), .long o2, .int o4]) (rest := []) hx hb hml hown hts hK hP (kt_X3_fillSlot hD hc25) cw_X3_64 rfl rfl ⟨Nat.le_of_ble_eq_true rfl, Nat.le_of_ble_eq_true rfl⟩ rfl rfl rfl hl.1 rfl (Nat.le_of_ble_eq_true rfl) dX3_add_31) hS (fun H locs hP hS => ?_)
    exact sx_retv (Wd := (ax_W a cI L)) (σ := u24) hx hb hr hF hP hS hlocks dX3_add_34
set_option maxHeartbeats 4000000 in
set_option maxRecDepth 100000 in
theorem kt_X10_enter {N : Nat} {l : Launch} {D : va_G} {a : Nat → Nat} {cI : Nat → ClassId} {L : Nat → Nat} (hD : ∀ σ, va_D (ax_A a) (ax_W a cI L σ)) {o1 : Int32} {o2 : Int64} {o4 : Int32} {o5 : Int32} {u σ0 : q_St} {r0 : Int32} (hF : fX10_enter L N o1 o2 o4 o5 u = some (r0, σ0)) : Met l yX10_enter (Cond.code yX10_enter cX10_enter 8 (some .int) :: q_T) ({ frames := 6, cells := 0, slots := 0, locals := 143 } : Room) (q_P D vwCl (ax_T cI) (ax_W a cI L) [.ref (a 0), .int o1, .long o2, .int o4, .int o5] u) (q_Qi D vwCl (ax_W a cI L) (ax_A a) r0 σ0) 0 0 (ax_A a) := by
  refine Met.ofW (cc := cX10_enter) (maxL := 8) (ret := (some .int)) (by decide) rfl ?_
  intro p e s m args below meth c s₁ B hml hv
  obtain ⟨rfl, hP, hK⟩ := hv
  have hx := B.exec
  have hb := B.bytes
  have hr := B.returns
  have hts := q_ts (atoms_spec (ws := Cond.code yX10_enter cX10_enter 8 (some .int) :: q_T) B.pre)
  have hown : s.vm.findClass RX10 = some m.cls := findClass_of_methodNamed B.named
  have hlocks := B.notSynchronized
  have hS : va_S (ax_A a) s.heap s.heap [] := va_S.rf
  have hl := lv_entry ([.ref (a 0), .int o1, .long o2, .int o4, .int o5]) (n := 8) (Nat.le_of_ble_eq_true rfl)
  rw [lg_entry_eq]
  generalize (lg_sl ([.ref (a 0), .int o1, .long o2, .int o4, .int o5]) ++ List.replicate (8 - (lg_sl ([.ref (a 0), .int o1, .long o2, .int o4, .int o5])).length) Slot.unset).toArray = ls at hl ⊢
  have hl : lv_has ls 8 [(0, .ref (a 0)), (1, .int o1), (2, .long o2), (4, .int o4), (5, .int o5)] := hl
  have hB47 : ∀ (x1 : Int32) (x2 : Int64) (x4 : Int32) (x5 : Int32) (u : q_St) (ls : Array Slot), lv_has ls 8 [(0, .ref (a 0)), (1, .int x1), (2, .long x2), (4, .int x4), (5, .int x5)] → fX10_enter_b47 L N x1 x2 x4 x5 u = some (r0, σ0) → ∀ (H : Heap) (locs : List Loc), va_P D vwCl (ax_W a cI L u) H → va_S (ax_A a) s.heap H locs → W p l e (headSpec (Cond.code yX10_enter cX10_enter 8 (some .int) :: q_T) ({ frames := 6, cells := 0, slots := 0, locals := 143 } : Room)).room s m ([.ref (a 0), .int o1, .long o2, .int o4, .int o5] : List Value).toArray below meth c H locs 0 0 (MQ below (q_Qi D vwCl (ax_W a cI L) (ax_A a) r0 σ0) ([.ref (a 0), .int o1, .long o2, .int o4, .int o5] : List Value).toArray s 0 0 (ax_A a)) (F0 m 47 ls []) := by
    intro x1 x2 x4 x5 u ls hl hF _ _ hP hS
    unfold fX10_enter_b47 at hF
    refine lv_aload_n hx hb dX10_enter_47 rfl (lv_at hl 0 rfl) ?_
    refine gx_h_nodes hx hb hts hown hK hP fl_X10_71 dX10_enter_48 ?_
    obtain ⟨r4, u5, hc6, hF⟩ := q_bnd_some hF
    refine sx_ci (Wd := (ax_W a cI L)) (σ1 := u5) (q_runV (Wd := (ax_W a cI L)) (σ := u) (q0 := 5) (ci := 4) (T := TX4) (N := 2) (As := []) (rest := []) hx hb hml hown hts hK hP (kt_X4_lowestFree hD hc6) cw_X10_348 rfl rfl ⟨Nat.le_of_ble_eq_true rfl, Nat.le_of_ble_eq_true rfl⟩ rfl rfl rfl hl.1 rfl (Nat.le_of_ble_eq_true rfl) dX10_enter_51) hS (fun H locs hP hS => ?_)
    refine lv_istore (lv' := [(7, .int r4), (0, .ref (a 0)), (1, .int x1), (2, .long x2), (4, .int x4), (5, .int x5)]) hx hb dX10_enter_54 hl (by decide) rfl (fun ls hl => ?_)
    refine lv_iload hx hb dX10_enter_56 (lv_at hl 0 rfl) ?_
    refine lv_iconst (v := (-1)) hx hb dX10_enter_58 (by decide) ?_
    refine sx_icmp_eq (tgt := 74) hx hb hF dX10_enter_59 (by decide) (fun hF => ?_) (fun hF => ?_)
    · refine lv_bipush (v := (-16)) hx hb dX10_enter_74 (by decide) ?_
      exact sx_reti (Wd := (ax_W a cI L)) (σ := u5) hx hb hr hF hP hS hlocks dX10_enter_76
    · refine lv_aload_n hx hb dX10_enter_62 rfl (lv_at hl 1 rfl) ?_
      refine gx_h_folders hx hb hts hown hK hP fl_X10_75 dX10_enter_63 ?_
      refine lv_iload_n hx hb dX10_enter_66 rfl (lv_at hl 2 rfl) ?_
      refine lv_iconst (v := 0) hx hb dX10_enter_67 (by decide) ?_
      obtain ⟨r7, u8, hc9, hF⟩ := q_bnd_some hF
      refine sx_ci (Wd := (ax_W a cI L)) (σ1 := u8) (q_runV (Wd := (ax_W a cI L)) (σ := u5) (q0 := 6) (ci := 3) (T := TX3) (N := 5) (As := [.int x1, .int 0]) (rest := []) hx hb hml hown hts hK hP (kt_X3_hasRoom hD hc9) cw_X10_158 rfl rfl ⟨Nat.le_of_ble_eq_true rfl, Nat.le_of_ble_eq_true rfl⟩ rfl rfl rfl hl.1 rfl (Nat.le_of_ble_eq_true rfl) dX10_enter_68) hS (fun H locs hP hS => ?_)
      refine sx_if_ne (tgt := 77) hx hb hF dX10_enter_71 (by decide) (fun hF => ?_) (fun hF => ?_)
      · refine lv_aload_n hx hb dX10_enter_77 rfl (lv_at hl 1 rfl) ?_
        refine gx_h_nodes hx hb hts hown hK hP fl_X10_71 dX10_enter_78 ?_
        refine lv_iload hx hb dX10_enter_81 (lv_at hl 0 rfl) ?_
        refine lv_iload hx hb dX10_enter_83 (lv_at hl 4 rfl) ?_
        refine lv_aload_n hx hb dX10_enter_85 rfl (lv_at hl 1 rfl) ?_
        refine gx_h_who hx hb hts hown hK hP fl_X10_113 dX10_enter_86 ?_
        refine lv_iload hx hb dX10_enter_89 (lv_at hl 5 rfl) ?_
        obtain ⟨r10, u11, hc12, hF⟩ := q_bnd_some hF
        refine sx_cv (Wd := (ax_W a cI L)) (σ1 := u11) (q_runV (Wd := (ax_W a cI L)) (σ := u8) (q0 := 5) (ci := 4) (T := TX4) (N := 2) (As := [.int r4, .int x4, .int (q_i u8 0), .int x5]) (rest := []) hx hb hml hown hts hK hP (kt_X4_begin hD hc12) cw_X10_351 rfl rfl ⟨Nat.le_of_ble_eq_true rfl, Nat.le_of_ble_eq_true rfl⟩ rfl rfl rfl hl.1 rfl (Nat.le_of_ble_eq_true rfl) dX10_enter_91) hS (fun H locs hP hS => ?_)
        refine lv_aload_n hx hb dX10_enter_94 rfl (lv_at hl 1 rfl) ?_
        refine gx_h_folders hx hb hts hown hK hP fl_X10_75 dX10_enter_95 ?_
        refine lv_iload_n hx hb dX10_enter_98 rfl (lv_at hl 2 rfl) ?_
        refine lv_lload_n hx hb dX10_enter_99 rfl (lv_at hl 3 rfl) ?_
        refine lv_iload hx hb dX10_enter_100 (lv_at hl 0 rfl) ?_
        obtain ⟨r13, u14, hc15, hF⟩ := q_bnd_some hF
        refine sx_cv (Wd := (ax_W a cI L)) (σ1 := u14) (q_runV (Wd := (ax_W a cI L)) (σ := u11) (q0 := 6) (ci := 3) (T := TX3) (N := 5) (As := [.int x1, .long x2, .int r4]) (rest := []) hx hb hml hown hts hK hP (kt_X3_add hD hc15) cw_X10_165 rfl rfl ⟨Nat.le_of_ble_eq_true rfl, Nat.le_of_ble_eq_true rfl⟩ rfl rfl rfl hl.1 rfl (Nat.le_of_ble_eq_true rfl) dX10_enter_102) hS (fun H locs hP hS => ?_)
        refine lv_iload hx hb dX10_enter_105 (lv_at hl 0 rfl) ?_
        exact sx_reti (Wd := (ax_W a cI L)) (σ := u14) hx hb hr hF hP hS hlocks dX10_enter_107
      · refine lv_bipush (v := (-16)) hx hb dX10_enter_74 (by decide) ?_
        exact sx_reti (Wd := (ax_W a cI L)) (σ := u8) hx hb hr hF hP hS hlocks dX10_enter_76
  unfold fX10_enter at hF
  refine lv_aload_n hx hb dX10_enter_0 rfl (lv_at hl 0 rfl) ?_
  refine lv_iload_n hx hb dX10_enter_1 rfl (lv_at hl 1 rfl) ?_
  refine lv_lload_n hx hb dX10_enter_2 rfl (lv_at hl 2 rfl) ?_
  obtain ⟨r1, u2, hc3, hF⟩ := q_bnd_some hF
  refine sx_ci (Wd := (ax_W a cI L)) (σ1 := u2) (q_runV (Wd := (ax_W a cI L)) (σ := u) (q0 := 0) (ci := 10) (T := TX10) (N := 11) (As := [.int o1, .long o2]) (rest := []) hx hb hml hown hts hK hP (kt_X10_refusalToAdd hD hc3) cw_X10_345 rfl rfl ⟨Nat.le_of_ble_eq_true rfl, Nat.le_of_ble_eq_true rfl⟩ rfl rfl rfl hl.1 rfl (Nat.le_of_ble_eq_true rfl) dX10_enter_3) hS (fun H locs hP hS => ?_)
  refine lv_istore (lv' := [(6, .int r1), (0, .ref (a 0)), (1, .int o1), (2, .long o2), (4, .int o4), (5, .int o5)]) hx hb dX10_enter_6 hl (by decide) rfl (fun ls hl => ?_)
  refine lv_iload hx hb dX10_enter_8 (lv_at hl 0 rfl) ?_
  refine sx_if_eq (tgt := 16) hx hb hF dX10_enter_10 (by decide) (fun hF => ?_) (fun hF => ?_)
  · refine lv_iload hx hb dX10_enter_16 (lv_at hl 4 rfl) ?_
    refine lv_iconst (v := 4) hx hb dX10_enter_18 (by decide) ?_
    refine sx_icmp_ne (tgt := 47) hx hb hF dX10_enter_19 (by decide) (fun hF => ?_) (fun hF => ?_)
    · exact hB47 o1 o2 o4 o5 u2 ls (lv_sub hl [1, 2, 3, 4, 5] rfl) hF _ _ hP hS
    · refine lv_aload_n hx hb dX10_enter_22 rfl (lv_at hl 1 rfl) ?_
      refine gx_h_tape hx hb hts hown hK hP fl_X10_79 dX10_enter_23 ?_
      refine gx_tape_length hx hb hts hown hK hP fl_X10_116 dX10_enter_26 ?_
      refine sx_if_eq (tgt := 44) hx hb hF dX10_enter_29 (by decide) (fun hF => ?_) (fun hF => ?_)
      · refine lv_bipush (v := (-15)) hx hb dX10_enter_44 (by decide) ?_
        exact sx_reti (Wd := (ax_W a cI L)) (σ := u2) hx hb hr hF hP hS hlocks dX10_enter_46
      · refine lv_aload_n hx hb dX10_enter_32 rfl (lv_at hl 1 rfl) ?_
        refine gx_h_tape hx hb hts hown hK hP fl_X10_79 dX10_enter_33 ?_
        refine gx_tape_length hx hb hts hown hK hP fl_X10_116 dX10_enter_36 ?_
        refine lv_bipush (v := 40) hx hb dX10_enter_39 (by decide) ?_
        refine sx_icmp_le (tgt := 47) hx hb hF dX10_enter_41 (by decide) (fun hF => ?_) (fun hF => ?_)
        · exact hB47 o1 o2 o4 o5 u2 ls (lv_sub hl [1, 2, 3, 4, 5] rfl) hF _ _ hP hS
        · refine lv_bipush (v := (-15)) hx hb dX10_enter_44 (by decide) ?_
          exact sx_reti (Wd := (ax_W a cI L)) (σ := u2) hx hb hr hF hP hS hlocks dX10_enter_46
  · refine lv_iload hx hb dX10_enter_13 (lv_at hl 0 rfl) ?_
    exact sx_reti (Wd := (ax_W a cI L)) (σ := u2) hx hb hr hF hP hS hlocks dX10_enter_15
set_option maxHeartbeats 4000000 in
set_option maxRecDepth 100000 in
theorem kt_X10_make {N : Nat} {l : Launch} {D : va_G} {a : Nat → Nat} {cI : Nat → ClassId} {L : Nat → Nat} (hD : ∀ σ, va_D (ax_A a) (ax_W a cI L σ)) {o1 : Int32} {o2 : Int64} {u σ0 : q_St} {r0 : Int32} (hF : fX10_make L N o1 o2 u = some (r0, σ0)) : Met l yX10_make (Cond.code yX10_make cX10_make 4 (some .int) :: q_T) ({ frames := 7, cells := 0, slots := 0, locals := 172 } : Room) (q_P D vwCl (ax_T cI) (ax_W a cI L) [.ref (a 0), .int o1, .long o2] u) (q_Qi D vwCl (ax_W a cI L) (ax_A a) r0 σ0) 0 0 (ax_A a) := by
  refine Met.ofW (cc := cX10_make) (maxL := 4) (ret := (some .int)) (by decide) rfl ?_
  intro p e s m args below meth c s₁ B hml hv
  obtain ⟨rfl, hP, hK⟩ := hv
  have hx := B.exec
  have hb := B.bytes
  have hr := B.returns
  have hts := q_ts (atoms_spec (ws := Cond.code yX10_make cX10_make 4 (some .int) :: q_T) B.pre)
  have hown : s.vm.findClass RX10 = some m.cls := findClass_of_methodNamed B.named
  have hlocks := B.notSynchronized
  have hS : va_S (ax_A a) s.heap s.heap [] := va_S.rf
  have hl := lv_entry ([.ref (a 0), .int o1, .long o2]) (n := 4) (Nat.le_of_ble_eq_true rfl)
  rw [lg_entry_eq]
  generalize (lg_sl ([.ref (a 0), .int o1, .long o2]) ++ List.replicate (4 - (lg_sl ([.ref (a 0), .int o1, .long o2])).length) Slot.unset).toArray = ls at hl ⊢
  have hl : lv_has ls 4 [(0, .ref (a 0)), (1, .int o1), (2, .long o2)] := hl
  unfold fX10_make at hF
  refine lv_aload_n hx hb dX10_make_0 rfl (lv_at hl 0 rfl) ?_
  refine gx_h_store hx hb hts hown hK hP fl_X10_63 dX10_make_1 ?_
  refine lv_bipush (v := 40) hx hb dX10_make_4 (by decide) ?_
  obtain ⟨r1, u2, hc3, hF⟩ := q_bnd_some hF
  refine sx_ci (Wd := (ax_W a cI L)) (σ1 := u2) (q_runV (Wd := (ax_W a cI L)) (σ := u) (q0 := 3) (ci := 6) (T := TX6) (N := 9) (As := [.int 40]) (rest := []) hx hb hml hown hts hK hP (kt_X6_commitOver hD hc3) cw_X10_126 rfl rfl ⟨Nat.le_of_ble_eq_true rfl, Nat.le_of_ble_eq_true rfl⟩ rfl rfl rfl hl.1 rfl (Nat.le_of_ble_eq_true rfl) dX10_make_6) hS (fun H locs hP hS => ?_)
  refine sx_if_eq (tgt := 24) hx hb hF dX10_make_9 (by decide) (fun hF => ?_) (fun hF => ?_)
  · refine lv_bipush (v := (-99)) hx hb dX10_make_24 (by decide) ?_
    exact sx_reti (Wd := (ax_W a cI L)) (σ := u2) hx hb hr hF hP hS hlocks dX10_make_26
  · refine lv_aload_n hx hb dX10_make_12 rfl (lv_at hl 0 rfl) ?_
    refine lv_iload_n hx hb dX10_make_13 rfl (lv_at hl 1 rfl) ?_
    refine lv_lload_n hx hb dX10_make_14 rfl (lv_at hl 2 rfl) ?_
    refine lv_iconst (v := 1) hx hb dX10_make_15 (by decide) ?_
    refine lv_bipush (v := 52) hx hb dX10_make_16 (by decide) ?_
    obtain ⟨r4, u5, hc6, hF⟩ := q_bnd_some hF
    refine sx_ci (Wd := (ax_W a cI L)) (σ1 := u5) (q_runV (Wd := (ax_W a cI L)) (σ := u2) (q0 := 0) (ci := 10) (T := TX10) (N := 11) (As := [.int o1, .long o2, .int 1, .int 52]) (rest := []) hx hb hml hown hts hK hP (kt_X10_enter hD hc6) cw_X10_130 rfl rfl ⟨Nat.le_of_ble_eq_true rfl, Nat.le_of_ble_eq_true rfl⟩ rfl rfl rfl hl.1 rfl (Nat.le_of_ble_eq_true rfl) dX10_make_18) hS (fun H locs hP hS => ?_)
    refine lv_goto (tgt := 26) hx hb dX10_make_21 (by decide) ?_
    exact sx_reti (Wd := (ax_W a cI L)) (σ := u5) hx hb hr hF hP hS hlocks dX10_make_26
set_option maxHeartbeats 4000000 in
set_option maxRecDepth 100000 in
theorem kt_X4_setHolder {N : Nat} {l : Launch} {D : va_G} {a : Nat → Nat} {cI : Nat → ClassId} {L : Nat → Nat} (hD : ∀ σ, va_D (ax_A a) (ax_W a cI L σ)) {o1 : Int32} {o2 : Int32} {u σ0 : q_St} {r0 : Unit} (hF : fX4_setHolder L N o1 o2 u = some (r0, σ0)) : Met l yX4_setHolder (Cond.code yX4_setHolder cX4_setHolder 3 none :: q_T) ({ frames := 3, cells := 0, slots := 0, locals := 80 } : Room) (q_P D vwCl (ax_T cI) (ax_W a cI L) [.ref (a 5), .int o1, .int o2] u) (q_Qv D vwCl (ax_W a cI L) (ax_A a) σ0) 0 0 (ax_A a) := by
  refine Met.ofW (cc := cX4_setHolder) (maxL := 3) (ret := none) (by decide) rfl ?_
  intro p e s m args below meth c s₁ B hml hv
  obtain ⟨rfl, hP, hK⟩ := hv
  have hx := B.exec
  have hb := B.bytes
  have hr := B.returns
  have hts := q_ts (atoms_spec (ws := Cond.code yX4_setHolder cX4_setHolder 3 none :: q_T) B.pre)
  have hown : s.vm.findClass RX4 = some m.cls := findClass_of_methodNamed B.named
  have hlocks := B.notSynchronized
  have hS : va_S (ax_A a) s.heap s.heap [] := va_S.rf
  have hl := lv_entry ([.ref (a 5), .int o1, .int o2]) (n := 3) (Nat.le_of_ble_eq_true rfl)
  rw [lg_entry_eq]
  generalize (lg_sl ([.ref (a 5), .int o1, .int o2]) ++ List.replicate (3 - (lg_sl ([.ref (a 5), .int o1, .int o2])).length) Slot.unset).toArray = ls at hl ⊢
  have hl : lv_has ls 3 [(0, .ref (a 5)), (1, .int o1), (2, .int o2)] := hl
  unfold fX4_setHolder at hF
  refine lv_aload_n hx hb dX4_setHolder_0 rfl (lv_at hl 0 rfl) ?_
  refine gx_nodes_store hx hb hts hown hK hP fl_X4_9 dX4_setHolder_1 ?_
  refine lv_aload_n hx hb dX4_setHolder_4 rfl (lv_at hl 0 rfl) ?_
  refine gx_nodes_firstNode hx hb hts hown hK hP fl_X4_15 dX4_setHolder_5 ?_
  refine lv_iload_n hx hb dX4_setHolder_8 rfl (lv_at hl 1 rfl) ?_
  refine lv_iadd hx hb dX4_setHolder_9 ?_
  refine lv_bipush (v := 18) hx hb dX4_setHolder_10 (by decide) ?_
  refine lv_iload_n hx hb dX4_setHolder_12 rfl (lv_at hl 2 rfl) ?_
  obtain ⟨r1, u2, hc3, hF⟩ := q_bnd_some hF
  refine sx_cv (Wd := (ax_W a cI L)) (σ1 := u2) (q_runV (Wd := (ax_W a cI L)) (σ := u) (q0 := 3) (ci := 6) (T := TX6) (N := 9) (As := [.int ((q_i u 30) + o1), .int 18, .int o2]) (rest := []) hx hb hml hown hts hK hP (kt_X6_setHalf hD hc3) cw_X4_50 rfl rfl ⟨Nat.le_of_ble_eq_true rfl, Nat.le_of_ble_eq_true rfl⟩ rfl rfl rfl hl.1 rfl (Nat.le_of_ble_eq_true rfl) dX4_setHolder_13) hS (fun H locs hP hS => ?_)
  exact sx_retv (Wd := (ax_W a cI L)) (σ := u2) hx hb hr hF hP hS hlocks dX4_setHolder_16
set_option maxHeartbeats 4000000 in
set_option maxRecDepth 100000 in
theorem kt_X10_dir {N : Nat} {l : Launch} {D : va_G} {a : Nat → Nat} {cI : Nat → ClassId} {L : Nat → Nat} (hD : ∀ σ, va_D (ax_A a) (ax_W a cI L σ)) {o1 : Int32} {o2 : Int64} {u σ0 : q_St} {r0 : Int32} (hF : fX10_dir L N o1 o2 u = some (r0, σ0)) : Met l yX10_dir (Cond.code yX10_dir cX10_dir 5 (some .int) :: q_T) ({ frames := 7, cells := 0, slots := 0, locals := 172 } : Room) (q_P D vwCl (ax_T cI) (ax_W a cI L) [.ref (a 0), .int o1, .long o2] u) (q_Qi D vwCl (ax_W a cI L) (ax_A a) r0 σ0) 0 0 (ax_A a) := by
  refine Met.ofW (cc := cX10_dir) (maxL := 5) (ret := (some .int)) (by decide) rfl ?_
  intro p e s m args below meth c s₁ B hml hv
  obtain ⟨rfl, hP, hK⟩ := hv
  have hx := B.exec
  have hb := B.bytes
  have hr := B.returns
  have hts := q_ts (atoms_spec (ws := Cond.code yX10_dir cX10_dir 5 (some .int) :: q_T) B.pre)
  have hown : s.vm.findClass RX10 = some m.cls := findClass_of_methodNamed B.named
  have hlocks := B.notSynchronized
  have hS : va_S (ax_A a) s.heap s.heap [] := va_S.rf
  have hl := lv_entry ([.ref (a 0), .int o1, .long o2]) (n := 5) (Nat.le_of_ble_eq_true rfl)
  rw [lg_entry_eq]
  generalize (lg_sl ([.ref (a 0), .int o1, .long o2]) ++ List.replicate (5 - (lg_sl ([.ref (a 0), .int o1, .long o2])).length) Slot.unset).toArray = ls at hl ⊢
  have hl : lv_has ls 5 [(0, .ref (a 0)), (1, .int o1), (2, .long o2)] := hl
  unfold fX10_dir at hF
  refine lv_aload_n hx hb dX10_dir_0 rfl (lv_at hl 0 rfl) ?_
  refine gx_h_store hx hb hts hown hK hP fl_X10_63 dX10_dir_1 ?_
  refine lv_bipush (v := 40) hx hb dX10_dir_4 (by decide) ?_
  obtain ⟨r1, u2, hc3, hF⟩ := q_bnd_some hF
  refine sx_ci (Wd := (ax_W a cI L)) (σ1 := u2) (q_runV (Wd := (ax_W a cI L)) (σ := u) (q0 := 3) (ci := 6) (T := TX6) (N := 9) (As := [.int 40]) (rest := []) hx hb hml hown hts hK hP (kt_X6_commitOver hD hc3) cw_X10_126 rfl rfl ⟨Nat.le_of_ble_eq_true rfl, Nat.le_of_ble_eq_true rfl⟩ rfl rfl rfl hl.1 rfl (Nat.le_of_ble_eq_true rfl) dX10_dir_6) hS (fun H locs hP hS => ?_)
  refine sx_if_ne (tgt := 15) hx hb hF dX10_dir_9 (by decide) (fun hF => ?_) (fun hF => ?_)
  · refine lv_aload_n hx hb dX10_dir_15 rfl (lv_at hl 0 rfl) ?_
    refine lv_iload_n hx hb dX10_dir_16 rfl (lv_at hl 1 rfl) ?_
    refine lv_lload_n hx hb dX10_dir_17 rfl (lv_at hl 2 rfl) ?_
    refine lv_iconst (v := 2) hx hb dX10_dir_18 (by decide) ?_
    refine lv_bipush (v := 61) hx hb dX10_dir_19 (by decide) ?_
    obtain ⟨r4, u5, hc6, hF⟩ := q_bnd_some hF
    refine sx_ci (Wd := (ax_W a cI L)) (σ1 := u5) (q_runV (Wd := (ax_W a cI L)) (σ := u2) (q0 := 0) (ci := 10) (T := TX10) (N := 11) (As := [.int o1, .long o2, .int 2, .int 61]) (rest := []) hx hb hml hown hts hK hP (kt_X10_enter hD hc6) cw_X10_130 rfl rfl ⟨Nat.le_of_ble_eq_true rfl, Nat.le_of_ble_eq_true rfl⟩ rfl rfl rfl hl.1 rfl (Nat.le_of_ble_eq_true rfl) dX10_dir_21) hS (fun H locs hP hS => ?_)
    refine lv_istore (lv' := [(4, .int r4), (0, .ref (a 0)), (1, .int o1), (2, .long o2)]) hx hb dX10_dir_24 hl (by decide) rfl (fun ls hl => ?_)
    refine lv_iload hx hb dX10_dir_26 (lv_at hl 0 rfl) ?_
    refine sx_if_lt (tgt := 41) hx hb hF dX10_dir_28 (by decide) (fun hF => ?_) (fun hF => ?_)
    · refine lv_iload hx hb dX10_dir_41 (lv_at hl 0 rfl) ?_
      exact sx_reti (Wd := (ax_W a cI L)) (σ := u5) hx hb hr hF hP hS hlocks dX10_dir_43
    · refine lv_aload_n hx hb dX10_dir_31 rfl (lv_at hl 1 rfl) ?_
      refine gx_h_nodes hx hb hts hown hK hP fl_X10_71 dX10_dir_32 ?_
      refine lv_iload hx hb dX10_dir_35 (lv_at hl 0 rfl) ?_
      refine lv_iload_n hx hb dX10_dir_37 rfl (lv_at hl 2 rfl) ?_
      obtain ⟨r7, u8, hc9, hF⟩ := q_bnd_some hF
      refine sx_cv (Wd := (ax_W a cI L)) (σ1 := u8) (q_runV (Wd := (ax_W a cI L)) (σ := u5) (q0 := 5) (ci := 4) (T := TX4) (N := 2) (As := [.int r4, .int o1]) (rest := []) hx hb hml hown hts hK hP (kt_X4_setHolder hD hc9) cw_X10_134 rfl rfl ⟨Nat.le_of_ble_eq_true rfl, Nat.le_of_ble_eq_true rfl⟩ rfl rfl rfl hl.1 rfl (Nat.le_of_ble_eq_true rfl) dX10_dir_38) hS (fun H locs hP hS => ?_)
      refine lv_iload hx hb dX10_dir_41 (lv_at hl 0 rfl) ?_
      exact sx_reti (Wd := (ax_W a cI L)) (σ := u8) hx hb hr hF hP hS hlocks dX10_dir_43
  · refine lv_bipush (v := (-99)) hx hb dX10_dir_12 (by decide) ?_
    exact sx_reti (Wd := (ax_W a cI L)) (σ := u2) hx hb hr hF hP hS hlocks dX10_dir_14
set_option maxHeartbeats 4000000 in
set_option maxRecDepth 100000 in
theorem kt_X5_isSet {N : Nat} {l : Launch} {D : va_G} {a : Nat → Nat} {cI : Nat → ClassId} {L : Nat → Nat} (hD : ∀ σ, va_D (ax_A a) (ax_W a cI L σ)) {o1 : Int32} {u σ0 : q_St} {r0 : Int32} (hF : fX5_isSet L N o1 u = some (r0, σ0)) : Met l yX5_isSet (Cond.code yX5_isSet cX5_isSet 2 (some .boolean) :: q_T) ({ frames := 2, cells := 0, slots := 0, locals := 46 } : Room) (q_P D vwCl (ax_T cI) (ax_W a cI L) [.ref (a 4), .int o1] u) (q_Qi D vwCl (ax_W a cI L) (ax_A a) r0 σ0) 0 0 (ax_A a) := by
  refine Met.ofW (cc := cX5_isSet) (maxL := 2) (ret := (some .boolean)) (by decide) rfl ?_
  intro p e s m args below meth c s₁ B hml hv
  obtain ⟨rfl, hP, hK⟩ := hv
  have hx := B.exec
  have hb := B.bytes
  have hr := B.returns
  have hts := q_ts (atoms_spec (ws := Cond.code yX5_isSet cX5_isSet 2 (some .boolean) :: q_T) B.pre)
  have hown : s.vm.findClass RX5 = some m.cls := findClass_of_methodNamed B.named
  have hlocks := B.notSynchronized
  have hS : va_S (ax_A a) s.heap s.heap [] := va_S.rf
  have hl := lv_entry ([.ref (a 4), .int o1]) (n := 2) (Nat.le_of_ble_eq_true rfl)
  rw [lg_entry_eq]
  generalize (lg_sl ([.ref (a 4), .int o1]) ++ List.replicate (2 - (lg_sl ([.ref (a 4), .int o1])).length) Slot.unset).toArray = ls at hl ⊢
  have hl : lv_has ls 2 [(0, .ref (a 4)), (1, .int o1)] := hl
  unfold fX5_isSet at hF
  refine lv_aload_n hx hb dX5_isSet_0 rfl (lv_at hl 0 rfl) ?_
  refine gx_space_store hx hb hts hown hK hP fl_X5_9 dX5_isSet_1 ?_
  refine lv_bipush (v := 80) hx hb dX5_isSet_4 (by decide) ?_
  refine lv_iload_n hx hb dX5_isSet_6 rfl (lv_at hl 1 rfl) ?_
  refine lv_sipush (v := 512) hx hb dX5_isSet_7 (by decide) ?_
  refine lv_idiv hx hb dX5_isSet_10 (by decide) ?_
  refine lv_iadd hx hb dX5_isSet_11 ?_
  refine lv_iload_n hx hb dX5_isSet_12 rfl (lv_at hl 1 rfl) ?_
  refine lv_sipush (v := 512) hx hb dX5_isSet_13 (by decide) ?_
  refine lv_irem hx hb dX5_isSet_16 (by decide) ?_
  refine lv_bipush (v := 64) hx hb dX5_isSet_17 (by decide) ?_
  refine lv_idiv hx hb dX5_isSet_19 (by decide) ?_
  obtain ⟨r1, u2, hc3, hF⟩ := q_bnd_some hF
  refine sx_cl (Wd := (ax_W a cI L)) (σ1 := u2) (q_runV (Wd := (ax_W a cI L)) (σ := u) (q0 := 3) (ci := 6) (T := TX6) (N := 9) (As := [.int (80 + (o1 / 512)), .int ((o1 - o1 / 512 * 512) / 64)]) (rest := []) hx hb hml hown hts hK hP (kt_X6_word hD hc3) cw_X5_35 rfl rfl ⟨Nat.le_of_ble_eq_true rfl, Nat.le_of_ble_eq_true rfl⟩ rfl rfl rfl hl.1 rfl (Nat.le_of_ble_eq_true rfl) dX5_isSet_20) hS (fun H locs hP hS => ?_)
  refine lv_iload_n hx hb dX5_isSet_23 rfl (lv_at hl 1 rfl) ?_
  refine lv_bipush (v := 64) hx hb dX5_isSet_24 (by decide) ?_
  refine lv_irem hx hb dX5_isSet_26 (by decide) ?_
  refine lv_lushr (v := q_lush r1 (o1 - o1 / 64 * 64)) hx hb dX5_isSet_27 rfl ?_
  refine lv_lconst (v := 1) hx hb dX5_isSet_28 (by decide) ?_
  refine lv_land hx hb dX5_isSet_29 ?_
  refine lv_lconst (v := 0) hx hb dX5_isSet_30 (by decide) ?_
  refine W.lcmp hx hb dX5_isSet_31 ?_
  refine sx_if_eq (tgt := 39) hx hb hF dX5_isSet_32 (by decide) (fun hF => ?_) (fun hF => ?_)
  · refine lv_iconst (v := 0) hx hb dX5_isSet_39 (by decide) ?_
    exact sx_retz (Wd := (ax_W a cI L)) (σ := u2) hx hb hr (by decide) hF hP hS hlocks dX5_isSet_40
  · refine lv_iconst (v := 1) hx hb dX5_isSet_35 (by decide) ?_
    refine lv_goto (tgt := 40) hx hb dX5_isSet_36 (by decide) ?_
    exact sx_retz (Wd := (ax_W a cI L)) (σ := u2) hx hb hr (by decide) hF hP hS hlocks dX5_isSet_40
set_option maxHeartbeats 4000000 in
set_option maxRecDepth 100000 in
theorem kt_X5_isFree {N : Nat} {l : Launch} {D : va_G} {a : Nat → Nat} {cI : Nat → ClassId} {L : Nat → Nat} (hD : ∀ σ, va_D (ax_A a) (ax_W a cI L σ)) {o1 : Int32} {u σ0 : q_St} {r0 : Int32} (hF : fX5_isFree L N o1 u = some (r0, σ0)) : Met l yX5_isFree (Cond.code yX5_isFree cX5_isFree 2 (some .boolean) :: q_T) ({ frames := 3, cells := 0, slots := 0, locals := 67 } : Room) (q_P D vwCl (ax_T cI) (ax_W a cI L) [.ref (a 4), .int o1] u) (q_Qi D vwCl (ax_W a cI L) (ax_A a) r0 σ0) 0 0 (ax_A a) := by
  refine Met.ofW (cc := cX5_isFree) (maxL := 2) (ret := (some .boolean)) (by decide) rfl ?_
  intro p e s m args below meth c s₁ B hml hv
  obtain ⟨rfl, hP, hK⟩ := hv
  have hx := B.exec
  have hb := B.bytes
  have hr := B.returns
  have hts := q_ts (atoms_spec (ws := Cond.code yX5_isFree cX5_isFree 2 (some .boolean) :: q_T) B.pre)
  have hown : s.vm.findClass RX5 = some m.cls := findClass_of_methodNamed B.named
  have hlocks := B.notSynchronized
  have hS : va_S (ax_A a) s.heap s.heap [] := va_S.rf
  have hl := lv_entry ([.ref (a 4), .int o1]) (n := 2) (Nat.le_of_ble_eq_true rfl)
  rw [lg_entry_eq]
  generalize (lg_sl ([.ref (a 4), .int o1]) ++ List.replicate (2 - (lg_sl ([.ref (a 4), .int o1])).length) Slot.unset).toArray = ls at hl ⊢
  have hl : lv_has ls 2 [(0, .ref (a 4)), (1, .int o1)] := hl
  unfold fX5_isFree at hF
  refine lv_iload_n hx hb dX5_isFree_0 rfl (lv_at hl 1 rfl) ?_
  refine lv_aload_n hx hb dX5_isFree_1 rfl (lv_at hl 0 rfl) ?_
  refine gx_space_firstBlock hx hb hts hown hK hP fl_X5_32 dX5_isFree_2 ?_
  refine sx_icmp_lt (tgt := 28) hx hb hF dX5_isFree_5 (by decide) (fun hF => ?_) (fun hF => ?_)
  · refine lv_iconst (v := 0) hx hb dX5_isFree_28 (by decide) ?_
    exact sx_retz (Wd := (ax_W a cI L)) (σ := u) hx hb hr (by decide) hF hP hS hlocks dX5_isFree_29
  · refine lv_iload_n hx hb dX5_isFree_8 rfl (lv_at hl 1 rfl) ?_
    refine lv_aload_n hx hb dX5_isFree_9 rfl (lv_at hl 0 rfl) ?_
    refine gx_space_sectors hx hb hts hown hK hP fl_X5_21 dX5_isFree_10 ?_
    refine sx_icmp_ge (tgt := 28) hx hb hF dX5_isFree_13 (by decide) (fun hF => ?_) (fun hF => ?_)
    · refine lv_iconst (v := 0) hx hb dX5_isFree_28 (by decide) ?_
      exact sx_retz (Wd := (ax_W a cI L)) (σ := u) hx hb hr (by decide) hF hP hS hlocks dX5_isFree_29
    · refine lv_aload_n hx hb dX5_isFree_16 rfl (lv_at hl 0 rfl) ?_
      refine lv_iload_n hx hb dX5_isFree_17 rfl (lv_at hl 1 rfl) ?_
      obtain ⟨r1, u2, hc3, hF⟩ := q_bnd_some hF
      refine sx_ci (Wd := (ax_W a cI L)) (σ1 := u2) (q_runV (Wd := (ax_W a cI L)) (σ := u) (q0 := 4) (ci := 5) (T := TX5) (N := 6) (As := [.int o1]) (rest := []) hx hb hml hown hts hK hP (kt_X5_isSet hD hc3) cw_X5_44 rfl rfl ⟨Nat.le_of_ble_eq_true rfl, Nat.le_of_ble_eq_true rfl⟩ rfl rfl rfl hl.1 rfl (Nat.le_of_ble_eq_true rfl) dX5_isFree_18) hS (fun H locs hP hS => ?_)
      refine sx_if_ne (tgt := 28) hx hb hF dX5_isFree_21 (by decide) (fun hF => ?_) (fun hF => ?_)
      · refine lv_iconst (v := 0) hx hb dX5_isFree_28 (by decide) ?_
        exact sx_retz (Wd := (ax_W a cI L)) (σ := u2) hx hb hr (by decide) hF hP hS hlocks dX5_isFree_29
      · refine lv_iconst (v := 1) hx hb dX5_isFree_24 (by decide) ?_
        refine lv_goto (tgt := 29) hx hb dX5_isFree_25 (by decide) ?_
        exact sx_retz (Wd := (ax_W a cI L)) (σ := u2) hx hb hr (by decide) hF hP hS hlocks dX5_isFree_29
set_option maxHeartbeats 4000000 in
set_option maxRecDepth 100000 in
theorem kt_X6_committedWord {N : Nat} {l : Launch} {D : va_G} {a : Nat → Nat} {cI : Nat → ClassId} {L : Nat → Nat} (hD : ∀ σ, va_D (ax_A a) (ax_W a cI L σ)) {o1 : Int32} {o2 : Int32} {u σ0 : q_St} {r0 : Int64} (hF : fX6_committedWord L N o1 o2 u = some (r0, σ0)) : Met l yX6_committedWord (Cond.code yX6_committedWord cX6_committedWord 3 (some .long) :: q_T) ({ frames := 1, cells := 0, slots := 0, locals := 24 } : Room) (q_P D vwCl (ax_T cI) (ax_W a cI L) [.ref (a 3), .int o1, .int o2] u) (q_Ql D vwCl (ax_W a cI L) (ax_A a) r0 σ0) 0 0 (ax_A a) := by
  refine Met.ofW (cc := cX6_committedWord) (maxL := 3) (ret := (some .long)) (by decide) rfl ?_
  intro p e s m args below meth c s₁ B hml hv
  obtain ⟨rfl, hP, hK⟩ := hv
  have hx := B.exec
  have hb := B.bytes
  have hr := B.returns
  have hts := q_ts (atoms_spec (ws := Cond.code yX6_committedWord cX6_committedWord 3 (some .long) :: q_T) B.pre)
  have hown : s.vm.findClass RX6 = some m.cls := findClass_of_methodNamed B.named
  have hlocks := B.notSynchronized
  have hS : va_S (ax_A a) s.heap s.heap [] := va_S.rf
  have hl := lv_entry ([.ref (a 3), .int o1, .int o2]) (n := 3) (Nat.le_of_ble_eq_true rfl)
  rw [lg_entry_eq]
  generalize (lg_sl ([.ref (a 3), .int o1, .int o2]) ++ List.replicate (3 - (lg_sl ([.ref (a 3), .int o1, .int o2])).length) Slot.unset).toArray = ls at hl ⊢
  have hl : lv_has ls 3 [(0, .ref (a 3)), (1, .int o1), (2, .int o2)] := hl
  unfold fX6_committedWord at hF
  refine lv_iload_n hx hb dX6_committedWord_0 rfl (lv_at hl 1 rfl) ?_
  refine sx_if_lt (tgt := 23) hx hb hF dX6_committedWord_1 (by decide) (fun hF => ?_) (fun hF => ?_)
  · refine lv_lconst (v := 0) hx hb dX6_committedWord_23 (by decide) ?_
    exact sx_retl (Wd := (ax_W a cI L)) (σ := u) hx hb hr hF hP hS hlocks dX6_committedWord_24
  · refine lv_iload_n hx hb dX6_committedWord_4 rfl (lv_at hl 1 rfl) ?_
    refine lv_aload_n hx hb dX6_committedWord_5 rfl (lv_at hl 0 rfl) ?_
    refine gx_store_dirty hx hb hts hown hK hP fl_X6_29 dX6_committedWord_6 ?_
    refine nx_store_dirty hx hb hK hP dX6_committedWord_9 ?_
    refine sx_icmp_ge (tgt := 23) hx hb hF dX6_committedWord_10 (by decide) (fun hF => ?_) (fun hF => ?_)
    · refine lv_lconst (v := 0) hx hb dX6_committedWord_23 (by decide) ?_
      exact sx_retl (Wd := (ax_W a cI L)) (σ := u) hx hb hr hF hP hS hlocks dX6_committedWord_24
    · refine lv_iload_n hx hb dX6_committedWord_13 rfl (lv_at hl 2 rfl) ?_
      refine sx_if_lt (tgt := 23) hx hb hF dX6_committedWord_14 (by decide) (fun hF => ?_) (fun hF => ?_)
      · refine lv_lconst (v := 0) hx hb dX6_committedWord_23 (by decide) ?_
        exact sx_retl (Wd := (ax_W a cI L)) (σ := u) hx hb hr hF hP hS hlocks dX6_committedWord_24
      · refine lv_iload_n hx hb dX6_committedWord_17 rfl (lv_at hl 2 rfl) ?_
        refine lv_bipush (v := 8) hx hb dX6_committedWord_18 (by decide) ?_
        refine sx_icmp_lt (tgt := 25) hx hb hF dX6_committedWord_20 (by decide) (fun hF => ?_) (fun hF => ?_)
        · refine lv_aload_n hx hb dX6_committedWord_25 rfl (lv_at hl 0 rfl) ?_
          refine gx_store_disk hx hb hts hown hK hP fl_X6_9 dX6_committedWord_26 ?_
          refine gx_disk_cells hx hb hts hown hK hP fl_X6_40 dX6_committedWord_29 ?_
          refine lv_aload_n hx hb dX6_committedWord_32 rfl (lv_at hl 0 rfl) ?_
          refine gx_store_volume hx hb hts hown hK hP fl_X6_15 dX6_committedWord_33 ?_
          refine lv_iload_n hx hb dX6_committedWord_36 rfl (lv_at hl 1 rfl) ?_
          obtain ⟨r1, u2, hc3, hF⟩ := q_bnd_some hF
          refine sx_ci (Wd := (ax_W a cI L)) (σ1 := u2) (q_runV (Wd := (ax_W a cI L)) (σ := u) (q0 := 2) (ci := 8) (T := TX8) (N := 15) (As := [.int o1]) (rest := [.ref (a 12)]) hx hb hml hown hts hK hP (kt_X8_spot hD hc3) cw_X6_43 rfl rfl ⟨Nat.le_of_ble_eq_true rfl, Nat.le_of_ble_eq_true rfl⟩ rfl rfl rfl hl.1 rfl (Nat.le_of_ble_eq_true rfl) dX6_committedWord_37) hS (fun H locs hP hS => ?_)
          refine lv_iload_n hx hb dX6_committedWord_40 rfl (lv_at hl 2 rfl) ?_
          refine lv_iadd hx hb dX6_committedWord_41 ?_
          refine lx_disk_cells hx hb hK hP hF dX6_committedWord_42 (fun v4 hF => ?_)
          exact sx_retl (Wd := (ax_W a cI L)) (σ := u2) hx hb hr hF hP hS hlocks dX6_committedWord_43
        · refine lv_lconst (v := 0) hx hb dX6_committedWord_23 (by decide) ?_
          exact sx_retl (Wd := (ax_W a cI L)) (σ := u) hx hb hr hF hP hS hlocks dX6_committedWord_24
set_option maxHeartbeats 4000000 in
set_option maxRecDepth 100000 in
theorem kt_X5_wasSet {N : Nat} {l : Launch} {D : va_G} {a : Nat → Nat} {cI : Nat → ClassId} {L : Nat → Nat} (hD : ∀ σ, va_D (ax_A a) (ax_W a cI L σ)) {o1 : Int32} {u σ0 : q_St} {r0 : Int32} (hF : fX5_wasSet L N o1 u = some (r0, σ0)) : Met l yX5_wasSet (Cond.code yX5_wasSet cX5_wasSet 2 (some .boolean) :: q_T) ({ frames := 2, cells := 0, slots := 0, locals := 46 } : Room) (q_P D vwCl (ax_T cI) (ax_W a cI L) [.ref (a 4), .int o1] u) (q_Qi D vwCl (ax_W a cI L) (ax_A a) r0 σ0) 0 0 (ax_A a) := by
  refine Met.ofW (cc := cX5_wasSet) (maxL := 2) (ret := (some .boolean)) (by decide) rfl ?_
  intro p e s m args below meth c s₁ B hml hv
  obtain ⟨rfl, hP, hK⟩ := hv
  have hx := B.exec
  have hb := B.bytes
  have hr := B.returns
  have hts := q_ts (atoms_spec (ws := Cond.code yX5_wasSet cX5_wasSet 2 (some .boolean) :: q_T) B.pre)
  have hown : s.vm.findClass RX5 = some m.cls := findClass_of_methodNamed B.named
  have hlocks := B.notSynchronized
  have hS : va_S (ax_A a) s.heap s.heap [] := va_S.rf
  have hl := lv_entry ([.ref (a 4), .int o1]) (n := 2) (Nat.le_of_ble_eq_true rfl)
  rw [lg_entry_eq]
  generalize (lg_sl ([.ref (a 4), .int o1]) ++ List.replicate (2 - (lg_sl ([.ref (a 4), .int o1])).length) Slot.unset).toArray = ls at hl ⊢
  have hl : lv_has ls 2 [(0, .ref (a 4)), (1, .int o1)] := hl
  unfold fX5_wasSet at hF
  refine lv_aload_n hx hb dX5_wasSet_0 rfl (lv_at hl 0 rfl) ?_
  refine gx_space_store hx hb hts hown hK hP fl_X5_9 dX5_wasSet_1 ?_
  refine lv_bipush (v := 80) hx hb dX5_wasSet_4 (by decide) ?_
  refine lv_iload_n hx hb dX5_wasSet_6 rfl (lv_at hl 1 rfl) ?_
  refine lv_sipush (v := 512) hx hb dX5_wasSet_7 (by decide) ?_
  refine lv_idiv hx hb dX5_wasSet_10 (by decide) ?_
  refine lv_iadd hx hb dX5_wasSet_11 ?_
  refine lv_iload_n hx hb dX5_wasSet_12 rfl (lv_at hl 1 rfl) ?_
  refine lv_sipush (v := 512) hx hb dX5_wasSet_13 (by decide) ?_
  refine lv_irem hx hb dX5_wasSet_16 (by decide) ?_
  refine lv_bipush (v := 64) hx hb dX5_wasSet_17 (by decide) ?_
  refine lv_idiv hx hb dX5_wasSet_19 (by decide) ?_
  obtain ⟨r1, u2, hc3, hF⟩ := q_bnd_some hF
  refine sx_cl (Wd := (ax_W a cI L)) (σ1 := u2) (q_runV (Wd := (ax_W a cI L)) (σ := u) (q0 := 3) (ci := 6) (T := TX6) (N := 9) (As := [.int (80 + (o1 / 512)), .int ((o1 - o1 / 512 * 512) / 64)]) (rest := []) hx hb hml hown hts hK hP (kt_X6_committedWord hD hc3) cw_X5_41 rfl rfl ⟨Nat.le_of_ble_eq_true rfl, Nat.le_of_ble_eq_true rfl⟩ rfl rfl rfl hl.1 rfl (Nat.le_of_ble_eq_true rfl) dX5_wasSet_20) hS (fun H locs hP hS => ?_)
  refine lv_iload_n hx hb dX5_wasSet_23 rfl (lv_at hl 1 rfl) ?_
  refine lv_bipush (v := 64) hx hb dX5_wasSet_24 (by decide) ?_
  refine lv_irem hx hb dX5_wasSet_26 (by decide) ?_
  refine lv_lushr (v := q_lush r1 (o1 - o1 / 64 * 64)) hx hb dX5_wasSet_27 rfl ?_
  refine lv_lconst (v := 1) hx hb dX5_wasSet_28 (by decide) ?_
  refine lv_land hx hb dX5_wasSet_29 ?_
  refine lv_lconst (v := 0) hx hb dX5_wasSet_30 (by decide) ?_
  refine W.lcmp hx hb dX5_wasSet_31 ?_
  refine sx_if_eq (tgt := 39) hx hb hF dX5_wasSet_32 (by decide) (fun hF => ?_) (fun hF => ?_)
  · refine lv_iconst (v := 0) hx hb dX5_wasSet_39 (by decide) ?_
    exact sx_retz (Wd := (ax_W a cI L)) (σ := u2) hx hb hr (by decide) hF hP hS hlocks dX5_wasSet_40
  · refine lv_iconst (v := 1) hx hb dX5_wasSet_35 (by decide) ?_
    refine lv_goto (tgt := 40) hx hb dX5_wasSet_36 (by decide) ?_
    exact sx_retz (Wd := (ax_W a cI L)) (σ := u2) hx hb hr (by decide) hF hP hS hlocks dX5_wasSet_40
