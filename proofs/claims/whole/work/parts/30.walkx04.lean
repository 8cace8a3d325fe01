set_option maxHeartbeats 4000000 in
set_option maxRecDepth 100000 in
theorem kt_X4_holderOf {N : Nat} {l : Launch} {D : va_G} {a : Nat → Nat} {cI : Nat → ClassId} {L : Nat → Nat} (hD : ∀ σ, va_D (ax_A a) (ax_W a cI L σ)) {o1 : Int32} {u σ0 : q_St} {r0 : Int32} (hF : fX4_holderOf L N o1 u = some (r0, σ0)) : Met l yX4_holderOf (Cond.code yX4_holderOf cX4_holderOf 2 (some .int) :: q_T) ({ frames := 3, cells := 0, slots := 0, locals := 68 } : Room) (q_P D vwCl (ax_T cI) (ax_W a cI L) [.ref (a 5), .int o1] u) (q_Qi D vwCl (ax_W a cI L) (ax_A a) r0 σ0) 0 0 (ax_A a) := by
  refine Met.ofW (cc := cX4_holderOf) (maxL := 2) (ret := (some .int)) (by decide) rfl ?_
  intro p e s m args below meth c s₁ B hml hv
  obtain ⟨rfl, hP, hK⟩ := hv
  have hx := B.exec
  have hb := B.bytes
  have hr := B.returns
  have hts := q_ts (atoms_spec (ws := Cond.code yX4_holderOf cX4_holderOf 2 (some .int) :: q_T) B.pre)
  have hown : s.vm.findClass RX4 = some m.cls := findClass_of_methodNamed B.named
  have hlocks := B.notSynchronized
  have hS : va_S (ax_A a) s.heap s.heap [] := va_S.rf
  have hl := lv_entry ([.ref (a 5), .int o1]) (n := 2) (Nat.le_of_ble_eq_true rfl)
  rw [lg_entry_eq]
  generalize (lg_sl ([.ref (a 5), .int o1]) ++ List.replicate (2 - (lg_sl ([.ref (a 5), .int o1])).length) Slot.unset).toArray = ls at hl ⊢
  have hl : lv_has ls 2 [(0, .ref (a 5)), (1, .int o1)] := hl
  unfold fX4_holderOf at hF
  refine lv_aload_n hx hb dX4_holderOf_0 rfl (lv_at hl 0 rfl) ?_
  refine gx_nodes_store hx hb hts hown hK hP fl_X4_9 dX4_holderOf_1 ?_
  refine lv_aload_n hx hb dX4_holderOf_4 rfl (lv_at hl 0 rfl) ?_
  refine gx_nodes_firstNode hx hb hts hown hK hP fl_X4_15 dX4_holderOf_5 ?_
  refine lv_iload_n hx hb dX4_holderOf_8 rfl (lv_at hl 1 rfl) ?_
  refine lv_iadd hx hb dX4_holderOf_9 ?_
  refine lv_bipush (v := 18) hx hb dX4_holderOf_10 (by decide) ?_
  obtain ⟨r1, u2, hc3, hF⟩ := q_bnd_some hF
  refine sx_ci (Wd := (ax_W a cI L)) (σ1 := u2) (q_runV (Wd := (ax_W a cI L)) (σ := u) (q0 := 3) (ci := 6) (T := TX6) (N := 9) (As := [.int ((q_i u 30) + o1), .int 18]) (rest := []) hx hb hml hown hts hK hP (kt_X6_half hD hc3) cw_X4_47 rfl rfl ⟨Nat.le_of_ble_eq_true rfl, Nat.le_of_ble_eq_true rfl⟩ rfl rfl rfl hl.1 rfl (Nat.le_of_ble_eq_true rfl) dX4_holderOf_12) hS (fun H locs hP hS => ?_)
  exact sx_reti (Wd := (ax_W a cI L)) (σ := u2) hx hb hr hF hP hS hlocks dX4_holderOf_15
set_option maxHeartbeats 4000000 in
set_option maxRecDepth 100000 in
theorem kt_X0_laidBlock {N : Nat} {l : Launch} {D : va_G} {a : Nat → Nat} {cI : Nat → ClassId} {L : Nat → Nat} (hD : ∀ σ, va_D (ax_A a) (ax_W a cI L σ)) {o1 : Int32} {o2 : Int32} {u σ0 : q_St} {r0 : Int32} (hF : fX0_laidBlock L N o1 o2 u = some (r0, σ0)) : Met l yX0_laidBlock (Cond.code yX0_laidBlock cX0_laidBlock 3 (some .int) :: q_T) ({ frames := 4, cells := 0, slots := 0, locals := 89 } : Room) (q_P D vwCl (ax_T cI) (ax_W a cI L) [.ref (a 7), .int o1, .int o2] u) (q_Qi D vwCl (ax_W a cI L) (ax_A a) r0 σ0) 0 0 (ax_A a) := by
  refine Met.ofW (cc := cX0_laidBlock) (maxL := 3) (ret := (some .int)) (by decide) rfl ?_
  intro p e s m args below meth c s₁ B hml hv
  obtain ⟨rfl, hP, hK⟩ := hv
  have hx := B.exec
  have hb := B.bytes
  have hr := B.returns
  have hts := q_ts (atoms_spec (ws := Cond.code yX0_laidBlock cX0_laidBlock 3 (some .int) :: q_T) B.pre)
  have hown : s.vm.findClass RX0 = some m.cls := findClass_of_methodNamed B.named
  have hlocks := B.notSynchronized
  have hS : va_S (ax_A a) s.heap s.heap [] := va_S.rf
  have hl := lv_entry ([.ref (a 7), .int o1, .int o2]) (n := 3) (Nat.le_of_ble_eq_true rfl)
  rw [lg_entry_eq]
  generalize (lg_sl ([.ref (a 7), .int o1, .int o2]) ++ List.replicate (3 - (lg_sl ([.ref (a 7), .int o1, .int o2])).length) Slot.unset).toArray = ls at hl ⊢
  have hl : lv_has ls 3 [(0, .ref (a 7)), (1, .int o1), (2, .int o2)] := hl
  have hB12 : ∀ (u : q_St) (ls : Array Slot), lv_has ls 3 [] → fX0_laidBlock_b12 L N u = some (r0, σ0) → ∀ (H : Heap) (locs : List Loc), va_P D vwCl (ax_W a cI L u) H → va_S (ax_A a) s.heap H locs → W p l e (headSpec (Cond.code yX0_laidBlock cX0_laidBlock 3 (some .int) :: q_T) ({ frames := 4, cells := 0, slots := 0, locals := 89 } : Room)).room s m ([.ref (a 7), .int o1, .int o2] : List Value).toArray below meth c H locs 0 0 (MQ below (q_Qi D vwCl (ax_W a cI L) (ax_A a) r0 σ0) ([.ref (a 7), .int o1, .int o2] : List Value).toArray s 0 0 (ax_A a)) (F0 m 12 ls []) := by
    intro u ls hl hF _ _ hP hS
    unfold fX0_laidBlock_b12 at hF
    refine lv_iconst (v := 0) hx hb dX0_laidBlock_12 (by decide) ?_
    refine lv_goto (tgt := 31) hx hb dX0_laidBlock_13 (by decide) ?_
    exact sx_reti (Wd := (ax_W a cI L)) (σ := u) hx hb hr hF hP hS hlocks dX0_laidBlock_31
  unfold fX0_laidBlock at hF
  refine lv_iload_n hx hb dX0_laidBlock_0 rfl (lv_at hl 2 rfl) ?_
  refine sx_if_lt (tgt := 12) hx hb hF dX0_laidBlock_1 (by decide) (fun hF => ?_) (fun hF => ?_)
  · exact hB12 u ls (lv_sub hl [] rfl) hF _ _ hP hS
  · refine lv_iload_n hx hb dX0_laidBlock_4 rfl (lv_at hl 2 rfl) ?_
    refine lv_aload_n hx hb dX0_laidBlock_5 rfl (lv_at hl 0 rfl) ?_
    refine gx_bodies_bandSize hx hb hts hown hK hP fl_X0_23 dX0_laidBlock_6 ?_
    refine sx_icmp_lt (tgt := 16) hx hb hF dX0_laidBlock_9 (by decide) (fun hF => ?_) (fun hF => ?_)
    · refine lv_aload_n hx hb dX0_laidBlock_16 rfl (lv_at hl 0 rfl) ?_
      refine gx_bodies_nodes hx hb hts hown hK hP fl_X0_19 dX0_laidBlock_17 ?_
      refine lv_iload_n hx hb dX0_laidBlock_20 rfl (lv_at hl 1 rfl) ?_
      obtain ⟨r1, u2, hc3, hF⟩ := q_bnd_some hF
      refine sx_ci (Wd := (ax_W a cI L)) (σ1 := u2) (q_runV (Wd := (ax_W a cI L)) (σ := u) (q0 := 5) (ci := 4) (T := TX4) (N := 2) (As := [.int o1]) (rest := []) hx hb hml hown hts hK hP (kt_X4_holderOf hD hc3) cw_X0_51 rfl rfl ⟨Nat.le_of_ble_eq_true rfl, Nat.le_of_ble_eq_true rfl⟩ rfl rfl rfl hl.1 rfl (Nat.le_of_ble_eq_true rfl) dX0_laidBlock_21) hS (fun H locs hP hS => ?_)
      refine lv_aload_n hx hb dX0_laidBlock_24 rfl (lv_at hl 0 rfl) ?_
      refine gx_bodies_bandSize hx hb hts hown hK hP fl_X0_23 dX0_laidBlock_25 ?_
      refine lv_imul hx hb dX0_laidBlock_28 ?_
      refine lv_iload_n hx hb dX0_laidBlock_29 rfl (lv_at hl 2 rfl) ?_
      refine lv_iadd hx hb dX0_laidBlock_30 ?_
      exact sx_reti (Wd := (ax_W a cI L)) (σ := u2) hx hb hr hF hP hS hlocks dX0_laidBlock_31
    · exact hB12 u ls (lv_sub hl [] rfl) hF _ _ hP hS
set_option maxHeartbeats 4000000 in
set_option maxRecDepth 100000 in
theorem kt_X0_write_8 {N : Nat} {l : Launch} {D : va_G} {a : Nat → Nat} {cI : Nat → ClassId} {L : Nat → Nat} (hD : ∀ σ, va_D (ax_A a) (ax_W a cI L σ)) {o1 : Int32} {o2 : Int32} {u σ0 : q_St} {r0 : Unit} (hF : fX0_write_8 L N o1 o2 u = some (r0, σ0)) : Met l yX0_write (Cond.code yX0_write cX0_write 9 none :: q_T) ({ frames := 5, cells := 0, slots := 0, locals := 127 } : Room) (q_P D vwCl (ax_T cI) (ax_W a cI L) [.ref (a 7), .int o1, .int o2, .ref (a 8)] u) (q_Qv D vwCl (ax_W a cI L) (ax_A a) σ0) 0 0 (ax_A a) := by
  refine Met.ofW (cc := cX0_write) (maxL := 9) (ret := none) (by decide) rfl ?_
  intro p e s m args below meth c s₁ B hml hv
  obtain ⟨rfl, hP, hK⟩ := hv
  have hx := B.exec
  have hb := B.bytes
  have hr := B.returns
  have hts := q_ts (atoms_spec (ws := Cond.code yX0_write cX0_write 9 none :: q_T) B.pre)
  have hown : s.vm.findClass RX0 = some m.cls := findClass_of_methodNamed B.named
  have hlocks := B.notSynchronized
  have hS : va_S (ax_A a) s.heap s.heap [] := va_S.rf
  have hl := lv_entry ([.ref (a 7), .int o1, .int o2, .ref (a 8)]) (n := 9) (Nat.le_of_ble_eq_true rfl)
  rw [lg_entry_eq]
  generalize (lg_sl ([.ref (a 7), .int o1, .int o2, .ref (a 8)]) ++ List.replicate (9 - (lg_sl ([.ref (a 7), .int o1, .int o2, .ref (a 8)])).length) Slot.unset).toArray = ls at hl ⊢
  have hl : lv_has ls 9 [(0, .ref (a 7)), (1, .int o1), (2, .int o2), (3, .ref (a 8))] := hl
  have hB86 : ∀ (ih25 : Int32 → Int32 → Int32 → Int32 → Int32 → q_St → Option (Unit × q_St)) (hi25 : ∀ (x1 : Int32) (x2 : Int32) (x4 : Int32) (x5 : Int32) (x6 : Int32) (u : q_St) (ls : Array Slot), lv_has ls 9 [(0, .ref (a 7)), (1, .int x1), (2, .int x2), (3, .ref (a 8)), (4, .int x4), (5, .int x5), (6, .int x6)] → ih25 x1 x2 x4 x5 x6 u = some (r0, σ0) → ∀ (H : Heap) (locs : List Loc), va_P D vwCl (ax_W a cI L u) H → va_S (ax_A a) s.heap H locs → W p l e (headSpec (Cond.code yX0_write cX0_write 9 none :: q_T) ({ frames := 5, cells := 0, slots := 0, locals := 127 } : Room)).room s m ([.ref (a 7), .int o1, .int o2, .ref (a 8)] : List Value).toArray below meth c H locs 0 0 (MQ below (q_Qv D vwCl (ax_W a cI L) (ax_A a) σ0) ([.ref (a 7), .int o1, .int o2, .ref (a 8)] : List Value).toArray s 0 0 (ax_A a)) (F0 m 25 ls [])), ∀ (x1 : Int32) (x2 : Int32) (x4 : Int32) (x5 : Int32) (x6 : Int32) (x7 : Int32) (u : q_St) (ls : Array Slot), lv_has ls 9 [(0, .ref (a 7)), (1, .int x1), (2, .int x2), (3, .ref (a 8)), (4, .int x4), (5, .int x5), (6, .int x6), (7, .int x7)] → fX0_write_8_b86 L N ih25 x1 x2 x4 x5 x6 x7 u = some (r0, σ0) → ∀ (H : Heap) (locs : List Loc), va_P D vwCl (ax_W a cI L u) H → va_S (ax_A a) s.heap H locs → W p l e (headSpec (Cond.code yX0_write cX0_write 9 none :: q_T) ({ frames := 5, cells := 0, slots := 0, locals := 127 } : Room)).room s m ([.ref (a 7), .int o1, .int o2, .ref (a 8)] : List Value).toArray below meth c H locs 0 0 (MQ below (q_Qv D vwCl (ax_W a cI L) (ax_A a) σ0) ([.ref (a 7), .int o1, .int o2, .ref (a 8)] : List Value).toArray s 0 0 (ax_A a)) (F0 m 86 ls []) := by
    intro ih25 hi25 x1 x2 x4 x5 x6 x7 u ls hl hF _ _ hP hS
    unfold fX0_write_8_b86 at hF
    refine lv_aload_n hx hb dX0_write_86 rfl (lv_at hl 0 rfl) ?_
    refine gx_bodies_store hx hb hts hown hK hP fl_X0_11 dX0_write_87 ?_
    refine lv_iload hx hb dX0_write_90 (lv_at hl 5 rfl) ?_
    refine lv_iload hx hb dX0_write_92 (lv_at hl 7 rfl) ?_
    refine lv_aload_n hx hb dX0_write_94 rfl (lv_at hl 3 rfl) ?_
    refine lv_iload hx hb dX0_write_95 (lv_at hl 6 rfl) ?_
    obtain ⟨r15, u16, hc17, hF⟩ := q_bnd_some hF
    refine sx_ci (Wd := (ax_W a cI L)) (σ1 := u16) (q_runV (Wd := (ax_W a cI L)) (σ := u) (q0 := 8) (ci := 7) (T := TX7) (N := 2) (As := [.int x6]) (rest := [.int x7, .int x5, .ref (a 3)]) hx hb hml hown hts hK hP (kt_X7_byteOf_8 hD hc17) cw_X0_68 rfl rfl ⟨Nat.le_of_ble_eq_true rfl, Nat.le_of_ble_eq_true rfl⟩ rfl rfl rfl hl.1 rfl (Nat.le_of_ble_eq_true rfl) dX0_write_97) hS (fun H locs hP hS => ?_)
    obtain ⟨r18, u19, hc20, hF⟩ := q_bnd_some hF
    refine sx_cv (Wd := (ax_W a cI L)) (σ1 := u19) (q_runV (Wd := (ax_W a cI L)) (σ := u16) (q0 := 3) (ci := 6) (T := TX6) (N := 9) (As := [.int x5, .int x7, .int r15]) (rest := []) hx hb hml hown hts hK hP (kt_X6_setOctet hD hc20) cw_X0_71 rfl rfl ⟨Nat.le_of_ble_eq_true rfl, Nat.le_of_ble_eq_true rfl⟩ rfl rfl rfl hl.1 rfl (Nat.le_of_ble_eq_true rfl) dX0_write_100) hS (fun H locs hP hS => ?_)
    refine sx_iinc (d := 1) (k := 6) (lv2 := [(0, .ref (a 7)), (1, .int x1), (2, .int x2), (3, .ref (a 8)), (4, .int x4), (5, .int x5), (7, .int x7)]) hx hb hF dX0_write_103 hl rfl (by decide) (by decide) rfl (fun v21 hF ls hl => ?_)
    refine lv_goto (tgt := 25) hx hb dX0_write_106 (by decide) ?_
    exact hi25 x1 x2 x4 x5 v21 u19 ls (lv_sub hl [1, 2, 3, 4, 5, 6, 0] rfl) hF _ _ hP hS
  have hB84 : ∀ (ih25 : Int32 → Int32 → Int32 → Int32 → Int32 → q_St → Option (Unit × q_St)) (hi25 : ∀ (x1 : Int32) (x2 : Int32) (x4 : Int32) (x5 : Int32) (x6 : Int32) (u : q_St) (ls : Array Slot), lv_has ls 9 [(0, .ref (a 7)), (1, .int x1), (2, .int x2), (3, .ref (a 8)), (4, .int x4), (5, .int x5), (6, .int x6)] → ih25 x1 x2 x4 x5 x6 u = some (r0, σ0) → ∀ (H : Heap) (locs : List Loc), va_P D vwCl (ax_W a cI L u) H → va_S (ax_A a) s.heap H locs → W p l e (headSpec (Cond.code yX0_write cX0_write 9 none :: q_T) ({ frames := 5, cells := 0, slots := 0, locals := 127 } : Room)).room s m ([.ref (a 7), .int o1, .int o2, .ref (a 8)] : List Value).toArray below meth c H locs 0 0 (MQ below (q_Qv D vwCl (ax_W a cI L) (ax_A a) σ0) ([.ref (a 7), .int o1, .int o2, .ref (a 8)] : List Value).toArray s 0 0 (ax_A a)) (F0 m 25 ls [])), ∀ (x1 : Int32) (x2 : Int32) (x4 : Int32) (x6 : Int32) (x7 : Int32) (y0 : Int32) (u : q_St) (ls : Array Slot), lv_has ls 9 [(0, .ref (a 7)), (1, .int x1), (2, .int x2), (3, .ref (a 8)), (4, .int x4), (6, .int x6), (7, .int x7)] → fX0_write_8_b84 L N ih25 x1 x2 x4 x6 x7 y0 u = some (r0, σ0) → ∀ (H : Heap) (locs : List Loc), va_P D vwCl (ax_W a cI L u) H → va_S (ax_A a) s.heap H locs → W p l e (headSpec (Cond.code yX0_write cX0_write 9 none :: q_T) ({ frames := 5, cells := 0, slots := 0, locals := 127 } : Room)).room s m ([.ref (a 7), .int o1, .int o2, .ref (a 8)] : List Value).toArray below meth c H locs 0 0 (MQ below (q_Qv D vwCl (ax_W a cI L) (ax_A a) σ0) ([.ref (a 7), .int o1, .int o2, .ref (a 8)] : List Value).toArray s 0 0 (ax_A a)) (F0 m 84 ls [.int y0]) := by
    intro ih25 hi25 x1 x2 x4 x6 x7 y0 u ls hl hF _ _ hP hS
    unfold fX0_write_8_b84 at hF
    refine lv_istore (lv' := [(5, .int y0), (0, .ref (a 7)), (1, .int x1), (2, .int x2), (3, .ref (a 8)), (4, .int x4), (6, .int x6), (7, .int x7)]) hx hb dX0_write_84 hl (by decide) rfl (fun ls hl => ?_)
    exact hB86 ih25 hi25 x1 x2 x4 y0 x6 x7 u ls (lv_sub hl [1, 2, 3, 4, 5, 0, 6, 7] rfl) hF _ _ hP hS
  have hB53 : ∀ (ih25 : Int32 → Int32 → Int32 → Int32 → Int32 → q_St → Option (Unit × q_St)) (hi25 : ∀ (x1 : Int32) (x2 : Int32) (x4 : Int32) (x5 : Int32) (x6 : Int32) (u : q_St) (ls : Array Slot), lv_has ls 9 [(0, .ref (a 7)), (1, .int x1), (2, .int x2), (3, .ref (a 8)), (4, .int x4), (5, .int x5), (6, .int x6)] → ih25 x1 x2 x4 x5 x6 u = some (r0, σ0) → ∀ (H : Heap) (locs : List Loc), va_P D vwCl (ax_W a cI L u) H → va_S (ax_A a) s.heap H locs → W p l e (headSpec (Cond.code yX0_write cX0_write 9 none :: q_T) ({ frames := 5, cells := 0, slots := 0, locals := 127 } : Room)).room s m ([.ref (a 7), .int o1, .int o2, .ref (a 8)] : List Value).toArray below meth c H locs 0 0 (MQ below (q_Qv D vwCl (ax_W a cI L) (ax_A a) σ0) ([.ref (a 7), .int o1, .int o2, .ref (a 8)] : List Value).toArray s 0 0 (ax_A a)) (F0 m 25 ls [])), ∀ (x1 : Int32) (x2 : Int32) (x4 : Int32) (x6 : Int32) (x7 : Int32) (u : q_St) (ls : Array Slot), lv_has ls 9 [(0, .ref (a 7)), (1, .int x1), (2, .int x2), (3, .ref (a 8)), (4, .int x4), (6, .int x6), (7, .int x7)] → fX0_write_8_b53 L N ih25 x1 x2 x4 x6 x7 u = some (r0, σ0) → ∀ (H : Heap) (locs : List Loc), va_P D vwCl (ax_W a cI L u) H → va_S (ax_A a) s.heap H locs → W p l e (headSpec (Cond.code yX0_write cX0_write 9 none :: q_T) ({ frames := 5, cells := 0, slots := 0, locals := 127 } : Room)).room s m ([.ref (a 7), .int o1, .int o2, .ref (a 8)] : List Value).toArray below meth c H locs 0 0 (MQ below (q_Qv D vwCl (ax_W a cI L) (ax_A a) σ0) ([.ref (a 7), .int o1, .int o2, .ref (a 8)] : List Value).toArray s 0 0 (ax_A a)) (F0 m 53 ls []) := by
    intro ih25 hi25 x1 x2 x4 x6 x7 u ls hl hF _ _ hP hS
    unfold fX0_write_8_b53 at hF
    refine lv_iload_n hx hb dX0_write_53 rfl (lv_at hl 2 rfl) ?_
    refine lv_iload hx hb dX0_write_54 (lv_at hl 5 rfl) ?_
    refine lv_iadd hx hb dX0_write_56 ?_
    refine lv_bipush (v := 64) hx hb dX0_write_57 (by decide) ?_
    refine lv_idiv hx hb dX0_write_59 (by decide) ?_
    refine sx_istore (lv2 := [(0, .ref (a 7)), (1, .int x1), (2, .int x2), (3, .ref (a 8)), (4, .int x4), (6, .int x6), (7, .int x7)]) hx hb hF dX0_write_60 hl (by decide) rfl (fun v11 hF ls hl => ?_)
    refine lv_iload hx hb dX0_write_62 (lv_at hl 5 rfl) ?_
    refine sx_if_eq (tgt := 77) hx hb hF dX0_write_64 (by decide) (fun hF => ?_) (fun hF => ?_)
    · refine lv_aload_n hx hb dX0_write_77 rfl (lv_at hl 1 rfl) ?_
      refine lv_iload_n hx hb dX0_write_78 rfl (lv_at hl 2 rfl) ?_
      refine lv_iload hx hb dX0_write_79 (lv_at hl 0 rfl) ?_
      obtain ⟨r12, u13, hc14, hF⟩ := q_bnd_some hF
      refine sx_ci (Wd := (ax_W a cI L)) (σ1 := u13) (q_runV (Wd := (ax_W a cI L)) (σ := u) (q0 := 7) (ci := 0) (T := TX0) (N := 4) (As := [.int x1, .int v11]) (rest := []) hx hb hml hown hts hK hP (kt_X0_takePiece hD hc14) cw_X0_65 rfl rfl ⟨Nat.le_of_ble_eq_true rfl, Nat.le_of_ble_eq_true rfl⟩ rfl rfl rfl hl.1 rfl (Nat.le_of_ble_eq_true rfl) dX0_write_81) hS (fun H locs hP hS => ?_)
      exact hB84 ih25 hi25 x1 x2 x4 x6 x7 r12 u13 ls (lv_sub hl [1, 2, 3, 4, 5, 6, 7] rfl) hF _ _ hP hS
    · refine lv_aload_n hx hb dX0_write_67 rfl (lv_at hl 1 rfl) ?_
      refine lv_iload_n hx hb dX0_write_68 rfl (lv_at hl 2 rfl) ?_
      refine lv_iload hx hb dX0_write_69 (lv_at hl 0 rfl) ?_
      obtain ⟨r22, u23, hc24, hF⟩ := q_bnd_some hF
      refine sx_ci (Wd := (ax_W a cI L)) (σ1 := u23) (q_runV (Wd := (ax_W a cI L)) (σ := u) (q0 := 7) (ci := 0) (T := TX0) (N := 4) (As := [.int x1, .int v11]) (rest := []) hx hb hml hown hts hK hP (kt_X0_laidBlock hD hc24) cw_X0_45 rfl rfl ⟨Nat.le_of_ble_eq_true rfl, Nat.le_of_ble_eq_true rfl⟩ rfl rfl rfl hl.1 rfl (Nat.le_of_ble_eq_true rfl) dX0_write_71) hS (fun H locs hP hS => ?_)
      refine lv_goto (tgt := 84) hx hb dX0_write_74 (by decide) ?_
      exact hB84 ih25 hi25 x1 x2 x4 x6 x7 r22 u23 ls (lv_sub hl [1, 2, 3, 4, 5, 6, 7] rfl) hF _ _ hP hS
  have hB25 : ∀ (n : Nat) (x1 : Int32) (x2 : Int32) (x4 : Int32) (x5 : Int32) (x6 : Int32) (u : q_St) (ls : Array Slot), lv_has ls 9 [(0, .ref (a 7)), (1, .int x1), (2, .int x2), (3, .ref (a 8)), (4, .int x4), (5, .int x5), (6, .int x6)] → q_lp (fX0_write_8_b25 L N) (fun _ _ _ _ _ _ => none) n x1 x2 x4 x5 x6 u = some (r0, σ0) → ∀ (H : Heap) (locs : List Loc), va_P D vwCl (ax_W a cI L u) H → va_S (ax_A a) s.heap H locs → W p l e (headSpec (Cond.code yX0_write cX0_write 9 none :: q_T) ({ frames := 5, cells := 0, slots := 0, locals := 127 } : Room)).room s m ([.ref (a 7), .int o1, .int o2, .ref (a 8)] : List Value).toArray below meth c H locs 0 0 (MQ below (q_Qv D vwCl (ax_W a cI L) (ax_A a) σ0) ([.ref (a 7), .int o1, .int o2, .ref (a 8)] : List Value).toArray s 0 0 (ax_A a)) (F0 m 25 ls []) := by
    intro n
    induction n with
    | zero => intro x1 x2 x4 x5 x6 u ls hl hF; exact absurd (show (none : Option (Unit × q_St)) = some _ from hF) (fun h => nomatch h)
    | succ n hi25 =>
      intro x1 x2 x4 x5 x6 u ls hl hF _ _ hP hS
      obtain ⟨ih25, hih⟩ : ∃ q, q = q_lp (fX0_write_8_b25 L N) (fun _ _ _ _ _ _ => none) n := ⟨_, rfl⟩
      rw [← hih] at hi25
      have hF : fX0_write_8_b25 L N (q_lp (fX0_write_8_b25 L N) (fun _ _ _ _ _ _ => none) n) x1 x2 x4 x5 x6 u = some (r0, σ0) := hF
      rw [← hih] at hF
      clear hih
      unfold fX0_write_8_b25 at hF
      refine lv_iload hx hb dX0_write_25 (lv_at hl 6 rfl) ?_
      refine lv_aload_n hx hb dX0_write_27 rfl (lv_at hl 3 rfl) ?_
      refine gx_tape_length hx hb hts hown hK hP fl_X0_60 dX0_write_28 ?_
      refine sx_icmp_ge (tgt := 109) hx hb hF dX0_write_31 (by decide) (fun hF => ?_) (fun hF => ?_)
      · refine lv_iload hx hb dX0_write_109 (lv_at hl 4 rfl) ?_
        refine sx_if_ne (tgt := 145) hx hb hF dX0_write_111 (by decide) (fun hF => ?_) (fun hF => ?_)
        · exact sx_retv (Wd := (ax_W a cI L)) (σ := u) hx hb hr hF hP hS hlocks dX0_write_145
        · refine lv_iload_n hx hb dX0_write_114 rfl (lv_at hl 2 rfl) ?_
          refine lv_aload_n hx hb dX0_write_115 rfl (lv_at hl 3 rfl) ?_
          refine gx_tape_length hx hb hts hown hK hP fl_X0_60 dX0_write_116 ?_
          refine lv_iadd hx hb dX0_write_119 ?_
          refine lv_aload_n hx hb dX0_write_120 rfl (lv_at hl 0 rfl) ?_
          refine gx_bodies_nodes hx hb hts hown hK hP fl_X0_19 dX0_write_121 ?_
          refine lv_iload_n hx hb dX0_write_124 rfl (lv_at hl 1 rfl) ?_
          obtain ⟨r4, u5, hc6, hF⟩ := q_bnd_some hF
          refine sx_ci (Wd := (ax_W a cI L)) (σ1 := u5) (q_runV (Wd := (ax_W a cI L)) (σ := u) (q0 := 5) (ci := 4) (T := TX4) (N := 2) (As := [.int x1]) (rest := [.int (x2 + (q_i u 32))]) hx hb hml hown hts hK hP (kt_X4_lengthOf hD hc6) cw_X0_33 rfl rfl ⟨Nat.le_of_ble_eq_true rfl, Nat.le_of_ble_eq_true rfl⟩ rfl rfl rfl hl.1 rfl (Nat.le_of_ble_eq_true rfl) dX0_write_125) hS (fun H locs hP hS => ?_)
          refine sx_icmp_le (tgt := 145) hx hb hF dX0_write_128 (by decide) (fun hF => ?_) (fun hF => ?_)
          · exact sx_retv (Wd := (ax_W a cI L)) (σ := u5) hx hb hr hF hP hS hlocks dX0_write_145
          · refine lv_aload_n hx hb dX0_write_131 rfl (lv_at hl 0 rfl) ?_
            refine gx_bodies_nodes hx hb hts hown hK hP fl_X0_19 dX0_write_132 ?_
            refine lv_iload_n hx hb dX0_write_135 rfl (lv_at hl 1 rfl) ?_
            refine lv_iload_n hx hb dX0_write_136 rfl (lv_at hl 2 rfl) ?_
            refine lv_aload_n hx hb dX0_write_137 rfl (lv_at hl 3 rfl) ?_
            refine gx_tape_length hx hb hts hown hK hP fl_X0_60 dX0_write_138 ?_
            refine lv_iadd hx hb dX0_write_141 ?_
            obtain ⟨r7, u8, hc9, hF⟩ := q_bnd_some hF
            refine sx_cv (Wd := (ax_W a cI L)) (σ1 := u8) (q_runV (Wd := (ax_W a cI L)) (σ := u5) (q0 := 5) (ci := 4) (T := TX4) (N := 2) (As := [.int x1, .int (x2 + (q_i u5 32))]) (rest := []) hx hb hml hown hts hK hP (kt_X4_setLength hD hc9) cw_X0_75 rfl rfl ⟨Nat.le_of_ble_eq_true rfl, Nat.le_of_ble_eq_true rfl⟩ rfl rfl rfl hl.1 rfl (Nat.le_of_ble_eq_true rfl) dX0_write_142) hS (fun H locs hP hS => ?_)
            exact sx_retv (Wd := (ax_W a cI L)) (σ := u8) hx hb hr hF hP hS hlocks dX0_write_145
      · refine lv_iload_n hx hb dX0_write_34 rfl (lv_at hl 2 rfl) ?_
        refine lv_iload hx hb dX0_write_35 (lv_at hl 6 rfl) ?_
        refine lv_iadd hx hb dX0_write_37 ?_
        refine lv_bipush (v := 64) hx hb dX0_write_38 (by decide) ?_
        refine lv_irem hx hb dX0_write_40 (by decide) ?_
        refine sx_istore (lv2 := [(0, .ref (a 7)), (1, .int x1), (2, .int x2), (3, .ref (a 8)), (4, .int x4), (5, .int x5), (6, .int x6)]) hx hb hF dX0_write_41 hl (by decide) rfl (fun v10 hF ls hl => ?_)
        refine lv_iload hx hb dX0_write_43 (lv_at hl 7 rfl) ?_
        refine sx_if_eq (tgt := 53) hx hb hF dX0_write_45 (by decide) (fun hF => ?_) (fun hF => ?_)
        · exact hB53 ih25 hi25 x1 x2 x4 x6 v10 u ls (lv_sub hl [1, 2, 3, 4, 5, 7, 0] rfl) hF _ _ hP hS
        · refine lv_iload hx hb dX0_write_48 (lv_at hl 0 rfl) ?_
          refine sx_if_ne (tgt := 86) hx hb hF dX0_write_50 (by decide) (fun hF => ?_) (fun hF => ?_)
          · exact hB86 ih25 hi25 x1 x2 x4 x5 x6 v10 u ls (lv_sub hl [1, 2, 3, 4, 5, 6, 7, 0] rfl) hF _ _ hP hS
          · exact hB53 ih25 hi25 x1 x2 x4 x6 v10 u ls (lv_sub hl [1, 2, 3, 4, 5, 7, 0] rfl) hF _ _ hP hS
  have hB17 : ∀ (x1 : Int32) (x2 : Int32) (y0 : Int32) (u : q_St) (ls : Array Slot), lv_has ls 9 [(0, .ref (a 7)), (1, .int x1), (2, .int x2), (3, .ref (a 8))] → fX0_write_8_b17 L N x1 x2 y0 u = some (r0, σ0) → ∀ (H : Heap) (locs : List Loc), va_P D vwCl (ax_W a cI L u) H → va_S (ax_A a) s.heap H locs → W p l e (headSpec (Cond.code yX0_write cX0_write 9 none :: q_T) ({ frames := 5, cells := 0, slots := 0, locals := 127 } : Room)).room s m ([.ref (a 7), .int o1, .int o2, .ref (a 8)] : List Value).toArray below meth c H locs 0 0 (MQ below (q_Qv D vwCl (ax_W a cI L) (ax_A a) σ0) ([.ref (a 7), .int o1, .int o2, .ref (a 8)] : List Value).toArray s 0 0 (ax_A a)) (F0 m 17 ls [.int y0]) := by
    intro x1 x2 y0 u ls hl hF _ _ hP hS
    unfold fX0_write_8_b17 at hF
    refine lv_istore (lv' := [(4, .int y0), (0, .ref (a 7)), (1, .int x1), (2, .int x2), (3, .ref (a 8))]) hx hb dX0_write_17 hl (by decide) rfl (fun ls hl => ?_)
    refine lv_iconst (v := 0) hx hb dX0_write_19 (by decide) ?_
    refine lv_istore (lv' := [(5, .int 0), (4, .int y0), (0, .ref (a 7)), (1, .int x1), (2, .int x2), (3, .ref (a 8))]) hx hb dX0_write_20 hl (by decide) rfl (fun ls hl => ?_)
    refine lv_iconst (v := 0) hx hb dX0_write_22 (by decide) ?_
    refine lv_istore (lv' := [(6, .int 0), (5, .int 0), (4, .int y0), (0, .ref (a 7)), (1, .int x1), (2, .int x2), (3, .ref (a 8))]) hx hb dX0_write_23 hl (by decide) rfl (fun ls hl => ?_)
    exact hB25 N x1 x2 y0 0 0 u ls (lv_sub hl [3, 4, 5, 6, 2, 1, 0] rfl) hF _ _ hP hS
  unfold fX0_write_8 at hF
  refine lv_aload_n hx hb dX0_write_0 rfl (lv_at hl 0 rfl) ?_
  refine gx_bodies_nodes hx hb hts hown hK hP fl_X0_19 dX0_write_1 ?_
  refine lv_iload_n hx hb dX0_write_4 rfl (lv_at hl 1 rfl) ?_
  obtain ⟨r1, u2, hc3, hF⟩ := q_bnd_some hF
  refine sx_ci (Wd := (ax_W a cI L)) (σ1 := u2) (q_runV (Wd := (ax_W a cI L)) (σ := u) (q0 := 5) (ci := 4) (T := TX4) (N := 2) (As := [.int o1]) (rest := []) hx hb hml hown hts hK hP (kt_X4_kindOf hD hc3) cw_X0_27 rfl rfl ⟨Nat.le_of_ble_eq_true rfl, Nat.le_of_ble_eq_true rfl⟩ rfl rfl rfl hl.1 rfl (Nat.le_of_ble_eq_true rfl) dX0_write_5) hS (fun H locs hP hS => ?_)
  refine lv_iconst (v := 3) hx hb dX0_write_8 (by decide) ?_
  refine sx_icmp_ne (tgt := 16) hx hb hF dX0_write_9 (by decide) (fun hF => ?_) (fun hF => ?_)
  · refine lv_iconst (v := 0) hx hb dX0_write_16 (by decide) ?_
    exact hB17 o1 o2 0 u2 ls (lv_sub hl [0, 1, 2, 3] rfl) hF _ _ hP hS
  · refine lv_iconst (v := 1) hx hb dX0_write_12 (by decide) ?_
    refine lv_goto (tgt := 17) hx hb dX0_write_13 (by decide) ?_
    exact hB17 o1 o2 1 u2 ls (lv_sub hl [0, 1, 2, 3] rfl) hF _ _ hP hS
set_option maxHeartbeats 4000000 in
set_option maxRecDepth 100000 in
theorem kt_X0_farIndex {N : Nat} {l : Launch} {D : va_G} {a : Nat → Nat} {cI : Nat → ClassId} {L : Nat → Nat} (hD : ∀ σ, va_D (ax_A a) (ax_W a cI L σ)) {o1 : Int32} {o2 : Int32} {u σ0 : q_St} {r0 : Int32} (hF : fX0_farIndex L N o1 o2 u = some (r0, σ0)) : Met l yX0_farIndex (Cond.code yX0_farIndex cX0_farIndex 3 (some .int) :: q_T) ({ frames := 3, cells := 0, slots := 0, locals := 68 } : Room) (q_P D vwCl (ax_T cI) (ax_W a cI L) [.ref (a 7), .int o1, .int o2] u) (q_Qi D vwCl (ax_W a cI L) (ax_A a) r0 σ0) 0 0 (ax_A a) := by
  refine Met.ofW (cc := cX0_farIndex) (maxL := 3) (ret := (some .int)) (by decide) rfl ?_
  intro p e s m args below meth c s₁ B hml hv
  obtain ⟨rfl, hP, hK⟩ := hv
  have hx := B.exec
  have hb := B.bytes
  have hr := B.returns
  have hts := q_ts (atoms_spec (ws := Cond.code yX0_farIndex cX0_farIndex 3 (some .int) :: q_T) B.pre)
  have hown : s.vm.findClass RX0 = some m.cls := findClass_of_methodNamed B.named
  have hlocks := B.notSynchronized
  have hS : va_S (ax_A a) s.heap s.heap [] := va_S.rf
  have hl := lv_entry ([.ref (a 7), .int o1, .int o2]) (n := 3) (Nat.le_of_ble_eq_true rfl)
  rw [lg_entry_eq]
  generalize (lg_sl ([.ref (a 7), .int o1, .int o2]) ++ List.replicate (3 - (lg_sl ([.ref (a 7), .int o1, .int o2])).length) Slot.unset).toArray = ls at hl ⊢
  have hl : lv_has ls 3 [(0, .ref (a 7)), (1, .int o1), (2, .int o2)] := hl
  have hB10 : ∀ (u : q_St) (ls : Array Slot), lv_has ls 3 [] → fX0_farIndex_b10 L N u = some (r0, σ0) → ∀ (H : Heap) (locs : List Loc), va_P D vwCl (ax_W a cI L u) H → va_S (ax_A a) s.heap H locs → W p l e (headSpec (Cond.code yX0_farIndex cX0_farIndex 3 (some .int) :: q_T) ({ frames := 3, cells := 0, slots := 0, locals := 68 } : Room)).room s m ([.ref (a 7), .int o1, .int o2] : List Value).toArray below meth c H locs 0 0 (MQ below (q_Qi D vwCl (ax_W a cI L) (ax_A a) r0 σ0) ([.ref (a 7), .int o1, .int o2] : List Value).toArray s 0 0 (ax_A a)) (F0 m 10 ls []) := by
    intro u ls hl hF _ _ hP hS
    unfold fX0_farIndex_b10 at hF
    refine lv_iconst (v := 0) hx hb dX0_farIndex_10 (by decide) ?_
    refine lv_goto (tgt := 39) hx hb dX0_farIndex_11 (by decide) ?_
    exact sx_reti (Wd := (ax_W a cI L)) (σ := u) hx hb hr hF hP hS hlocks dX0_farIndex_39
  unfold fX0_farIndex at hF
  refine lv_iload_n hx hb dX0_farIndex_0 rfl (lv_at hl 2 rfl) ?_
  refine sx_if_lt (tgt := 10) hx hb hF dX0_farIndex_1 (by decide) (fun hF => ?_) (fun hF => ?_)
  · exact hB10 u ls (lv_sub hl [] rfl) hF _ _ hP hS
  · refine lv_iload_n hx hb dX0_farIndex_4 rfl (lv_at hl 2 rfl) ?_
    refine lv_bipush (v := 32) hx hb dX0_farIndex_5 (by decide) ?_
    refine sx_icmp_lt (tgt := 14) hx hb hF dX0_farIndex_7 (by decide) (fun hF => ?_) (fun hF => ?_)
    · refine lv_aload_n hx hb dX0_farIndex_14 rfl (lv_at hl 0 rfl) ?_
      refine gx_bodies_store hx hb hts hown hK hP fl_X0_11 dX0_farIndex_15 ?_
      refine lv_aload_n hx hb dX0_farIndex_18 rfl (lv_at hl 0 rfl) ?_
      refine gx_bodies_store hx hb hts hown hK hP fl_X0_11 dX0_farIndex_19 ?_
      refine lv_aload_n hx hb dX0_farIndex_22 rfl (lv_at hl 0 rfl) ?_
      refine gx_bodies_nodes hx hb hts hown hK hP fl_X0_19 dX0_farIndex_23 ?_
      refine lv_iload_n hx hb dX0_farIndex_26 rfl (lv_at hl 1 rfl) ?_
      obtain ⟨r1, u2, hc3, hF⟩ := q_bnd_some hF
      refine sx_ci (Wd := (ax_W a cI L)) (σ1 := u2) (q_runV (Wd := (ax_W a cI L)) (σ := u) (q0 := 5) (ci := 4) (T := TX4) (N := 2) (As := [.int o1]) (rest := [.ref (a 3), .ref (a 3)]) hx hb hml hown hts hK hP (kt_X4_sectorOf hD hc3) cw_X0_36 rfl rfl ⟨Nat.le_of_ble_eq_true rfl, Nat.le_of_ble_eq_true rfl⟩ rfl rfl rfl hl.1 rfl (Nat.le_of_ble_eq_true rfl) dX0_farIndex_27) hS (fun H locs hP hS => ?_)
      refine lv_bipush (v := 17) hx hb dX0_farIndex_30 (by decide) ?_
      obtain ⟨r4, u5, hc6, hF⟩ := q_bnd_some hF
      refine sx_ci (Wd := (ax_W a cI L)) (σ1 := u5) (q_runV (Wd := (ax_W a cI L)) (σ := u2) (q0 := 3) (ci := 6) (T := TX6) (N := 9) (As := [.int r1, .int 17]) (rest := [.ref (a 3)]) hx hb hml hown hts hK hP (kt_X6_half hD hc6) cw_X0_54 rfl rfl ⟨Nat.le_of_ble_eq_true rfl, Nat.le_of_ble_eq_true rfl⟩ rfl rfl rfl hl.1 rfl (Nat.le_of_ble_eq_true rfl) dX0_farIndex_32) hS (fun H locs hP hS => ?_)
      refine lv_iload_n hx hb dX0_farIndex_35 rfl (lv_at hl 2 rfl) ?_
      obtain ⟨r7, u8, hc9, hF⟩ := q_bnd_some hF
      refine sx_ci (Wd := (ax_W a cI L)) (σ1 := u8) (q_runV (Wd := (ax_W a cI L)) (σ := u5) (q0 := 3) (ci := 6) (T := TX6) (N := 9) (As := [.int r4, .int o2]) (rest := []) hx hb hml hown hts hK hP (kt_X6_half hD hc9) cw_X0_54 rfl rfl ⟨Nat.le_of_ble_eq_true rfl, Nat.le_of_ble_eq_true rfl⟩ rfl rfl rfl hl.1 rfl (Nat.le_of_ble_eq_true rfl) dX0_farIndex_36) hS (fun H locs hP hS => ?_)
      exact sx_reti (Wd := (ax_W a cI L)) (σ := u8) hx hb hr hF hP hS hlocks dX0_farIndex_39
    · exact hB10 u ls (lv_sub hl [] rfl) hF _ _ hP hS
set_option maxHeartbeats 4000000 in
set_option maxRecDepth 100000 in
theorem kt_X0_pieceBlock {N : Nat} {l : Launch} {D : va_G} {a : Nat → Nat} {cI : Nat → ClassId} {L : Nat → Nat} (hD : ∀ σ, va_D (ax_A a) (ax_W a cI L σ)) {o1 : Int32} {o2 : Int32} {u σ0 : q_St} {r0 : Int32} (hF : fX0_pieceBlock L N o1 o2 u = some (r0, σ0)) : Met l yX0_pieceBlock (Cond.code yX0_pieceBlock cX0_pieceBlock 5 (some .int) :: q_T) ({ frames := 4, cells := 0, slots := 0, locals := 90 } : Room) (q_P D vwCl (ax_T cI) (ax_W a cI L) [.ref (a 7), .int o1, .int o2] u) (q_Qi D vwCl (ax_W a cI L) (ax_A a) r0 σ0) 0 0 (ax_A a) := by
  refine Met.ofW (cc := cX0_pieceBlock) (maxL := 5) (ret := (some .int)) (by decide) rfl ?_
  intro p e s m args below meth c s₁ B hml hv
  obtain ⟨rfl, hP, hK⟩ := hv
  have hx := B.exec
  have hb := B.bytes
  have hr := B.returns
  have hts := q_ts (atoms_spec (ws := Cond.code yX0_pieceBlock cX0_pieceBlock 5 (some .int) :: q_T) B.pre)
  have hown : s.vm.findClass RX0 = some m.cls := findClass_of_methodNamed B.named
  have hlocks := B.notSynchronized
  have hS : va_S (ax_A a) s.heap s.heap [] := va_S.rf
  have hl := lv_entry ([.ref (a 7), .int o1, .int o2]) (n := 5) (Nat.le_of_ble_eq_true rfl)
  rw [lg_entry_eq]
  generalize (lg_sl ([.ref (a 7), .int o1, .int o2]) ++ List.replicate (5 - (lg_sl ([.ref (a 7), .int o1, .int o2])).length) Slot.unset).toArray = ls at hl ⊢
  have hl : lv_has ls 5 [(0, .ref (a 7)), (1, .int o1), (2, .int o2)] := hl
  unfold fX0_pieceBlock at hF
  refine lv_aload_n hx hb dX0_pieceBlock_0 rfl (lv_at hl 0 rfl) ?_
  refine gx_bodies_nodes hx hb hts hown hK hP fl_X0_19 dX0_pieceBlock_1 ?_
  refine lv_iload_n hx hb dX0_pieceBlock_4 rfl (lv_at hl 1 rfl) ?_
  obtain ⟨r1, u2, hc3, hF⟩ := q_bnd_some hF
  refine sx_ci (Wd := (ax_W a cI L)) (σ1 := u2) (q_runV (Wd := (ax_W a cI L)) (σ := u) (q0 := 5) (ci := 4) (T := TX4) (N := 2) (As := [.int o1]) (rest := []) hx hb hml hown hts hK hP (kt_X4_sectorOf hD hc3) cw_X0_36 rfl rfl ⟨Nat.le_of_ble_eq_true rfl, Nat.le_of_ble_eq_true rfl⟩ rfl rfl rfl hl.1 rfl (Nat.le_of_ble_eq_true rfl) dX0_pieceBlock_5) hS (fun H locs hP hS => ?_)
  refine lv_istore_n (lv' := [(3, .int r1), (0, .ref (a 7)), (1, .int o1), (2, .int o2)]) hx hb dX0_pieceBlock_8 rfl hl (by decide) rfl (fun ls hl => ?_)
  refine lv_iload_n hx hb dX0_pieceBlock_9 rfl (lv_at hl 3 rfl) ?_
  refine sx_if_lt (tgt := 20) hx hb hF dX0_pieceBlock_10 (by decide) (fun hF => ?_) (fun hF => ?_)
  · refine lv_iconst (v := 0) hx hb dX0_pieceBlock_20 (by decide) ?_
    exact sx_reti (Wd := (ax_W a cI L)) (σ := u2) hx hb hr hF hP hS hlocks dX0_pieceBlock_21
  · refine lv_iload_n hx hb dX0_pieceBlock_13 rfl (lv_at hl 3 rfl) ?_
    refine lv_sipush (v := 1068) hx hb dX0_pieceBlock_14 (by decide) ?_
    refine sx_icmp_lt (tgt := 22) hx hb hF dX0_pieceBlock_17 (by decide) (fun hF => ?_) (fun hF => ?_)
    · refine lv_iload_n hx hb dX0_pieceBlock_22 rfl (lv_at hl 3 rfl) ?_
      refine lv_bipush (v := 12) hx hb dX0_pieceBlock_23 (by decide) ?_
      refine sx_icmp_ge (tgt := 40) hx hb hF dX0_pieceBlock_25 (by decide) (fun hF => ?_) (fun hF => ?_)
      · refine lv_iload_n hx hb dX0_pieceBlock_40 rfl (lv_at hl 3 rfl) ?_
        refine lv_bipush (v := 44) hx hb dX0_pieceBlock_41 (by decide) ?_
        refine sx_icmp_ge (tgt := 68) hx hb hF dX0_pieceBlock_43 (by decide) (fun hF => ?_) (fun hF => ?_)
        · refine lv_iload_n hx hb dX0_pieceBlock_68 rfl (lv_at hl 3 rfl) ?_
          refine lv_bipush (v := 44) hx hb dX0_pieceBlock_69 (by decide) ?_
          refine lv_isub hx hb dX0_pieceBlock_71 ?_
          refine sx_istore (lv2 := [(3, .int r1), (0, .ref (a 7)), (1, .int o1), (2, .int o2)]) hx hb hF dX0_pieceBlock_72 hl (by decide) rfl (fun v4 hF ls hl => ?_)
          refine lv_aload_n hx hb dX0_pieceBlock_74 rfl (lv_at hl 2 rfl) ?_
          refine gx_bodies_store hx hb hts hown hK hP fl_X0_11 dX0_pieceBlock_75 ?_
          refine lv_aload_n hx hb dX0_pieceBlock_78 rfl (lv_at hl 2 rfl) ?_
          refine lv_iload_n hx hb dX0_pieceBlock_79 rfl (lv_at hl 3 rfl) ?_
          refine lv_iload hx hb dX0_pieceBlock_80 (lv_at hl 0 rfl) ?_
          refine lv_bipush (v := 32) hx hb dX0_pieceBlock_82 (by decide) ?_
          refine lv_idiv hx hb dX0_pieceBlock_84 (by decide) ?_
          obtain ⟨r5, u6, hc7, hF⟩ := q_bnd_some hF
          refine sx_ci (Wd := (ax_W a cI L)) (σ1 := u6) (q_runV (Wd := (ax_W a cI L)) (σ := u2) (q0 := 7) (ci := 0) (T := TX0) (N := 4) (As := [.int o1, .int (v4 / 32)]) (rest := [.ref (a 3)]) hx hb hml hown hts hK hP (kt_X0_farIndex hD hc7) cw_X0_57 rfl rfl ⟨Nat.le_of_ble_eq_true rfl, Nat.le_of_ble_eq_true rfl⟩ rfl rfl rfl hl.1 rfl (Nat.le_of_ble_eq_true rfl) dX0_pieceBlock_85) hS (fun H locs hP hS => ?_)
          refine lv_iload hx hb dX0_pieceBlock_88 (lv_at hl 0 rfl) ?_
          refine lv_bipush (v := 32) hx hb dX0_pieceBlock_90 (by decide) ?_
          refine lv_irem hx hb dX0_pieceBlock_92 (by decide) ?_
          obtain ⟨r8, u9, hc10, hF⟩ := q_bnd_some hF
          refine sx_ci (Wd := (ax_W a cI L)) (σ1 := u9) (q_runV (Wd := (ax_W a cI L)) (σ := u6) (q0 := 3) (ci := 6) (T := TX6) (N := 9) (As := [.int r5, .int (v4 - v4 / 32 * 32)]) (rest := []) hx hb hml hown hts hK hP (kt_X6_half hD hc10) cw_X0_54 rfl rfl ⟨Nat.le_of_ble_eq_true rfl, Nat.le_of_ble_eq_true rfl⟩ rfl rfl rfl hl.1 rfl (Nat.le_of_ble_eq_true rfl) dX0_pieceBlock_93) hS (fun H locs hP hS => ?_)
          exact sx_reti (Wd := (ax_W a cI L)) (σ := u9) hx hb hr hF hP hS hlocks dX0_pieceBlock_96
        · refine lv_aload_n hx hb dX0_pieceBlock_46 rfl (lv_at hl 1 rfl) ?_
          refine gx_bodies_store hx hb hts hown hK hP fl_X0_11 dX0_pieceBlock_47 ?_
          refine lv_aload_n hx hb dX0_pieceBlock_50 rfl (lv_at hl 1 rfl) ?_
          refine gx_bodies_store hx hb hts hown hK hP fl_X0_11 dX0_pieceBlock_51 ?_
          refine lv_iload_n hx hb dX0_pieceBlock_54 rfl (lv_at hl 0 rfl) ?_
          refine lv_bipush (v := 16) hx hb dX0_pieceBlock_55 (by decide) ?_
          obtain ⟨r11, u12, hc13, hF⟩ := q_bnd_some hF
          refine sx_ci (Wd := (ax_W a cI L)) (σ1 := u12) (q_runV (Wd := (ax_W a cI L)) (σ := u2) (q0 := 3) (ci := 6) (T := TX6) (N := 9) (As := [.int r1, .int 16]) (rest := [.ref (a 3)]) hx hb hml hown hts hK hP (kt_X6_half hD hc13) cw_X0_54 rfl rfl ⟨Nat.le_of_ble_eq_true rfl, Nat.le_of_ble_eq_true rfl⟩ rfl rfl rfl hl.1 rfl (Nat.le_of_ble_eq_true rfl) dX0_pieceBlock_57) hS (fun H locs hP hS => ?_)
          refine lv_iload_n hx hb dX0_pieceBlock_60 rfl (lv_at hl 3 rfl) ?_
          refine lv_bipush (v := 12) hx hb dX0_pieceBlock_61 (by decide) ?_
          refine lv_isub hx hb dX0_pieceBlock_63 ?_
          obtain ⟨r14, u15, hc16, hF⟩ := q_bnd_some hF
          refine sx_ci (Wd := (ax_W a cI L)) (σ1 := u15) (q_runV (Wd := (ax_W a cI L)) (σ := u12) (q0 := 3) (ci := 6) (T := TX6) (N := 9) (As := [.int r11, .int (o2 - 12)]) (rest := []) hx hb hml hown hts hK hP (kt_X6_half hD hc16) cw_X0_54 rfl rfl ⟨Nat.le_of_ble_eq_true rfl, Nat.le_of_ble_eq_true rfl⟩ rfl rfl rfl hl.1 rfl (Nat.le_of_ble_eq_true rfl) dX0_pieceBlock_64) hS (fun H locs hP hS => ?_)
          exact sx_reti (Wd := (ax_W a cI L)) (σ := u15) hx hb hr hF hP hS hlocks dX0_pieceBlock_67
      · refine lv_aload_n hx hb dX0_pieceBlock_28 rfl (lv_at hl 1 rfl) ?_
        refine gx_bodies_store hx hb hts hown hK hP fl_X0_11 dX0_pieceBlock_29 ?_
        refine lv_iload_n hx hb dX0_pieceBlock_32 rfl (lv_at hl 0 rfl) ?_
        refine lv_iconst (v := 4) hx hb dX0_pieceBlock_33 (by decide) ?_
        refine lv_iload_n hx hb dX0_pieceBlock_34 rfl (lv_at hl 3 rfl) ?_
        refine lv_iadd hx hb dX0_pieceBlock_35 ?_
        obtain ⟨r17, u18, hc19, hF⟩ := q_bnd_some hF
        refine sx_ci (Wd := (ax_W a cI L)) (σ1 := u18) (q_runV (Wd := (ax_W a cI L)) (σ := u2) (q0 := 3) (ci := 6) (T := TX6) (N := 9) (As := [.int r1, .int (4 + o2)]) (rest := []) hx hb hml hown hts hK hP (kt_X6_half hD hc19) cw_X0_54 rfl rfl ⟨Nat.le_of_ble_eq_true rfl, Nat.le_of_ble_eq_true rfl⟩ rfl rfl rfl hl.1 rfl (Nat.le_of_ble_eq_true rfl) dX0_pieceBlock_36) hS (fun H locs hP hS => ?_)
        exact sx_reti (Wd := (ax_W a cI L)) (σ := u18) hx hb hr hF hP hS hlocks dX0_pieceBlock_39
    · refine lv_iconst (v := 0) hx hb dX0_pieceBlock_20 (by decide) ?_
      exact sx_reti (Wd := (ax_W a cI L)) (σ := u2) hx hb hr hF hP hS hlocks dX0_pieceBlock_21
set_option maxHeartbeats 4000000 in
set_option maxRecDepth 100000 in
theorem kt_X0_blocksWanted {N : Nat} {l : Launch} {D : va_G} {a : Nat → Nat} {cI : Nat → ClassId} {L : Nat → Nat} (hD : ∀ σ, va_D (ax_A a) (ax_W a cI L σ)) {o1 : Int32} {o2 : Int32} {o3 : Int32} {u σ0 : q_St} {r0 : Int32} (hF : fX0_blocksWanted L N o1 o2 o3 u = some (r0, σ0)) : Met l yX0_blocksWanted (Cond.code yX0_blocksWanted cX0_blocksWanted 10 (some .int) :: q_T) ({ frames := 5, cells := 0, slots := 0, locals := 114 } : Room) (q_P D vwCl (ax_T cI) (ax_W a cI L) [.ref (a 7), .int o1, .int o2, .int o3] u) (q_Qi D vwCl (ax_W a cI L) (ax_A a) r0 σ0) 0 0 (ax_A a) := by
  refine Met.ofW (cc := cX0_blocksWanted) (maxL := 10) (ret := (some .int)) (by decide) rfl ?_
  intro p e s m args below meth c s₁ B hml hv
  obtain ⟨rfl, hP, hK⟩ := hv
  have hx := B.exec
  have hb := B.bytes
  have hr := B.returns
  have hts := q_ts (atoms_spec (ws := Cond.code yX0_blocksWanted cX0_blocksWanted 10 (some .int) :: q_T) B.pre)
  have hown : s.vm.findClass RX0 = some m.cls := findClass_of_methodNamed B.named
  have hlocks := B.notSynchronized
  have hS : va_S (ax_A a) s.heap s.heap [] := va_S.rf
  have hl := lv_entry ([.ref (a 7), .int o1, .int o2, .int o3]) (n := 10) (Nat.le_of_ble_eq_true rfl)
  rw [lg_entry_eq]
  generalize (lg_sl ([.ref (a 7), .int o1, .int o2, .int o3]) ++ List.replicate (10 - (lg_sl ([.ref (a 7), .int o1, .int o2, .int o3])).length) Slot.unset).toArray = ls at hl ⊢
  have hl : lv_has ls 10 [(0, .ref (a 7)), (1, .int o1), (2, .int o2), (3, .int o3)] := hl
  have hB172 : ∀ (ih125 : Int32 → Int32 → Int32 → Int32 → Int32 → q_St → Option (Int32 × q_St)) (hi125 : ∀ (x1 : Int32) (x5 : Int32) (x6 : Int32) (x7 : Int32) (x8 : Int32) (u : q_St) (ls : Array Slot), lv_has ls 10 [(0, .ref (a 7)), (1, .int x1), (5, .int x5), (6, .int x6), (7, .int x7), (8, .int x8)] → ih125 x1 x5 x6 x7 x8 u = some (r0, σ0) → ∀ (H : Heap) (locs : List Loc), va_P D vwCl (ax_W a cI L u) H → va_S (ax_A a) s.heap H locs → W p l e (headSpec (Cond.code yX0_blocksWanted cX0_blocksWanted 10 (some .int) :: q_T) ({ frames := 5, cells := 0, slots := 0, locals := 114 } : Room)).room s m ([.ref (a 7), .int o1, .int o2, .int o3] : List Value).toArray below meth c H locs 0 0 (MQ below (q_Qi D vwCl (ax_W a cI L) (ax_A a) r0 σ0) ([.ref (a 7), .int o1, .int o2, .int o3] : List Value).toArray s 0 0 (ax_A a)) (F0 m 125 ls [])), ∀ (x1 : Int32) (x5 : Int32) (x6 : Int32) (x7 : Int32) (x8 : Int32) (u : q_St) (ls : Array Slot), lv_has ls 10 [(0, .ref (a 7)), (1, .int x1), (5, .int x5), (6, .int x6), (7, .int x7), (8, .int x8)] → fX0_blocksWanted_b172 L N ih125 x1 x5 x6 x7 x8 u = some (r0, σ0) → ∀ (H : Heap) (locs : List Loc), va_P D vwCl (ax_W a cI L u) H → va_S (ax_A a) s.heap H locs → W p l e (headSpec (Cond.code yX0_blocksWanted cX0_blocksWanted 10 (some .int) :: q_T) ({ frames := 5, cells := 0, slots := 0, locals := 114 } : Room)).room s m ([.ref (a 7), .int o1, .int o2, .int o3] : List Value).toArray below meth c H locs 0 0 (MQ below (q_Qi D vwCl (ax_W a cI L) (ax_A a) r0 σ0) ([.ref (a 7), .int o1, .int o2, .int o3] : List Value).toArray s 0 0 (ax_A a)) (F0 m 172 ls []) := by
    intro ih125 hi125 x1 x5 x6 x7 x8 u ls hl hF _ _ hP hS
    unfold fX0_blocksWanted_b172 at hF
    refine sx_iinc (d := 1) (k := 5) (lv2 := [(0, .ref (a 7)), (1, .int x1), (5, .int x5), (6, .int x6), (7, .int x7)]) hx hb hF dX0_blocksWanted_172 hl rfl (by decide) (by decide) rfl (fun v7 hF ls hl => ?_)
    refine lv_goto (tgt := 125) hx hb dX0_blocksWanted_175 (by decide) ?_
    exact hi125 x1 x5 x6 x7 v7 u ls (lv_sub hl [1, 2, 3, 4, 5, 0] rfl) hF _ _ hP hS
  have hB125 : ∀ (n : Nat) (x1 : Int32) (x5 : Int32) (x6 : Int32) (x7 : Int32) (x8 : Int32) (u : q_St) (ls : Array Slot), lv_has ls 10 [(0, .ref (a 7)), (1, .int x1), (5, .int x5), (6, .int x6), (7, .int x7), (8, .int x8)] → q_lp (fX0_blocksWanted_b125 L N) (fun _ _ _ _ _ _ => none) n x1 x5 x6 x7 x8 u = some (r0, σ0) → ∀ (H : Heap) (locs : List Loc), va_P D vwCl (ax_W a cI L u) H → va_S (ax_A a) s.heap H locs → W p l e (headSpec (Cond.code yX0_blocksWanted cX0_blocksWanted 10 (some .int) :: q_T) ({ frames := 5, cells := 0, slots := 0, locals := 114 } : Room)).room s m ([.ref (a 7), .int o1, .int o2, .int o3] : List Value).toArray below meth c H locs 0 0 (MQ below (q_Qi D vwCl (ax_W a cI L) (ax_A a) r0 σ0) ([.ref (a 7), .int o1, .int o2, .int o3] : List Value).toArray s 0 0 (ax_A a)) (F0 m 125 ls []) := by
    intro n
    induction n with
    | zero => intro x1 x5 x6 x7 x8 u ls hl hF; exact absurd (show (none : Option (Int32 × q_St)) = some _ from hF) (fun h => nomatch h)
    | succ n hi125 =>
      intro x1 x5 x6 x7 x8 u ls hl hF _ _ hP hS
      obtain ⟨ih125, hih⟩ : ∃ q, q = q_lp (fX0_blocksWanted_b125 L N) (fun _ _ _ _ _ _ => none) n := ⟨_, rfl⟩
      rw [← hih] at hi125
      have hF : fX0_blocksWanted_b125 L N (q_lp (fX0_blocksWanted_b125 L N) (fun _ _ _ _ _ _ => none) n) x1 x5 x6 x7 x8 u = some (r0, σ0) := hF
      rw [← hih] at hF
      clear hih
      unfold fX0_blocksWanted_b125 at hF
      refine lv_iload hx hb dX0_blocksWanted_125 (lv_at hl 5 rfl) ?_
      refine lv_bipush (v := 32) hx hb dX0_blocksWanted_127 (by decide) ?_
      refine sx_icmp_ge (tgt := 178) hx hb hF dX0_blocksWanted_129 (by decide) (fun hF => ?_) (fun hF => ?_)
      · refine lv_iload hx hb dX0_blocksWanted_178 (lv_at hl 4 rfl) ?_
        exact sx_reti (Wd := (ax_W a cI L)) (σ := u) hx hb hr hF hP hS hlocks dX0_blocksWanted_180
      · refine lv_bipush (v := 44) hx hb dX0_blocksWanted_132 (by decide) ?_
        refine lv_bipush (v := 32) hx hb dX0_blocksWanted_134 (by decide) ?_
        refine lv_iload hx hb dX0_blocksWanted_136 (lv_at hl 5 rfl) ?_
        refine lv_imul hx hb dX0_blocksWanted_138 ?_
        refine lv_iadd hx hb dX0_blocksWanted_139 ?_
        refine sx_istore (lv2 := [(0, .ref (a 7)), (1, .int x1), (5, .int x5), (6, .int x6), (7, .int x7), (8, .int x8)]) hx hb hF dX0_blocksWanted_140 hl (by decide) rfl (fun v6 hF ls hl => ?_)
        refine lv_iload hx hb dX0_blocksWanted_142 (lv_at hl 4 rfl) ?_
        refine lv_iload hx hb dX0_blocksWanted_144 (lv_at hl 0 rfl) ?_
        refine sx_icmp_lt (tgt := 172) hx hb hF dX0_blocksWanted_146 (by decide) (fun hF => ?_) (fun hF => ?_)
        · exact hB172 ih125 hi125 x1 x5 x6 x7 x8 u ls (lv_sub hl [1, 2, 3, 4, 5, 6] rfl) hF _ _ hP hS
        · refine lv_iload hx hb dX0_blocksWanted_149 (lv_at hl 3 rfl) ?_
          refine lv_iload hx hb dX0_blocksWanted_151 (lv_at hl 0 rfl) ?_
          refine lv_bipush (v := 32) hx hb dX0_blocksWanted_153 (by decide) ?_
          refine lv_iadd hx hb dX0_blocksWanted_155 ?_
          refine sx_icmp_ge (tgt := 172) hx hb hF dX0_blocksWanted_156 (by decide) (fun hF => ?_) (fun hF => ?_)
          · exact hB172 ih125 hi125 x1 x5 x6 x7 x8 u ls (lv_sub hl [1, 2, 3, 4, 5, 6] rfl) hF _ _ hP hS
          · refine lv_aload_n hx hb dX0_blocksWanted_159 rfl (lv_at hl 1 rfl) ?_
            refine lv_iload_n hx hb dX0_blocksWanted_160 rfl (lv_at hl 2 rfl) ?_
            refine lv_iload hx hb dX0_blocksWanted_161 (lv_at hl 6 rfl) ?_
            obtain ⟨r8, u9, hc10, hF⟩ := q_bnd_some hF
            refine sx_ci (Wd := (ax_W a cI L)) (σ1 := u9) (q_runV (Wd := (ax_W a cI L)) (σ := u) (q0 := 7) (ci := 0) (T := TX0) (N := 4) (As := [.int x1, .int x8]) (rest := []) hx hb hml hown hts hK hP (kt_X0_farIndex hD hc10) cw_X0_57 rfl rfl ⟨Nat.le_of_ble_eq_true rfl, Nat.le_of_ble_eq_true rfl⟩ rfl rfl rfl hl.1 rfl (Nat.le_of_ble_eq_true rfl) dX0_blocksWanted_163) hS (fun H locs hP hS => ?_)
            refine sx_if_ne (tgt := 172) hx hb hF dX0_blocksWanted_166 (by decide) (fun hF => ?_) (fun hF => ?_)
            · exact hB172 ih125 hi125 x1 x5 x6 x7 x8 u9 ls (lv_sub hl [1, 2, 3, 4, 5, 6] rfl) hF _ _ hP hS
            · refine sx_iinc (d := 1) (k := 5) (lv2 := [(9, .int v6), (0, .ref (a 7)), (1, .int x1), (5, .int x5), (6, .int x6), (8, .int x8)]) hx hb hF dX0_blocksWanted_169 hl rfl (by decide) (by decide) rfl (fun v11 hF ls hl => ?_)
              exact hB172 ih125 hi125 x1 x5 x6 v11 x8 u9 ls (lv_sub hl [2, 3, 4, 5, 0, 6] rfl) hF _ _ hP hS
  have hB122 : ∀ (x1 : Int32) (x5 : Int32) (x6 : Int32) (x7 : Int32) (u : q_St) (ls : Array Slot), lv_has ls 10 [(0, .ref (a 7)), (1, .int x1), (5, .int x5), (6, .int x6), (7, .int x7)] → fX0_blocksWanted_b122 L N x1 x5 x6 x7 u = some (r0, σ0) → ∀ (H : Heap) (locs : List Loc), va_P D vwCl (ax_W a cI L u) H → va_S (ax_A a) s.heap H locs → W p l e (headSpec (Cond.code yX0_blocksWanted cX0_blocksWanted 10 (some .int) :: q_T) ({ frames := 5, cells := 0, slots := 0, locals := 114 } : Room)).room s m ([.ref (a 7), .int o1, .int o2, .int o3] : List Value).toArray below meth c H locs 0 0 (MQ below (q_Qi D vwCl (ax_W a cI L) (ax_A a) r0 σ0) ([.ref (a 7), .int o1, .int o2, .int o3] : List Value).toArray s 0 0 (ax_A a)) (F0 m 122 ls []) := by
    intro x1 x5 x6 x7 u ls hl hF _ _ hP hS
    unfold fX0_blocksWanted_b122 at hF
    refine lv_iconst (v := 0) hx hb dX0_blocksWanted_122 (by decide) ?_
    refine lv_istore (lv' := [(8, .int 0), (0, .ref (a 7)), (1, .int x1), (5, .int x5), (6, .int x6), (7, .int x7)]) hx hb dX0_blocksWanted_123 hl (by decide) rfl (fun ls hl => ?_)
    exact hB125 N x1 x5 x6 x7 0 u ls (lv_sub hl [1, 2, 3, 4, 5, 0] rfl) hF _ _ hP hS
  have hB98 : ∀ (x1 : Int32) (x4 : Int32) (x5 : Int32) (x6 : Int32) (x7 : Int32) (u : q_St) (ls : Array Slot), lv_has ls 10 [(0, .ref (a 7)), (1, .int x1), (4, .int x4), (5, .int x5), (6, .int x6), (7, .int x7)] → fX0_blocksWanted_b98 L N x1 x4 x5 x6 x7 u = some (r0, σ0) → ∀ (H : Heap) (locs : List Loc), va_P D vwCl (ax_W a cI L u) H → va_S (ax_A a) s.heap H locs → W p l e (headSpec (Cond.code yX0_blocksWanted cX0_blocksWanted 10 (some .int) :: q_T) ({ frames := 5, cells := 0, slots := 0, locals := 114 } : Room)).room s m ([.ref (a 7), .int o1, .int o2, .int o3] : List Value).toArray below meth c H locs 0 0 (MQ below (q_Qi D vwCl (ax_W a cI L) (ax_A a) r0 σ0) ([.ref (a 7), .int o1, .int o2, .int o3] : List Value).toArray s 0 0 (ax_A a)) (F0 m 98 ls []) := by
    intro x1 x4 x5 x6 x7 u ls hl hF _ _ hP hS
    unfold fX0_blocksWanted_b98 at hF
    refine lv_iload hx hb dX0_blocksWanted_98 (lv_at hl 4 rfl) ?_
    refine lv_bipush (v := 44) hx hb dX0_blocksWanted_100 (by decide) ?_
    refine sx_icmp_lt (tgt := 122) hx hb hF dX0_blocksWanted_102 (by decide) (fun hF => ?_) (fun hF => ?_)
    · exact hB122 x1 x5 x6 x7 u ls (lv_sub hl [0, 1, 3, 4, 5] rfl) hF _ _ hP hS
    · refine lv_aload_n hx hb dX0_blocksWanted_105 rfl (lv_at hl 0 rfl) ?_
      refine gx_bodies_store hx hb hts hown hK hP fl_X0_11 dX0_blocksWanted_106 ?_
      refine lv_iload hx hb dX0_blocksWanted_109 (lv_at hl 2 rfl) ?_
      refine lv_bipush (v := 17) hx hb dX0_blocksWanted_111 (by decide) ?_
      obtain ⟨r12, u13, hc14, hF⟩ := q_bnd_some hF
      refine sx_ci (Wd := (ax_W a cI L)) (σ1 := u13) (q_runV (Wd := (ax_W a cI L)) (σ := u) (q0 := 3) (ci := 6) (T := TX6) (N := 9) (As := [.int x4, .int 17]) (rest := []) hx hb hml hown hts hK hP (kt_X6_half hD hc14) cw_X0_54 rfl rfl ⟨Nat.le_of_ble_eq_true rfl, Nat.le_of_ble_eq_true rfl⟩ rfl rfl rfl hl.1 rfl (Nat.le_of_ble_eq_true rfl) dX0_blocksWanted_113) hS (fun H locs hP hS => ?_)
      refine sx_if_ne (tgt := 122) hx hb hF dX0_blocksWanted_116 (by decide) (fun hF => ?_) (fun hF => ?_)
      · exact hB122 x1 x5 x6 x7 u13 ls (lv_sub hl [0, 1, 3, 4, 5] rfl) hF _ _ hP hS
      · refine sx_iinc (d := 1) (k := 5) (lv2 := [(0, .ref (a 7)), (1, .int x1), (4, .int x4), (5, .int x5), (6, .int x6)]) hx hb hF dX0_blocksWanted_119 hl rfl (by decide) (by decide) rfl (fun v15 hF ls hl => ?_)
        exact hB122 x1 x5 x6 v15 u13 ls (lv_sub hl [1, 2, 4, 5, 0] rfl) hF _ _ hP hS
  have hB67 : ∀ (x1 : Int32) (x4 : Int32) (x5 : Int32) (x6 : Int32) (x7 : Int32) (u : q_St) (ls : Array Slot), lv_has ls 10 [(0, .ref (a 7)), (1, .int x1), (4, .int x4), (5, .int x5), (6, .int x6), (7, .int x7)] → fX0_blocksWanted_b67 L N x1 x4 x5 x6 x7 u = some (r0, σ0) → ∀ (H : Heap) (locs : List Loc), va_P D vwCl (ax_W a cI L u) H → va_S (ax_A a) s.heap H locs → W p l e (headSpec (Cond.code yX0_blocksWanted cX0_blocksWanted 10 (some .int) :: q_T) ({ frames := 5, cells := 0, slots := 0, locals := 114 } : Room)).room s m ([.ref (a 7), .int o1, .int o2, .int o3] : List Value).toArray below meth c H locs 0 0 (MQ below (q_Qi D vwCl (ax_W a cI L) (ax_A a) r0 σ0) ([.ref (a 7), .int o1, .int o2, .int o3] : List Value).toArray s 0 0 (ax_A a)) (F0 m 67 ls []) := by
    intro x1 x4 x5 x6 x7 u ls hl hF _ _ hP hS
    unfold fX0_blocksWanted_b67 at hF
    refine lv_iload hx hb dX0_blocksWanted_67 (lv_at hl 4 rfl) ?_
    refine lv_bipush (v := 12) hx hb dX0_blocksWanted_69 (by decide) ?_
    refine sx_icmp_lt (tgt := 98) hx hb hF dX0_blocksWanted_71 (by decide) (fun hF => ?_) (fun hF => ?_)
    · exact hB98 x1 x4 x5 x6 x7 u ls (lv_sub hl [0, 1, 2, 3, 4, 5] rfl) hF _ _ hP hS
    · refine lv_iload hx hb dX0_blocksWanted_74 (lv_at hl 3 rfl) ?_
      refine lv_bipush (v := 44) hx hb dX0_blocksWanted_76 (by decide) ?_
      refine sx_icmp_ge (tgt := 98) hx hb hF dX0_blocksWanted_78 (by decide) (fun hF => ?_) (fun hF => ?_)
      · exact hB98 x1 x4 x5 x6 x7 u ls (lv_sub hl [0, 1, 2, 3, 4, 5] rfl) hF _ _ hP hS
      · refine lv_aload_n hx hb dX0_blocksWanted_81 rfl (lv_at hl 0 rfl) ?_
        refine gx_bodies_store hx hb hts hown hK hP fl_X0_11 dX0_blocksWanted_82 ?_
        refine lv_iload hx hb dX0_blocksWanted_85 (lv_at hl 2 rfl) ?_
        refine lv_bipush (v := 16) hx hb dX0_blocksWanted_87 (by decide) ?_
        obtain ⟨r16, u17, hc18, hF⟩ := q_bnd_some hF
        refine sx_ci (Wd := (ax_W a cI L)) (σ1 := u17) (q_runV (Wd := (ax_W a cI L)) (σ := u) (q0 := 3) (ci := 6) (T := TX6) (N := 9) (As := [.int x4, .int 16]) (rest := []) hx hb hml hown hts hK hP (kt_X6_half hD hc18) cw_X0_54 rfl rfl ⟨Nat.le_of_ble_eq_true rfl, Nat.le_of_ble_eq_true rfl⟩ rfl rfl rfl hl.1 rfl (Nat.le_of_ble_eq_true rfl) dX0_blocksWanted_89) hS (fun H locs hP hS => ?_)
        refine sx_if_ne (tgt := 98) hx hb hF dX0_blocksWanted_92 (by decide) (fun hF => ?_) (fun hF => ?_)
        · exact hB98 x1 x4 x5 x6 x7 u17 ls (lv_sub hl [0, 1, 2, 3, 4, 5] rfl) hF _ _ hP hS
        · refine sx_iinc (d := 1) (k := 5) (lv2 := [(0, .ref (a 7)), (1, .int x1), (4, .int x4), (5, .int x5), (6, .int x6)]) hx hb hF dX0_blocksWanted_95 hl rfl (by decide) (by decide) rfl (fun v19 hF ls hl => ?_)
          exact hB98 x1 x4 x5 x6 v19 u17 ls (lv_sub hl [1, 2, 3, 4, 5, 0] rfl) hF _ _ hP hS
  have hB61 : ∀ (ih33 : Int32 → Int32 → Int32 → Int32 → Int32 → Int32 → q_St → Option (Int32 × q_St)) (hi33 : ∀ (x1 : Int32) (x4 : Int32) (x5 : Int32) (x6 : Int32) (x7 : Int32) (x8 : Int32) (u : q_St) (ls : Array Slot), lv_has ls 10 [(0, .ref (a 7)), (1, .int x1), (4, .int x4), (5, .int x5), (6, .int x6), (7, .int x7), (8, .int x8)] → ih33 x1 x4 x5 x6 x7 x8 u = some (r0, σ0) → ∀ (H : Heap) (locs : List Loc), va_P D vwCl (ax_W a cI L u) H → va_S (ax_A a) s.heap H locs → W p l e (headSpec (Cond.code yX0_blocksWanted cX0_blocksWanted 10 (some .int) :: q_T) ({ frames := 5, cells := 0, slots := 0, locals := 114 } : Room)).room s m ([.ref (a 7), .int o1, .int o2, .int o3] : List Value).toArray below meth c H locs 0 0 (MQ below (q_Qi D vwCl (ax_W a cI L) (ax_A a) r0 σ0) ([.ref (a 7), .int o1, .int o2, .int o3] : List Value).toArray s 0 0 (ax_A a)) (F0 m 33 ls [])), ∀ (x1 : Int32) (x4 : Int32) (x5 : Int32) (x6 : Int32) (x7 : Int32) (x8 : Int32) (u : q_St) (ls : Array Slot), lv_has ls 10 [(0, .ref (a 7)), (1, .int x1), (4, .int x4), (5, .int x5), (6, .int x6), (7, .int x7), (8, .int x8)] → fX0_blocksWanted_b61 L N ih33 x1 x4 x5 x6 x7 x8 u = some (r0, σ0) → ∀ (H : Heap) (locs : List Loc), va_P D vwCl (ax_W a cI L u) H → va_S (ax_A a) s.heap H locs → W p l e (headSpec (Cond.code yX0_blocksWanted cX0_blocksWanted 10 (some .int) :: q_T) ({ frames := 5, cells := 0, slots := 0, locals := 114 } : Room)).room s m ([.ref (a 7), .int o1, .int o2, .int o3] : List Value).toArray below meth c H locs 0 0 (MQ below (q_Qi D vwCl (ax_W a cI L) (ax_A a) r0 σ0) ([.ref (a 7), .int o1, .int o2, .int o3] : List Value).toArray s 0 0 (ax_A a)) (F0 m 61 ls []) := by
    intro ih33 hi33 x1 x4 x5 x6 x7 x8 u ls hl hF _ _ hP hS
    unfold fX0_blocksWanted_b61 at hF
    refine sx_iinc (d := 1) (k := 6) (lv2 := [(0, .ref (a 7)), (1, .int x1), (4, .int x4), (5, .int x5), (6, .int x6), (7, .int x7)]) hx hb hF dX0_blocksWanted_61 hl rfl (by decide) (by decide) rfl (fun v23 hF ls hl => ?_)
    refine lv_goto (tgt := 33) hx hb dX0_blocksWanted_64 (by decide) ?_
    exact hi33 x1 x4 x5 x6 x7 v23 u ls (lv_sub hl [1, 2, 3, 4, 5, 6, 0] rfl) hF _ _ hP hS
  have hB33 : ∀ (n : Nat) (x1 : Int32) (x4 : Int32) (x5 : Int32) (x6 : Int32) (x7 : Int32) (x8 : Int32) (u : q_St) (ls : Array Slot), lv_has ls 10 [(0, .ref (a 7)), (1, .int x1), (4, .int x4), (5, .int x5), (6, .int x6), (7, .int x7), (8, .int x8)] → q_lp (fX0_blocksWanted_b33 L N) (fun _ _ _ _ _ _ _ => none) n x1 x4 x5 x6 x7 x8 u = some (r0, σ0) → ∀ (H : Heap) (locs : List Loc), va_P D vwCl (ax_W a cI L u) H → va_S (ax_A a) s.heap H locs → W p l e (headSpec (Cond.code yX0_blocksWanted cX0_blocksWanted 10 (some .int) :: q_T) ({ frames := 5, cells := 0, slots := 0, locals := 114 } : Room)).room s m ([.ref (a 7), .int o1, .int o2, .int o3] : List Value).toArray below meth c H locs 0 0 (MQ below (q_Qi D vwCl (ax_W a cI L) (ax_A a) r0 σ0) ([.ref (a 7), .int o1, .int o2, .int o3] : List Value).toArray s 0 0 (ax_A a)) (F0 m 33 ls []) := by
    intro n
    induction n with
    | zero => intro x1 x4 x5 x6 x7 x8 u ls hl hF; exact absurd (show (none : Option (Int32 × q_St)) = some _ from hF) (fun h => nomatch h)
    | succ n hi33 =>
      intro x1 x4 x5 x6 x7 x8 u ls hl hF _ _ hP hS
      obtain ⟨ih33, hih⟩ : ∃ q, q = q_lp (fX0_blocksWanted_b33 L N) (fun _ _ _ _ _ _ _ => none) n := ⟨_, rfl⟩
      rw [← hih] at hi33
      have hF : fX0_blocksWanted_b33 L N (q_lp (fX0_blocksWanted_b33 L N) (fun _ _ _ _ _ _ _ => none) n) x1 x4 x5 x6 x7 x8 u = some (r0, σ0) := hF
      rw [← hih] at hF
      clear hih
      unfold fX0_blocksWanted_b33 at hF
      refine lv_iload hx hb dX0_blocksWanted_33 (lv_at hl 6 rfl) ?_
      refine lv_iload hx hb dX0_blocksWanted_35 (lv_at hl 4 rfl) ?_
      refine sx_icmp_gt (tgt := 67) hx hb hF dX0_blocksWanted_37 (by decide) (fun hF => ?_) (fun hF => ?_)
      · exact hB67 x1 x4 x5 x6 x7 u ls (lv_sub hl [0, 1, 2, 3, 4, 5] rfl) hF _ _ hP hS
      · refine lv_iload hx hb dX0_blocksWanted_40 (lv_at hl 6 rfl) ?_
        refine lv_sipush (v := 1068) hx hb dX0_blocksWanted_42 (by decide) ?_
        refine sx_icmp_ge (tgt := 67) hx hb hF dX0_blocksWanted_45 (by decide) (fun hF => ?_) (fun hF => ?_)
        · exact hB67 x1 x4 x5 x6 x7 u ls (lv_sub hl [0, 1, 2, 3, 4, 5] rfl) hF _ _ hP hS
        · refine lv_aload_n hx hb dX0_blocksWanted_48 rfl (lv_at hl 0 rfl) ?_
          refine lv_iload_n hx hb dX0_blocksWanted_49 rfl (lv_at hl 1 rfl) ?_
          refine lv_iload hx hb dX0_blocksWanted_50 (lv_at hl 6 rfl) ?_
          obtain ⟨r20, u21, hc22, hF⟩ := q_bnd_some hF
          refine sx_ci (Wd := (ax_W a cI L)) (σ1 := u21) (q_runV (Wd := (ax_W a cI L)) (σ := u) (q0 := 7) (ci := 0) (T := TX0) (N := 4) (As := [.int x1, .int x8]) (rest := []) hx hb hml hown hts hK hP (kt_X0_pieceBlock hD hc22) cw_X0_48 rfl rfl ⟨Nat.le_of_ble_eq_true rfl, Nat.le_of_ble_eq_true rfl⟩ rfl rfl rfl hl.1 rfl (Nat.le_of_ble_eq_true rfl) dX0_blocksWanted_52) hS (fun H locs hP hS => ?_)
          refine sx_if_ne (tgt := 61) hx hb hF dX0_blocksWanted_55 (by decide) (fun hF => ?_) (fun hF => ?_)
          · exact hB61 ih33 hi33 x1 x4 x5 x6 x7 x8 u21 ls (lv_sub hl [0, 1, 2, 3, 4, 5, 6] rfl) hF _ _ hP hS
          · refine sx_iinc (d := 1) (k := 5) (lv2 := [(0, .ref (a 7)), (1, .int x1), (4, .int x4), (5, .int x5), (6, .int x6), (8, .int x8)]) hx hb hF dX0_blocksWanted_58 hl rfl (by decide) (by decide) rfl (fun v24 hF ls hl => ?_)
            exact hB61 ih33 hi33 x1 x4 x5 x6 v24 x8 u21 ls (lv_sub hl [1, 2, 3, 4, 5, 0, 6] rfl) hF _ _ hP hS
  unfold fX0_blocksWanted at hF
  refine lv_aload_n hx hb dX0_blocksWanted_0 rfl (lv_at hl 0 rfl) ?_
  refine gx_bodies_nodes hx hb hts hown hK hP fl_X0_19 dX0_blocksWanted_1 ?_
  refine lv_iload_n hx hb dX0_blocksWanted_4 rfl (lv_at hl 1 rfl) ?_
  obtain ⟨r1, u2, hc3, hF⟩ := q_bnd_some hF
  refine sx_ci (Wd := (ax_W a cI L)) (σ1 := u2) (q_runV (Wd := (ax_W a cI L)) (σ := u) (q0 := 5) (ci := 4) (T := TX4) (N := 2) (As := [.int o1]) (rest := []) hx hb hml hown hts hK hP (kt_X4_sectorOf hD hc3) cw_X0_36 rfl rfl ⟨Nat.le_of_ble_eq_true rfl, Nat.le_of_ble_eq_true rfl⟩ rfl rfl rfl hl.1 rfl (Nat.le_of_ble_eq_true rfl) dX0_blocksWanted_5) hS (fun H locs hP hS => ?_)
  refine lv_istore (lv' := [(4, .int r1), (0, .ref (a 7)), (1, .int o1), (2, .int o2), (3, .int o3)]) hx hb dX0_blocksWanted_8 hl (by decide) rfl (fun ls hl => ?_)
  refine lv_iload_n hx hb dX0_blocksWanted_10 rfl (lv_at hl 3 rfl) ?_
  refine lv_bipush (v := 64) hx hb dX0_blocksWanted_11 (by decide) ?_
  refine lv_idiv hx hb dX0_blocksWanted_13 (by decide) ?_
  refine sx_istore (lv2 := [(4, .int r1), (0, .ref (a 7)), (1, .int o1), (2, .int o2), (3, .int o3)]) hx hb hF dX0_blocksWanted_14 hl (by decide) rfl (fun v4 hF ls hl => ?_)
  refine lv_iload_n hx hb dX0_blocksWanted_16 rfl (lv_at hl 4 rfl) ?_
  refine lv_iload_n hx hb dX0_blocksWanted_17 rfl (lv_at hl 5 rfl) ?_
  refine lv_iadd hx hb dX0_blocksWanted_18 ?_
  refine lv_iconst (v := 1) hx hb dX0_blocksWanted_19 (by decide) ?_
  refine lv_isub hx hb dX0_blocksWanted_20 ?_
  refine lv_bipush (v := 64) hx hb dX0_blocksWanted_21 (by decide) ?_
  refine lv_idiv hx hb dX0_blocksWanted_23 (by decide) ?_
  refine sx_istore (lv2 := [(5, .int v4), (4, .int r1), (0, .ref (a 7)), (1, .int o1), (2, .int o2), (3, .int o3)]) hx hb hF dX0_blocksWanted_24 hl (by decide) rfl (fun v5 hF ls hl => ?_)
  refine lv_iconst (v := 0) hx hb dX0_blocksWanted_26 (by decide) ?_
  refine lv_istore (lv' := [(7, .int 0), (6, .int v5), (5, .int v4), (4, .int r1), (0, .ref (a 7)), (1, .int o1), (2, .int o2), (3, .int o3)]) hx hb dX0_blocksWanted_27 hl (by decide) rfl (fun ls hl => ?_)
  refine lv_iload hx hb dX0_blocksWanted_29 (lv_at hl 2 rfl) ?_
  refine lv_istore (lv' := [(8, .int v4), (7, .int 0), (6, .int v5), (5, .int v4), (4, .int r1), (0, .ref (a 7)), (1, .int o1), (2, .int o2), (3, .int o3)]) hx hb dX0_blocksWanted_31 hl (by decide) rfl (fun ls hl => ?_)
  exact hB33 N o1 r1 v4 v5 0 v4 u2 ls (lv_sub hl [5, 6, 4, 3, 2, 1, 0] rfl) hF _ _ hP hS
set_option maxHeartbeats 4000000 in
set_option maxRecDepth 100000 in
theorem kt_X10_writeTape {N : Nat} {l : Launch} {D : va_G} {a : Nat → Nat} {cI : Nat → ClassId} {L : Nat → Nat} (hD : ∀ σ, va_D (ax_A a) (ax_W a cI L σ)) {o1 : Int32} {o2 : Int32} {u σ0 : q_St} {r0 : Int32} (hF : fX10_writeTape L N o1 o2 u = some (r0, σ0)) : Met l yX10_writeTape (Cond.code yX10_writeTape cX10_writeTape 5 (some .int) :: q_T) ({ frames := 6, cells := 0, slots := 0, locals := 155 } : Room) (q_P D vwCl (ax_T cI) (ax_W a cI L) [.ref (a 0), .int o1, .int o2] u) (q_Qi D vwCl (ax_W a cI L) (ax_A a) r0 σ0) 0 0 (ax_A a) := by
  refine Met.ofW (cc := cX10_writeTape) (maxL := 5) (ret := (some .int)) (by decide) rfl ?_
  intro p e s m args below meth c s₁ B hml hv
  obtain ⟨rfl, hP, hK⟩ := hv
  have hx := B.exec
  have hb := B.bytes
  have hr := B.returns
  have hts := q_ts (atoms_spec (ws := Cond.code yX10_writeTape cX10_writeTape 5 (some .int) :: q_T) B.pre)
  have hown : s.vm.findClass RX10 = some m.cls := findClass_of_methodNamed B.named
  have hlocks := B.notSynchronized
  have hS : va_S (ax_A a) s.heap s.heap [] := va_S.rf
  have hl := lv_entry ([.ref (a 0), .int o1, .int o2]) (n := 5) (Nat.le_of_ble_eq_true rfl)
  rw [lg_entry_eq]
  generalize (lg_sl ([.ref (a 0), .int o1, .int o2]) ++ List.replicate (5 - (lg_sl ([.ref (a 0), .int o1, .int o2])).length) Slot.unset).toArray = ls at hl ⊢
  have hl : lv_has ls 5 [(0, .ref (a 0)), (1, .int o1), (2, .int o2)] := hl
  have hB129 : ∀ (x1 : Int32) (x2 : Int32) (u : q_St) (ls : Array Slot), lv_has ls 5 [(0, .ref (a 0)), (1, .int x1), (2, .int x2)] → fX10_writeTape_b129 L N x1 x2 u = some (r0, σ0) → ∀ (H : Heap) (locs : List Loc), va_P D vwCl (ax_W a cI L u) H → va_S (ax_A a) s.heap H locs → W p l e (headSpec (Cond.code yX10_writeTape cX10_writeTape 5 (some .int) :: q_T) ({ frames := 6, cells := 0, slots := 0, locals := 155 } : Room)).room s m ([.ref (a 0), .int o1, .int o2] : List Value).toArray below meth c H locs 0 0 (MQ below (q_Qi D vwCl (ax_W a cI L) (ax_A a) r0 σ0) ([.ref (a 0), .int o1, .int o2] : List Value).toArray s 0 0 (ax_A a)) (F0 m 129 ls []) := by
    intro x1 x2 u ls hl hF _ _ hP hS
    unfold fX10_writeTape_b129 at hF
    refine lv_aload_n hx hb dX10_writeTape_129 rfl (lv_at hl 0 rfl) ?_
    refine gx_h_bodies hx hb hts hown hK hP fl_X10_91 dX10_writeTape_130 ?_
    refine lv_iload_n hx hb dX10_writeTape_133 rfl (lv_at hl 1 rfl) ?_
    refine lv_iload_n hx hb dX10_writeTape_134 rfl (lv_at hl 2 rfl) ?_
    refine lv_aload_n hx hb dX10_writeTape_135 rfl (lv_at hl 0 rfl) ?_
    refine gx_h_tape hx hb hts hown hK hP fl_X10_79 dX10_writeTape_136 ?_
    obtain ⟨r10, u11, hc12, hF⟩ := q_bnd_some hF
    refine sx_cv (Wd := (ax_W a cI L)) (σ1 := u11) (q_runV (Wd := (ax_W a cI L)) (σ := u) (q0 := 7) (ci := 0) (T := TX0) (N := 4) (As := [.int x1, .int x2, .ref (a 8)]) (rest := []) hx hb hml hown hts hK hP (kt_X0_write_8 hD hc12) cw_X10_372 rfl rfl ⟨Nat.le_of_ble_eq_true rfl, Nat.le_of_ble_eq_true rfl⟩ rfl rfl rfl hl.1 rfl (Nat.le_of_ble_eq_true rfl) dX10_writeTape_139) hS (fun H locs hP hS => ?_)
    refine lv_aload_n hx hb dX10_writeTape_142 rfl (lv_at hl 0 rfl) ?_
    refine gx_h_tape hx hb hts hown hK hP fl_X10_79 dX10_writeTape_143 ?_
    refine gx_tape_length hx hb hts hown hK hP fl_X10_116 dX10_writeTape_146 ?_
    exact sx_reti (Wd := (ax_W a cI L)) (σ := u11) hx hb hr hF hP hS hlocks dX10_writeTape_149
  have hB60 : ∀ (x1 : Int32) (x2 : Int32) (x3 : Int32) (y0 : Int32) (u : q_St) (ls : Array Slot), lv_has ls 5 [(0, .ref (a 0)), (1, .int x1), (2, .int x2), (3, .int x3)] → fX10_writeTape_b60 L N x1 x2 x3 y0 u = some (r0, σ0) → ∀ (H : Heap) (locs : List Loc), va_P D vwCl (ax_W a cI L u) H → va_S (ax_A a) s.heap H locs → W p l e (headSpec (Cond.code yX10_writeTape cX10_writeTape 5 (some .int) :: q_T) ({ frames := 6, cells := 0, slots := 0, locals := 155 } : Room)).room s m ([.ref (a 0), .int o1, .int o2] : List Value).toArray below meth c H locs 0 0 (MQ below (q_Qi D vwCl (ax_W a cI L) (ax_A a) r0 σ0) ([.ref (a 0), .int o1, .int o2] : List Value).toArray s 0 0 (ax_A a)) (F0 m 60 ls [.int y0]) := by
    intro x1 x2 x3 y0 u ls hl hF _ _ hP hS
    unfold fX10_writeTape_b60 at hF
    refine lv_istore (lv' := [(4, .int y0), (0, .ref (a 0)), (1, .int x1), (2, .int x2), (3, .int x3)]) hx hb dX10_writeTape_60 hl (by decide) rfl (fun ls hl => ?_)
    refine lv_iload_n hx hb dX10_writeTape_62 rfl (lv_at hl 3 rfl) ?_
    refine sx_if_lt (tgt := 80) hx hb hF dX10_writeTape_63 (by decide) (fun hF => ?_) (fun hF => ?_)
    · refine lv_bipush (v := (-15)) hx hb dX10_writeTape_80 (by decide) ?_
      exact sx_reti (Wd := (ax_W a cI L)) (σ := u) hx hb hr hF hP hS hlocks dX10_writeTape_82
    · refine lv_iload_n hx hb dX10_writeTape_66 rfl (lv_at hl 3 rfl) ?_
      refine lv_iload hx hb dX10_writeTape_67 (lv_at hl 0 rfl) ?_
      refine lv_aload_n hx hb dX10_writeTape_69 rfl (lv_at hl 1 rfl) ?_
      refine gx_h_tape hx hb hts hown hK hP fl_X10_79 dX10_writeTape_70 ?_
      refine gx_tape_length hx hb hts hown hK hP fl_X10_116 dX10_writeTape_73 ?_
      refine lv_isub hx hb dX10_writeTape_76 ?_
      refine sx_icmp_le (tgt := 83) hx hb hF dX10_writeTape_77 (by decide) (fun hF => ?_) (fun hF => ?_)
      · refine lv_aload_n hx hb dX10_writeTape_83 rfl (lv_at hl 1 rfl) ?_
        refine gx_h_tape hx hb hts hown hK hP fl_X10_79 dX10_writeTape_84 ?_
        refine gx_tape_length hx hb hts hown hK hP fl_X10_116 dX10_writeTape_87 ?_
        refine sx_if_ne (tgt := 95) hx hb hF dX10_writeTape_90 (by decide) (fun hF => ?_) (fun hF => ?_)
        · refine lv_iload_n hx hb dX10_writeTape_95 rfl (lv_at hl 4 rfl) ?_
          refine lv_iconst (v := 1) hx hb dX10_writeTape_96 (by decide) ?_
          refine sx_icmp_ne (tgt := 129) hx hb hF dX10_writeTape_97 (by decide) (fun hF => ?_) (fun hF => ?_)
          · exact hB129 x1 x2 u ls (lv_sub hl [1, 2, 3] rfl) hF _ _ hP hS
          · refine lv_aload_n hx hb dX10_writeTape_100 rfl (lv_at hl 1 rfl) ?_
            refine gx_h_bodies hx hb hts hown hK hP fl_X10_91 dX10_writeTape_101 ?_
            refine lv_iload_n hx hb dX10_writeTape_104 rfl (lv_at hl 2 rfl) ?_
            refine lv_iload_n hx hb dX10_writeTape_105 rfl (lv_at hl 3 rfl) ?_
            refine lv_aload_n hx hb dX10_writeTape_106 rfl (lv_at hl 1 rfl) ?_
            refine gx_h_tape hx hb hts hown hK hP fl_X10_79 dX10_writeTape_107 ?_
            refine gx_tape_length hx hb hts hown hK hP fl_X10_116 dX10_writeTape_110 ?_
            obtain ⟨r13, u14, hc15, hF⟩ := q_bnd_some hF
            refine sx_ci (Wd := (ax_W a cI L)) (σ1 := u14) (q_runV (Wd := (ax_W a cI L)) (σ := u) (q0 := 7) (ci := 0) (T := TX0) (N := 4) (As := [.int x1, .int x2, .int (q_i u 32)]) (rest := []) hx hb hml hown hts hK hP (kt_X0_blocksWanted hD hc15) cw_X10_368 rfl rfl ⟨Nat.le_of_ble_eq_true rfl, Nat.le_of_ble_eq_true rfl⟩ rfl rfl rfl hl.1 rfl (Nat.le_of_ble_eq_true rfl) dX10_writeTape_113) hS (fun H locs hP hS => ?_)
            refine lv_aload_n hx hb dX10_writeTape_116 rfl (lv_at hl 1 rfl) ?_
            refine gx_h_space hx hb hts hown hK hP fl_X10_67 dX10_writeTape_117 ?_
            obtain ⟨r16, u17, hc18, hF⟩ := q_bnd_some hF
            refine sx_ci (Wd := (ax_W a cI L)) (σ1 := u17) (q_runV (Wd := (ax_W a cI L)) (σ := u14) (q0 := 4) (ci := 5) (T := TX5) (N := 6) (As := []) (rest := [.int r13]) hx hb hml hown hts hK hP (kt_X5_freeCount hD hc18) cw_X10_329 rfl rfl ⟨Nat.le_of_ble_eq_true rfl, Nat.le_of_ble_eq_true rfl⟩ rfl rfl rfl hl.1 rfl (Nat.le_of_ble_eq_true rfl) dX10_writeTape_120) hS (fun H locs hP hS => ?_)
            refine sx_icmp_le (tgt := 129) hx hb hF dX10_writeTape_123 (by decide) (fun hF => ?_) (fun hF => ?_)
            · exact hB129 x1 x2 u17 ls (lv_sub hl [1, 2, 3] rfl) hF _ _ hP hS
            · refine lv_bipush (v := (-16)) hx hb dX10_writeTape_126 (by decide) ?_
              exact sx_reti (Wd := (ax_W a cI L)) (σ := u17) hx hb hr hF hP hS hlocks dX10_writeTape_128
        · refine lv_iconst (v := 0) hx hb dX10_writeTape_93 (by decide) ?_
          exact sx_reti (Wd := (ax_W a cI L)) (σ := u) hx hb hr hF hP hS hlocks dX10_writeTape_94
      · refine lv_bipush (v := (-15)) hx hb dX10_writeTape_80 (by decide) ?_
        exact sx_reti (Wd := (ax_W a cI L)) (σ := u) hx hb hr hF hP hS hlocks dX10_writeTape_82
  have hB22 : ∀ (x1 : Int32) (x2 : Int32) (x3 : Int32) (u : q_St) (ls : Array Slot), lv_has ls 5 [(0, .ref (a 0)), (1, .int x1), (2, .int x2), (3, .int x3)] → fX10_writeTape_b22 L N x1 x2 x3 u = some (r0, σ0) → ∀ (H : Heap) (locs : List Loc), va_P D vwCl (ax_W a cI L u) H → va_S (ax_A a) s.heap H locs → W p l e (headSpec (Cond.code yX10_writeTape cX10_writeTape 5 (some .int) :: q_T) ({ frames := 6, cells := 0, slots := 0, locals := 155 } : Room)).room s m ([.ref (a 0), .int o1, .int o2] : List Value).toArray below meth c H locs 0 0 (MQ below (q_Qi D vwCl (ax_W a cI L) (ax_A a) r0 σ0) ([.ref (a 0), .int o1, .int o2] : List Value).toArray s 0 0 (ax_A a)) (F0 m 22 ls []) := by
    intro x1 x2 x3 u ls hl hF _ _ hP hS
    unfold fX10_writeTape_b22 at hF
    refine lv_aload_n hx hb dX10_writeTape_22 rfl (lv_at hl 0 rfl) ?_
    refine gx_h_nodes hx hb hts hown hK hP fl_X10_71 dX10_writeTape_23 ?_
    refine lv_iload_n hx hb dX10_writeTape_26 rfl (lv_at hl 1 rfl) ?_
    refine lv_iconst (v := 2) hx hb dX10_writeTape_27 (by decide) ?_
    refine lv_aload_n hx hb dX10_writeTape_28 rfl (lv_at hl 0 rfl) ?_
    refine gx_h_who hx hb hts hown hK hP fl_X10_113 dX10_writeTape_29 ?_
    obtain ⟨r4, u5, hc6, hF⟩ := q_bnd_some hF
    refine sx_ci (Wd := (ax_W a cI L)) (σ1 := u5) (q_runV (Wd := (ax_W a cI L)) (σ := u) (q0 := 5) (ci := 4) (T := TX4) (N := 2) (As := [.int x1, .int 2, .int (q_i u 0)]) (rest := []) hx hb hml hown hts hK hP (kt_X4_may hD hc6) cw_X10_176 rfl rfl ⟨Nat.le_of_ble_eq_true rfl, Nat.le_of_ble_eq_true rfl⟩ rfl rfl rfl hl.1 rfl (Nat.le_of_ble_eq_true rfl) dX10_writeTape_32) hS (fun H locs hP hS => ?_)
    refine sx_if_ne (tgt := 41) hx hb hF dX10_writeTape_35 (by decide) (fun hF => ?_) (fun hF => ?_)
    · refine lv_iload_n hx hb dX10_writeTape_41 rfl (lv_at hl 3 rfl) ?_
      refine lv_iconst (v := 1) hx hb dX10_writeTape_42 (by decide) ?_
      refine sx_icmp_ne (tgt := 52) hx hb hF dX10_writeTape_43 (by decide) (fun hF => ?_) (fun hF => ?_)
      · refine lv_aload_n hx hb dX10_writeTape_52 rfl (lv_at hl 0 rfl) ?_
        refine gx_h_bodies hx hb hts hown hK hP fl_X10_91 dX10_writeTape_53 ?_
        refine lv_iload_n hx hb dX10_writeTape_56 rfl (lv_at hl 1 rfl) ?_
        obtain ⟨r7, u8, hc9, hF⟩ := q_bnd_some hF
        refine sx_ci (Wd := (ax_W a cI L)) (σ1 := u8) (q_runV (Wd := (ax_W a cI L)) (σ := u5) (q0 := 7) (ci := 0) (T := TX0) (N := 4) (As := [.int x1]) (rest := []) hx hb hml hown hts hK hP (kt_X0_byteCount hD hc9) cw_X10_231 rfl rfl ⟨Nat.le_of_ble_eq_true rfl, Nat.le_of_ble_eq_true rfl⟩ rfl rfl rfl hl.1 rfl (Nat.le_of_ble_eq_true rfl) dX10_writeTape_57) hS (fun H locs hP hS => ?_)
        exact hB60 x1 x2 x3 r7 u8 ls (lv_sub hl [0, 1, 2, 3] rfl) hF _ _ hP hS
      · refine lv_ldcw (v := 68352) hx hb hown (hts _ kc_X10_367) dX10_writeTape_46 ?_
        refine lv_goto (tgt := 60) hx hb dX10_writeTape_49 (by decide) ?_
        exact hB60 x1 x2 x3 68352 u5 ls (lv_sub hl [0, 1, 2, 3] rfl) hF _ _ hP hS
    · refine lv_bipush (v := (-20)) hx hb dX10_writeTape_38 (by decide) ?_
      exact sx_reti (Wd := (ax_W a cI L)) (σ := u5) hx hb hr hF hP hS hlocks dX10_writeTape_40
  unfold fX10_writeTape at hF
  refine lv_aload_n hx hb dX10_writeTape_0 rfl (lv_at hl 0 rfl) ?_
  refine gx_h_nodes hx hb hts hown hK hP fl_X10_71 dX10_writeTape_1 ?_
  refine lv_iload_n hx hb dX10_writeTape_4 rfl (lv_at hl 1 rfl) ?_
  obtain ⟨r1, u2, hc3, hF⟩ := q_bnd_some hF
  refine sx_ci (Wd := (ax_W a cI L)) (σ1 := u2) (q_runV (Wd := (ax_W a cI L)) (σ := u) (q0 := 5) (ci := 4) (T := TX4) (N := 2) (As := [.int o1]) (rest := []) hx hb hml hown hts hK hP (kt_X4_kindOf hD hc3) cw_X10_173 rfl rfl ⟨Nat.le_of_ble_eq_true rfl, Nat.le_of_ble_eq_true rfl⟩ rfl rfl rfl hl.1 rfl (Nat.le_of_ble_eq_true rfl) dX10_writeTape_5) hS (fun H locs hP hS => ?_)
  refine lv_istore_n (lv' := [(3, .int r1), (0, .ref (a 0)), (1, .int o1), (2, .int o2)]) hx hb dX10_writeTape_8 rfl hl (by decide) rfl (fun ls hl => ?_)
  refine lv_iload_n hx hb dX10_writeTape_9 rfl (lv_at hl 0 rfl) ?_
  refine lv_iconst (v := 1) hx hb dX10_writeTape_10 (by decide) ?_
  refine sx_icmp_eq (tgt := 22) hx hb hF dX10_writeTape_11 (by decide) (fun hF => ?_) (fun hF => ?_)
  · exact hB22 o1 o2 r1 u2 ls (lv_sub hl [1, 2, 3, 0] rfl) hF _ _ hP hS
  · refine lv_iload_n hx hb dX10_writeTape_14 rfl (lv_at hl 0 rfl) ?_
    refine lv_iconst (v := 3) hx hb dX10_writeTape_15 (by decide) ?_
    refine sx_icmp_eq (tgt := 22) hx hb hF dX10_writeTape_16 (by decide) (fun hF => ?_) (fun hF => ?_)
    · exact hB22 o1 o2 r1 u2 ls (lv_sub hl [1, 2, 3, 0] rfl) hF _ _ hP hS
    · refine lv_bipush (v := (-14)) hx hb dX10_writeTape_19 (by decide) ?_
      exact sx_reti (Wd := (ax_W a cI L)) (σ := u2) hx hb hr hF hP hS hlocks dX10_writeTape_21
set_option maxHeartbeats 4000000 in
set_option maxRecDepth 100000 in
theorem kt_X10_put {N : Nat} {l : Launch} {D : va_G} {a : Nat → Nat} {cI : Nat → ClassId} {L : Nat → Nat} (hD : ∀ σ, va_D (ax_A a) (ax_W a cI L σ)) {o1 : Int32} {o2 : Int32} {u σ0 : q_St} {r0 : Int32} (hF : fX10_put L N o1 o2 u = some (r0, σ0)) : Met l yX10_put (Cond.code yX10_put cX10_put 4 (some .int) :: q_T) ({ frames := 7, cells := 0, slots := 0, locals := 179 } : Room) (q_P D vwCl (ax_T cI) (ax_W a cI L) [.ref (a 0), .int o1, .int o2] u) (q_Qi D vwCl (ax_W a cI L) (ax_A a) r0 σ0) 0 0 (ax_A a) := by
  refine Met.ofW (cc := cX10_put) (maxL := 4) (ret := (some .int)) (by decide) rfl ?_
  intro p e s m args below meth c s₁ B hml hv
  obtain ⟨rfl, hP, hK⟩ := hv
  have hx := B.exec
  have hb := B.bytes
  have hr := B.returns
  have hts := q_ts (atoms_spec (ws := Cond.code yX10_put cX10_put 4 (some .int) :: q_T) B.pre)
  have hown : s.vm.findClass RX10 = some m.cls := findClass_of_methodNamed B.named
  have hlocks := B.notSynchronized
  have hS : va_S (ax_A a) s.heap s.heap [] := va_S.rf
  have hl := lv_entry ([.ref (a 0), .int o1, .int o2]) (n := 4) (Nat.le_of_ble_eq_true rfl)
  rw [lg_entry_eq]
  generalize (lg_sl ([.ref (a 0), .int o1, .int o2]) ++ List.replicate (4 - (lg_sl ([.ref (a 0), .int o1, .int o2])).length) Slot.unset).toArray = ls at hl ⊢
  have hl : lv_has ls 4 [(0, .ref (a 0)), (1, .int o1), (2, .int o2)] := hl
  have hB23 : ∀ (y0 : Int32) (u : q_St) (ls : Array Slot), lv_has ls 4 [(0, .ref (a 0))] → fX10_put_b23 L N y0 u = some (r0, σ0) → ∀ (H : Heap) (locs : List Loc), va_P D vwCl (ax_W a cI L u) H → va_S (ax_A a) s.heap H locs → W p l e (headSpec (Cond.code yX10_put cX10_put 4 (some .int) :: q_T) ({ frames := 7, cells := 0, slots := 0, locals := 179 } : Room)).room s m ([.ref (a 0), .int o1, .int o2] : List Value).toArray below meth c H locs 0 0 (MQ below (q_Qi D vwCl (ax_W a cI L) (ax_A a) r0 σ0) ([.ref (a 0), .int o1, .int o2] : List Value).toArray s 0 0 (ax_A a)) (F0 m 23 ls [.int y0]) := by
    intro y0 u ls hl hF _ _ hP hS
    unfold fX10_put_b23 at hF
    refine lv_istore_n (lv' := [(3, .int y0), (0, .ref (a 0))]) hx hb dX10_put_23 rfl hl (by decide) rfl (fun ls hl => ?_)
    refine lv_aload_n hx hb dX10_put_24 rfl (lv_at hl 1 rfl) ?_
    refine gx_h_tape hx hb hts hown hK hP fl_X10_79 dX10_put_25 ?_
    refine lv_iconst (v := 0) hx hb dX10_put_28 (by decide) ?_
    refine px_tape_length hx hb hts hown hK hP fl_X10_116 hD hS hF dX10_put_29 (fun u4 H locs hF hP hS => ?_)
    refine lv_iload_n hx hb dX10_put_32 rfl (lv_at hl 0 rfl) ?_
    exact sx_reti (Wd := (ax_W a cI L)) (σ := u4) hx hb hr hF hP hS hlocks dX10_put_33
  unfold fX10_put at hF
  refine lv_aload_n hx hb dX10_put_0 rfl (lv_at hl 0 rfl) ?_
  refine gx_h_store hx hb hts hown hK hP fl_X10_63 dX10_put_1 ?_
  refine lv_bipush (v := 40) hx hb dX10_put_4 (by decide) ?_
  obtain ⟨r1, u2, hc3, hF⟩ := q_bnd_some hF
  refine sx_ci (Wd := (ax_W a cI L)) (σ1 := u2) (q_runV (Wd := (ax_W a cI L)) (σ := u) (q0 := 3) (ci := 6) (T := TX6) (N := 9) (As := [.int 40]) (rest := []) hx hb hml hown hts hK hP (kt_X6_commitOver hD hc3) cw_X10_126 rfl rfl ⟨Nat.le_of_ble_eq_true rfl, Nat.le_of_ble_eq_true rfl⟩ rfl rfl rfl hl.1 rfl (Nat.le_of_ble_eq_true rfl) dX10_put_6) hS (fun H locs hP hS => ?_)
  refine sx_if_eq (tgt := 21) hx hb hF dX10_put_9 (by decide) (fun hF => ?_) (fun hF => ?_)
  · refine lv_bipush (v := (-99)) hx hb dX10_put_21 (by decide) ?_
    exact hB23 (-99) u2 ls (lv_sub hl [0] rfl) hF _ _ hP hS
  · refine lv_aload_n hx hb dX10_put_12 rfl (lv_at hl 0 rfl) ?_
    refine lv_iload_n hx hb dX10_put_13 rfl (lv_at hl 1 rfl) ?_
    refine lv_iload_n hx hb dX10_put_14 rfl (lv_at hl 2 rfl) ?_
    obtain ⟨r5, u6, hc7, hF⟩ := q_bnd_some hF
    refine sx_ci (Wd := (ax_W a cI L)) (σ1 := u6) (q_runV (Wd := (ax_W a cI L)) (σ := u2) (q0 := 0) (ci := 10) (T := TX10) (N := 11) (As := [.int o1, .int o2]) (rest := []) hx hb hml hown hts hK hP (kt_X10_writeTape hD hc7) cw_X10_169 rfl rfl ⟨Nat.le_of_ble_eq_true rfl, Nat.le_of_ble_eq_true rfl⟩ rfl rfl rfl hl.1 rfl (Nat.le_of_ble_eq_true rfl) dX10_put_15) hS (fun H locs hP hS => ?_)
    refine lv_goto (tgt := 23) hx hb dX10_put_18 (by decide) ?_
    exact hB23 r5 u6 ls (lv_sub hl [0] rfl) hF _ _ hP hS
set_option maxHeartbeats 4000000 in
set_option maxRecDepth 100000 in
theorem kt_X6_forget {N : Nat} {l : Launch} {D : va_G} {a : Nat → Nat} {cI : Nat → ClassId} {L : Nat → Nat} (hD : ∀ σ, va_D (ax_A a) (ax_W a cI L σ)) {o1 : Int32} {u σ0 : q_St} {r0 : Unit} (hF : fX6_forget L N o1 u = some (r0, σ0)) : Met l yX6_forget (Cond.code yX6_forget cX6_forget 2 none :: q_T) ({ frames := 0, cells := 0, slots := 0, locals := 0 } : Room) (q_P D vwCl (ax_T cI) (ax_W a cI L) [.ref (a 3), .int o1] u) (q_Qv D vwCl (ax_W a cI L) (ax_A a) σ0) 0 0 (ax_A a) := by
  refine Met.ofW (cc := cX6_forget) (maxL := 2) (ret := none) (by decide) rfl ?_
  intro p e s m args below meth c s₁ B hml hv
  obtain ⟨rfl, hP, hK⟩ := hv
  have hx := B.exec
  have hb := B.bytes
  have hr := B.returns
  have hts := q_ts (atoms_spec (ws := Cond.code yX6_forget cX6_forget 2 none :: q_T) B.pre)
  have hown : s.vm.findClass RX6 = some m.cls := findClass_of_methodNamed B.named
  have hlocks := B.notSynchronized
  have hS : va_S (ax_A a) s.heap s.heap [] := va_S.rf
  have hl := lv_entry ([.ref (a 3), .int o1]) (n := 2) (Nat.le_of_ble_eq_true rfl)
  rw [lg_entry_eq]
  generalize (lg_sl ([.ref (a 3), .int o1]) ++ List.replicate (2 - (lg_sl ([.ref (a 3), .int o1])).length) Slot.unset).toArray = ls at hl ⊢
  have hl : lv_has ls 2 [(0, .ref (a 3)), (1, .int o1)] := hl
  unfold fX6_forget at hF
  refine lv_iload_n hx hb dX6_forget_0 rfl (lv_at hl 1 rfl) ?_
  refine sx_if_lt (tgt := 39) hx hb hF dX6_forget_1 (by decide) (fun hF => ?_) (fun hF => ?_)
  · exact sx_retv (Wd := (ax_W a cI L)) (σ := u) hx hb hr hF hP hS hlocks dX6_forget_39
  · refine lv_iload_n hx hb dX6_forget_4 rfl (lv_at hl 1 rfl) ?_
    refine lv_aload_n hx hb dX6_forget_5 rfl (lv_at hl 0 rfl) ?_
    refine gx_store_dirty hx hb hts hown hK hP fl_X6_29 dX6_forget_6 ?_
    refine nx_store_dirty hx hb hK hP dX6_forget_9 ?_
    refine sx_icmp_ge (tgt := 39) hx hb hF dX6_forget_10 (by decide) (fun hF => ?_) (fun hF => ?_)
    · exact sx_retv (Wd := (ax_W a cI L)) (σ := u) hx hb hr hF hP hS hlocks dX6_forget_39
    · refine lv_aload_n hx hb dX6_forget_13 rfl (lv_at hl 0 rfl) ?_
      refine gx_store_dirty hx hb hts hown hK hP fl_X6_29 dX6_forget_14 ?_
      refine lv_iload_n hx hb dX6_forget_17 rfl (lv_at hl 1 rfl) ?_
      refine lx_store_dirty hx hb hK hP hF dX6_forget_18 (fun v1 hF => ?_)
      refine sx_if_eq (tgt := 39) hx hb hF dX6_forget_19 (by decide) (fun hF => ?_) (fun hF => ?_)
      · exact sx_retv (Wd := (ax_W a cI L)) (σ := u) hx hb hr hF hP hS hlocks dX6_forget_39
      · refine lv_aload_n hx hb dX6_forget_22 rfl (lv_at hl 0 rfl) ?_
        refine gx_store_dirty hx hb hts hown hK hP fl_X6_29 dX6_forget_23 ?_
        refine lv_iload_n hx hb dX6_forget_26 rfl (lv_at hl 1 rfl) ?_
        refine lv_iconst (v := 0) hx hb dX6_forget_27 (by decide) ?_
        refine ux_store_dirty hx hb hK hP hD hS hF dX6_forget_28 (fun u2 H locs hF hP hS => ?_)
        refine lv_aload_n hx hb dX6_forget_29 rfl (lv_at hl 0 rfl) ?_
        refine lv_dup hx hb dX6_forget_30 rfl ?_
        refine gx_store_dirtyCount hx hb hts hown hK hP fl_X6_55 dX6_forget_31 ?_
        refine lv_iconst (v := 1) hx hb dX6_forget_34 (by decide) ?_
        refine lv_isub hx hb dX6_forget_35 ?_
        refine px_store_dirtyCount hx hb hts hown hK hP fl_X6_55 hD hS hF dX6_forget_36 (fun u3 H locs hF hP hS => ?_)
        exact sx_retv (Wd := (ax_W a cI L)) (σ := u3) hx hb hr hF hP hS hlocks dX6_forget_39
set_option maxHeartbeats 4000000 in
set_option maxRecDepth 100000 in
theorem kt_X5_giveBack {N : Nat} {l : Launch} {D : va_G} {a : Nat → Nat} {cI : Nat → ClassId} {L : Nat → Nat} (hD : ∀ σ, va_D (ax_A a) (ax_W a cI L σ)) {o1 : Int32} {u σ0 : q_St} {r0 : Unit} (hF : fX5_giveBack L N o1 u = some (r0, σ0)) : Met l yX5_giveBack (Cond.code yX5_giveBack cX5_giveBack 5 none :: q_T) ({ frames := 2, cells := 0, slots := 0, locals := 54 } : Room) (q_P D vwCl (ax_T cI) (ax_W a cI L) [.ref (a 4), .int o1] u) (q_Qv D vwCl (ax_W a cI L) (ax_A a) σ0) 0 0 (ax_A a) := by
  refine Met.ofW (cc := cX5_giveBack) (maxL := 5) (ret := none) (by decide) rfl ?_
  intro p e s m args below meth c s₁ B hml hv
  obtain ⟨rfl, hP, hK⟩ := hv
  have hx := B.exec
  have hb := B.bytes
  have hr := B.returns
  have hts := q_ts (atoms_spec (ws := Cond.code yX5_giveBack cX5_giveBack 5 none :: q_T) B.pre)
  have hown : s.vm.findClass RX5 = some m.cls := findClass_of_methodNamed B.named
  have hlocks := B.notSynchronized
  have hS : va_S (ax_A a) s.heap s.heap [] := va_S.rf
  have hl := lv_entry ([.ref (a 4), .int o1]) (n := 5) (Nat.le_of_ble_eq_true rfl)
  rw [lg_entry_eq]
  generalize (lg_sl ([.ref (a 4), .int o1]) ++ List.replicate (5 - (lg_sl ([.ref (a 4), .int o1])).length) Slot.unset).toArray = ls at hl ⊢
  have hl : lv_has ls 5 [(0, .ref (a 4)), (1, .int o1)] := hl
  unfold fX5_giveBack at hF
  refine lv_iload_n hx hb dX5_giveBack_0 rfl (lv_at hl 1 rfl) ?_
  refine lv_sipush (v := 512) hx hb dX5_giveBack_1 (by decide) ?_
  refine lv_irem hx hb dX5_giveBack_4 (by decide) ?_
  refine lv_bipush (v := 64) hx hb dX5_giveBack_5 (by decide) ?_
  refine lv_idiv hx hb dX5_giveBack_7 (by decide) ?_
  refine sx_istore_n (lv2 := [(0, .ref (a 4)), (1, .int o1)]) hx hb hF dX5_giveBack_8 rfl hl (by decide) rfl (fun v1 hF ls hl => ?_)
  refine lv_aload_n hx hb dX5_giveBack_9 rfl (lv_at hl 1 rfl) ?_
  refine gx_space_store hx hb hts hown hK hP fl_X5_9 dX5_giveBack_10 ?_
  refine lv_bipush (v := 80) hx hb dX5_giveBack_13 (by decide) ?_
  refine lv_iload_n hx hb dX5_giveBack_15 rfl (lv_at hl 2 rfl) ?_
  refine lv_sipush (v := 512) hx hb dX5_giveBack_16 (by decide) ?_
  refine lv_idiv hx hb dX5_giveBack_19 (by decide) ?_
  refine lv_iadd hx hb dX5_giveBack_20 ?_
  refine lv_iload_n hx hb dX5_giveBack_21 rfl (lv_at hl 0 rfl) ?_
  obtain ⟨r2, u3, hc4, hF⟩ := q_bnd_some hF
  refine sx_cl (Wd := (ax_W a cI L)) (σ1 := u3) (q_runV (Wd := (ax_W a cI L)) (σ := u) (q0 := 3) (ci := 6) (T := TX6) (N := 9) (As := [.int (80 + (o1 / 512)), .int v1]) (rest := []) hx hb hml hown hts hK hP (kt_X6_word hD hc4) cw_X5_35 rfl rfl ⟨Nat.le_of_ble_eq_true rfl, Nat.le_of_ble_eq_true rfl⟩ rfl rfl rfl hl.1 rfl (Nat.le_of_ble_eq_true rfl) dX5_giveBack_22) hS (fun H locs hP hS => ?_)
  refine lv_lstore_n (lv' := [(3, .long r2), (2, .int v1), (0, .ref (a 4)), (1, .int o1)]) hx hb dX5_giveBack_25 rfl hl (by decide) rfl (fun ls hl => ?_)
  refine lv_aload_n hx hb dX5_giveBack_26 rfl (lv_at hl 2 rfl) ?_
  refine gx_space_store hx hb hts hown hK hP fl_X5_9 dX5_giveBack_27 ?_
  refine lv_bipush (v := 80) hx hb dX5_giveBack_30 (by decide) ?_
  refine lv_iload_n hx hb dX5_giveBack_32 rfl (lv_at hl 3 rfl) ?_
  refine lv_sipush (v := 512) hx hb dX5_giveBack_33 (by decide) ?_
  refine lv_idiv hx hb dX5_giveBack_36 (by decide) ?_
  refine lv_iadd hx hb dX5_giveBack_37 ?_
  refine lv_iload_n hx hb dX5_giveBack_38 rfl (lv_at hl 1 rfl) ?_
  refine lv_lload_n hx hb dX5_giveBack_39 rfl (lv_at hl 0 rfl) ?_
  refine lv_lconst (v := 1) hx hb dX5_giveBack_40 (by decide) ?_
  refine lv_iload_n hx hb dX5_giveBack_41 rfl (lv_at hl 3 rfl) ?_
  refine lv_bipush (v := 64) hx hb dX5_giveBack_42 (by decide) ?_
  refine lv_irem hx hb dX5_giveBack_44 (by decide) ?_
  refine lv_lshl (v := q_lshl 1 (o1 - o1 / 64 * 64)) hx hb dX5_giveBack_45 rfl ?_
  refine lv_ldc2 (v := (-1)) hx hb hown (hts _ kc_X5_54) dX5_giveBack_46 ?_
  refine lv_lxor hx hb dX5_giveBack_49 ?_
  refine lv_land hx hb dX5_giveBack_50 ?_
  obtain ⟨r5, u6, hc7, hF⟩ := q_bnd_some hF
  refine sx_cv (Wd := (ax_W a cI L)) (σ1 := u6) (q_runV (Wd := (ax_W a cI L)) (σ := u3) (q0 := 3) (ci := 6) (T := TX6) (N := 9) (As := [.int (80 + (o1 / 512)), .int v1, .long (r2 &&& ((q_lshl 1 (o1 - o1 / 64 * 64)) ^^^ (-1)))]) (rest := []) hx hb hml hown hts hK hP (kt_X6_setWord hD hc7) cw_X5_56 rfl rfl ⟨Nat.le_of_ble_eq_true rfl, Nat.le_of_ble_eq_true rfl⟩ rfl rfl rfl hl.1 rfl (Nat.le_of_ble_eq_true rfl) dX5_giveBack_51) hS (fun H locs hP hS => ?_)
  refine lv_aload_n hx hb dX5_giveBack_54 rfl (lv_at hl 2 rfl) ?_
  refine gx_space_store hx hb hts hown hK hP fl_X5_9 dX5_giveBack_55 ?_
  refine lv_iload_n hx hb dX5_giveBack_58 rfl (lv_at hl 3 rfl) ?_
  obtain ⟨r8, u9, hc10, hF⟩ := q_bnd_some hF
  refine sx_cv (Wd := (ax_W a cI L)) (σ1 := u9) (q_runV (Wd := (ax_W a cI L)) (σ := u6) (q0 := 3) (ci := 6) (T := TX6) (N := 9) (As := [.int o1]) (rest := []) hx hb hml hown hts hK hP (kt_X6_forget hD hc10) cw_X5_64 rfl rfl ⟨Nat.le_of_ble_eq_true rfl, Nat.le_of_ble_eq_true rfl⟩ rfl rfl rfl hl.1 rfl (Nat.le_of_ble_eq_true rfl) dX5_giveBack_59) hS (fun H locs hP hS => ?_)
  exact sx_retv (Wd := (ax_W a cI L)) (σ := u9) hx hb hr hF hP hS hlocks dX5_giveBack_62
set_option maxHeartbeats 4000000 in
set_option maxRecDepth 100000 in
theorem kt_X0_giveBackTold {N : Nat} {l : Launch} {D : va_G} {a : Nat → Nat} {cI : Nat → ClassId} {L : Nat → Nat} (hD : ∀ σ, va_D (ax_A a) (ax_W a cI L σ)) {o1 : Int32} {o2 : Int32} {o3 : Int32} {u σ0 : q_St} {r0 : Int32} (hF : fX0_giveBackTold L N o1 o2 o3 u = some (r0, σ0)) : Met l yX0_giveBackTold (Cond.code yX0_giveBackTold cX0_giveBackTold 7 (some .int) :: q_T) ({ frames := 3, cells := 0, slots := 0, locals := 80 } : Room) (q_P D vwCl (ax_T cI) (ax_W a cI L) [.ref (a 7), .int o1, .int o2, .int o3] u) (q_Qi D vwCl (ax_W a cI L) (ax_A a) r0 σ0) 0 0 (ax_A a) := by
  refine Met.ofW (cc := cX0_giveBackTold) (maxL := 7) (ret := (some .int)) (by decide) rfl ?_
  intro p e s m args below meth c s₁ B hml hv
  obtain ⟨rfl, hP, hK⟩ := hv
  have hx := B.exec
  have hb := B.bytes
  have hr := B.returns
  have hts := q_ts (atoms_spec (ws := Cond.code yX0_giveBackTold cX0_giveBackTold 7 (some .int) :: q_T) B.pre)
  have hown : s.vm.findClass RX0 = some m.cls := findClass_of_methodNamed B.named
  have hlocks := B.notSynchronized
  have hS : va_S (ax_A a) s.heap s.heap [] := va_S.rf
  have hl := lv_entry ([.ref (a 7), .int o1, .int o2, .int o3]) (n := 7) (Nat.le_of_ble_eq_true rfl)
  rw [lg_entry_eq]
  generalize (lg_sl ([.ref (a 7), .int o1, .int o2, .int o3]) ++ List.replicate (7 - (lg_sl ([.ref (a 7), .int o1, .int o2, .int o3])).length) Slot.unset).toArray = ls at hl ⊢
  have hl : lv_has ls 7 [(0, .ref (a 7)), (1, .int o1), (2, .int o2), (3, .int o3)] := hl
  have hB52 : ∀ (ih6 : Int32 → Int32 → Int32 → Int32 → q_St → Option (Int32 × q_St)) (hi6 : ∀ (x1 : Int32) (x3 : Int32) (x4 : Int32) (x5 : Int32) (u : q_St) (ls : Array Slot), lv_has ls 7 [(0, .ref (a 7)), (1, .int x1), (3, .int x3), (4, .int x4), (5, .int x5)] → ih6 x1 x3 x4 x5 u = some (r0, σ0) → ∀ (H : Heap) (locs : List Loc), va_P D vwCl (ax_W a cI L u) H → va_S (ax_A a) s.heap H locs → W p l e (headSpec (Cond.code yX0_giveBackTold cX0_giveBackTold 7 (some .int) :: q_T) ({ frames := 3, cells := 0, slots := 0, locals := 80 } : Room)).room s m ([.ref (a 7), .int o1, .int o2, .int o3] : List Value).toArray below meth c H locs 0 0 (MQ below (q_Qi D vwCl (ax_W a cI L) (ax_A a) r0 σ0) ([.ref (a 7), .int o1, .int o2, .int o3] : List Value).toArray s 0 0 (ax_A a)) (F0 m 6 ls [])), ∀ (x1 : Int32) (x3 : Int32) (x4 : Int32) (x5 : Int32) (u : q_St) (ls : Array Slot), lv_has ls 7 [(0, .ref (a 7)), (1, .int x1), (3, .int x3), (4, .int x4), (5, .int x5)] → fX0_giveBackTold_b52 L N ih6 x1 x3 x4 x5 u = some (r0, σ0) → ∀ (H : Heap) (locs : List Loc), va_P D vwCl (ax_W a cI L u) H → va_S (ax_A a) s.heap H locs → W p l e (headSpec (Cond.code yX0_giveBackTold cX0_giveBackTold 7 (some .int) :: q_T) ({ frames := 3, cells := 0, slots := 0, locals := 80 } : Room)).room s m ([.ref (a 7), .int o1, .int o2, .int o3] : List Value).toArray below meth c H locs 0 0 (MQ below (q_Qi D vwCl (ax_W a cI L) (ax_A a) r0 σ0) ([.ref (a 7), .int o1, .int o2, .int o3] : List Value).toArray s 0 0 (ax_A a)) (F0 m 52 ls []) := by
    intro ih6 hi6 x1 x3 x4 x5 u ls hl hF _ _ hP hS
    unfold fX0_giveBackTold_b52 at hF
    refine sx_iinc (d := 1) (k := 4) (lv2 := [(0, .ref (a 7)), (1, .int x1), (3, .int x3), (4, .int x4)]) hx hb hF dX0_giveBackTold_52 hl rfl (by decide) (by decide) rfl (fun v4 hF ls hl => ?_)
    refine lv_goto (tgt := 6) hx hb dX0_giveBackTold_55 (by decide) ?_
    exact hi6 x1 x3 x4 v4 u ls (lv_sub hl [1, 2, 3, 4, 0] rfl) hF _ _ hP hS
  have hB6 : ∀ (n : Nat) (x1 : Int32) (x3 : Int32) (x4 : Int32) (x5 : Int32) (u : q_St) (ls : Array Slot), lv_has ls 7 [(0, .ref (a 7)), (1, .int x1), (3, .int x3), (4, .int x4), (5, .int x5)] → q_lp (fX0_giveBackTold_b6 L N) (fun _ _ _ _ _ => none) n x1 x3 x4 x5 u = some (r0, σ0) → ∀ (H : Heap) (locs : List Loc), va_P D vwCl (ax_W a cI L u) H → va_S (ax_A a) s.heap H locs → W p l e (headSpec (Cond.code yX0_giveBackTold cX0_giveBackTold 7 (some .int) :: q_T) ({ frames := 3, cells := 0, slots := 0, locals := 80 } : Room)).room s m ([.ref (a 7), .int o1, .int o2, .int o3] : List Value).toArray below meth c H locs 0 0 (MQ below (q_Qi D vwCl (ax_W a cI L) (ax_A a) r0 σ0) ([.ref (a 7), .int o1, .int o2, .int o3] : List Value).toArray s 0 0 (ax_A a)) (F0 m 6 ls []) := by
    intro n
    induction n with
    | zero => intro x1 x3 x4 x5 u ls hl hF; exact absurd (show (none : Option (Int32 × q_St)) = some _ from hF) (fun h => nomatch h)
    | succ n hi6 =>
      intro x1 x3 x4 x5 u ls hl hF _ _ hP hS
      obtain ⟨ih6, hih⟩ : ∃ q, q = q_lp (fX0_giveBackTold_b6 L N) (fun _ _ _ _ _ => none) n := ⟨_, rfl⟩
      rw [← hih] at hi6
      have hF : fX0_giveBackTold_b6 L N (q_lp (fX0_giveBackTold_b6 L N) (fun _ _ _ _ _ => none) n) x1 x3 x4 x5 u = some (r0, σ0) := hF
      rw [← hih] at hF
      clear hih
      unfold fX0_giveBackTold_b6 at hF
      refine lv_iload hx hb dX0_giveBackTold_6 (lv_at hl 4 rfl) ?_
      refine lv_iload_n hx hb dX0_giveBackTold_8 rfl (lv_at hl 2 rfl) ?_
      refine sx_icmp_ge (tgt := 58) hx hb hF dX0_giveBackTold_9 (by decide) (fun hF => ?_) (fun hF => ?_)
      · refine lv_iload hx hb dX0_giveBackTold_58 (lv_at hl 3 rfl) ?_
        exact sx_reti (Wd := (ax_W a cI L)) (σ := u) hx hb hr hF hP hS hlocks dX0_giveBackTold_60
      · refine lv_aload_n hx hb dX0_giveBackTold_12 rfl (lv_at hl 0 rfl) ?_
        refine gx_bodies_store hx hb hts hown hK hP fl_X0_11 dX0_giveBackTold_13 ?_
        refine lv_iload_n hx hb dX0_giveBackTold_16 rfl (lv_at hl 1 rfl) ?_
        refine lv_iload hx hb dX0_giveBackTold_17 (lv_at hl 4 rfl) ?_
        obtain ⟨r1, u2, hc3, hF⟩ := q_bnd_some hF
        refine sx_ci (Wd := (ax_W a cI L)) (σ1 := u2) (q_runV (Wd := (ax_W a cI L)) (σ := u) (q0 := 3) (ci := 6) (T := TX6) (N := 9) (As := [.int x1, .int x5]) (rest := []) hx hb hml hown hts hK hP (kt_X6_half hD hc3) cw_X0_54 rfl rfl ⟨Nat.le_of_ble_eq_true rfl, Nat.le_of_ble_eq_true rfl⟩ rfl rfl rfl hl.1 rfl (Nat.le_of_ble_eq_true rfl) dX0_giveBackTold_19) hS (fun H locs hP hS => ?_)
        refine lv_istore (lv' := [(6, .int r1), (0, .ref (a 7)), (1, .int x1), (3, .int x3), (4, .int x4), (5, .int x5)]) hx hb dX0_giveBackTold_22 hl (by decide) rfl (fun ls hl => ?_)
        refine lv_iload hx hb dX0_giveBackTold_24 (lv_at hl 0 rfl) ?_
        refine sx_if_eq (tgt := 52) hx hb hF dX0_giveBackTold_26 (by decide) (fun hF => ?_) (fun hF => ?_)
        · exact hB52 ih6 hi6 x1 x3 x4 x5 u2 ls (lv_sub hl [1, 2, 3, 4, 5] rfl) hF _ _ hP hS
        · refine lv_aload_n hx hb dX0_giveBackTold_29 rfl (lv_at hl 1 rfl) ?_
          refine gx_bodies_space hx hb hts hown hK hP fl_X0_15 dX0_giveBackTold_30 ?_
          refine lv_iload hx hb dX0_giveBackTold_33 (lv_at hl 0 rfl) ?_
          obtain ⟨r5, u6, hc7, hF⟩ := q_bnd_some hF
          refine sx_cv (Wd := (ax_W a cI L)) (σ1 := u6) (q_runV (Wd := (ax_W a cI L)) (σ := u2) (q0 := 4) (ci := 5) (T := TX5) (N := 6) (As := [.int r1]) (rest := []) hx hb hml hown hts hK hP (kt_X5_giveBack hD hc7) cw_X0_112 rfl rfl ⟨Nat.le_of_ble_eq_true rfl, Nat.le_of_ble_eq_true rfl⟩ rfl rfl rfl hl.1 rfl (Nat.le_of_ble_eq_true rfl) dX0_giveBackTold_35) hS (fun H locs hP hS => ?_)
          refine lv_aload_n hx hb dX0_giveBackTold_38 rfl (lv_at hl 1 rfl) ?_
          refine gx_bodies_store hx hb hts hown hK hP fl_X0_11 dX0_giveBackTold_39 ?_
          refine lv_iload_n hx hb dX0_giveBackTold_42 rfl (lv_at hl 2 rfl) ?_
          refine lv_iload hx hb dX0_giveBackTold_43 (lv_at hl 5 rfl) ?_
          refine lv_iconst (v := 0) hx hb dX0_giveBackTold_45 (by decide) ?_
          obtain ⟨r8, u9, hc10, hF⟩ := q_bnd_some hF
          refine sx_cv (Wd := (ax_W a cI L)) (σ1 := u9) (q_runV (Wd := (ax_W a cI L)) (σ := u6) (q0 := 3) (ci := 6) (T := TX6) (N := 9) (As := [.int x1, .int x5, .int 0]) (rest := []) hx hb hml hown hts hK hP (kt_X6_setHalf hD hc10) cw_X0_88 rfl rfl ⟨Nat.le_of_ble_eq_true rfl, Nat.le_of_ble_eq_true rfl⟩ rfl rfl rfl hl.1 rfl (Nat.le_of_ble_eq_true rfl) dX0_giveBackTold_46) hS (fun H locs hP hS => ?_)
          refine sx_iinc (d := 1) (k := 4) (lv2 := [(6, .int r1), (0, .ref (a 7)), (1, .int x1), (3, .int x3), (5, .int x5)]) hx hb hF dX0_giveBackTold_49 hl rfl (by decide) (by decide) rfl (fun v11 hF ls hl => ?_)
          exact hB52 ih6 hi6 x1 x3 v11 x5 u9 ls (lv_sub hl [2, 3, 4, 0, 5] rfl) hF _ _ hP hS
  unfold fX0_giveBackTold at hF
  refine lv_iconst (v := 0) hx hb dX0_giveBackTold_0 (by decide) ?_
  refine lv_istore (lv' := [(4, .int 0), (0, .ref (a 7)), (1, .int o1), (2, .int o2), (3, .int o3)]) hx hb dX0_giveBackTold_1 hl (by decide) rfl (fun ls hl => ?_)
  refine lv_iload_n hx hb dX0_giveBackTold_3 rfl (lv_at hl 3 rfl) ?_
  refine lv_istore (lv' := [(5, .int o2), (4, .int 0), (0, .ref (a 7)), (1, .int o1), (2, .int o2), (3, .int o3)]) hx hb dX0_giveBackTold_4 hl (by decide) rfl (fun ls hl => ?_)
  exact hB6 N o1 o3 0 o2 u ls (lv_sub hl [2, 3, 5, 1, 0] rfl) hF _ _ hP hS
set_option maxHeartbeats 4000000 in
set_option maxRecDepth 100000 in
theorem kt_X0_giveBackEmpty {N : Nat} {l : Launch} {D : va_G} {a : Nat → Nat} {cI : Nat → ClassId} {L : Nat → Nat} (hD : ∀ σ, va_D (ax_A a) (ax_W a cI L σ)) {o1 : Int32} {o2 : Int32} {u σ0 : q_St} {r0 : Int32} (hF : fX0_giveBackEmpty L N o1 o2 u = some (r0, σ0)) : Met l yX0_giveBackEmpty (Cond.code yX0_giveBackEmpty cX0_giveBackEmpty 5 (some .int) :: q_T) ({ frames := 3, cells := 0, slots := 0, locals := 80 } : Room) (q_P D vwCl (ax_T cI) (ax_W a cI L) [.ref (a 7), .int o1, .int o2] u) (q_Qi D vwCl (ax_W a cI L) (ax_A a) r0 σ0) 0 0 (ax_A a) := by
  refine Met.ofW (cc := cX0_giveBackEmpty) (maxL := 5) (ret := (some .int)) (by decide) rfl ?_
  intro p e s m args below meth c s₁ B hml hv
  obtain ⟨rfl, hP, hK⟩ := hv
  have hx := B.exec
  have hb := B.bytes
  have hr := B.returns
  have hts := q_ts (atoms_spec (ws := Cond.code yX0_giveBackEmpty cX0_giveBackEmpty 5 (some .int) :: q_T) B.pre)
  have hown : s.vm.findClass RX0 = some m.cls := findClass_of_methodNamed B.named
  have hlocks := B.notSynchronized
  have hS : va_S (ax_A a) s.heap s.heap [] := va_S.rf
  have hl := lv_entry ([.ref (a 7), .int o1, .int o2]) (n := 5) (Nat.le_of_ble_eq_true rfl)
  rw [lg_entry_eq]
  generalize (lg_sl ([.ref (a 7), .int o1, .int o2]) ++ List.replicate (5 - (lg_sl ([.ref (a 7), .int o1, .int o2])).length) Slot.unset).toArray = ls at hl ⊢
  have hl : lv_has ls 5 [(0, .ref (a 7)), (1, .int o1), (2, .int o2)] := hl
  have hB13 : ∀ (n : Nat) (x1 : Int32) (x2 : Int32) (x3 : Int32) (x4 : Int32) (u : q_St) (ls : Array Slot), lv_has ls 5 [(0, .ref (a 7)), (1, .int x1), (2, .int x2), (3, .int x3), (4, .int x4)] → q_lp (fX0_giveBackEmpty_b13 L N) (fun _ _ _ _ _ => none) n x1 x2 x3 x4 u = some (r0, σ0) → ∀ (H : Heap) (locs : List Loc), va_P D vwCl (ax_W a cI L u) H → va_S (ax_A a) s.heap H locs → W p l e (headSpec (Cond.code yX0_giveBackEmpty cX0_giveBackEmpty 5 (some .int) :: q_T) ({ frames := 3, cells := 0, slots := 0, locals := 80 } : Room)).room s m ([.ref (a 7), .int o1, .int o2] : List Value).toArray below meth c H locs 0 0 (MQ below (q_Qi D vwCl (ax_W a cI L) (ax_A a) r0 σ0) ([.ref (a 7), .int o1, .int o2] : List Value).toArray s 0 0 (ax_A a)) (F0 m 13 ls []) := by
    intro n
    induction n with
    | zero => intro x1 x2 x3 x4 u ls hl hF; exact absurd (show (none : Option (Int32 × q_St)) = some _ from hF) (fun h => nomatch h)
    | succ n hi13 =>
      intro x1 x2 x3 x4 u ls hl hF _ _ hP hS
      obtain ⟨ih13, hih⟩ : ∃ q, q = q_lp (fX0_giveBackEmpty_b13 L N) (fun _ _ _ _ _ => none) n := ⟨_, rfl⟩
      rw [← hih] at hi13
      have hF : fX0_giveBackEmpty_b13 L N (q_lp (fX0_giveBackEmpty_b13 L N) (fun _ _ _ _ _ => none) n) x1 x2 x3 x4 u = some (r0, σ0) := hF
      rw [← hih] at hF
      clear hih
      unfold fX0_giveBackEmpty_b13 at hF
      refine lv_iload hx hb dX0_giveBackEmpty_13 (lv_at hl 4 rfl) ?_
      refine lv_bipush (v := 8) hx hb dX0_giveBackEmpty_15 (by decide) ?_
      refine sx_icmp_ge (tgt := 43) hx hb hF dX0_giveBackEmpty_17 (by decide) (fun hF => ?_) (fun hF => ?_)
      · refine lv_aload_n hx hb dX0_giveBackEmpty_43 rfl (lv_at hl 0 rfl) ?_
        refine gx_bodies_space hx hb hts hown hK hP fl_X0_15 dX0_giveBackEmpty_44 ?_
        refine lv_iload_n hx hb dX0_giveBackEmpty_47 rfl (lv_at hl 3 rfl) ?_
        obtain ⟨r4, u5, hc6, hF⟩ := q_bnd_some hF
        refine sx_cv (Wd := (ax_W a cI L)) (σ1 := u5) (q_runV (Wd := (ax_W a cI L)) (σ := u) (q0 := 4) (ci := 5) (T := TX5) (N := 6) (As := [.int x3]) (rest := []) hx hb hml hown hts hK hP (kt_X5_giveBack hD hc6) cw_X0_112 rfl rfl ⟨Nat.le_of_ble_eq_true rfl, Nat.le_of_ble_eq_true rfl⟩ rfl rfl rfl hl.1 rfl (Nat.le_of_ble_eq_true rfl) dX0_giveBackEmpty_48) hS (fun H locs hP hS => ?_)
        refine lv_aload_n hx hb dX0_giveBackEmpty_51 rfl (lv_at hl 0 rfl) ?_
        refine gx_bodies_store hx hb hts hown hK hP fl_X0_11 dX0_giveBackEmpty_52 ?_
        refine lv_iload_n hx hb dX0_giveBackEmpty_55 rfl (lv_at hl 1 rfl) ?_
        refine lv_iload_n hx hb dX0_giveBackEmpty_56 rfl (lv_at hl 2 rfl) ?_
        refine lv_iconst (v := 0) hx hb dX0_giveBackEmpty_57 (by decide) ?_
        obtain ⟨r7, u8, hc9, hF⟩ := q_bnd_some hF
        refine sx_cv (Wd := (ax_W a cI L)) (σ1 := u8) (q_runV (Wd := (ax_W a cI L)) (σ := u5) (q0 := 3) (ci := 6) (T := TX6) (N := 9) (As := [.int x1, .int x2, .int 0]) (rest := []) hx hb hml hown hts hK hP (kt_X6_setHalf hD hc9) cw_X0_88 rfl rfl ⟨Nat.le_of_ble_eq_true rfl, Nat.le_of_ble_eq_true rfl⟩ rfl rfl rfl hl.1 rfl (Nat.le_of_ble_eq_true rfl) dX0_giveBackEmpty_58) hS (fun H locs hP hS => ?_)
        refine lv_iconst (v := 1) hx hb dX0_giveBackEmpty_61 (by decide) ?_
        exact sx_reti (Wd := (ax_W a cI L)) (σ := u8) hx hb hr hF hP hS hlocks dX0_giveBackEmpty_62
      · refine lv_aload_n hx hb dX0_giveBackEmpty_20 rfl (lv_at hl 0 rfl) ?_
        refine gx_bodies_store hx hb hts hown hK hP fl_X0_11 dX0_giveBackEmpty_21 ?_
        refine lv_iload_n hx hb dX0_giveBackEmpty_24 rfl (lv_at hl 3 rfl) ?_
        refine lv_iload hx hb dX0_giveBackEmpty_25 (lv_at hl 4 rfl) ?_
        obtain ⟨r10, u11, hc12, hF⟩ := q_bnd_some hF
        refine sx_cl (Wd := (ax_W a cI L)) (σ1 := u11) (q_runV (Wd := (ax_W a cI L)) (σ := u) (q0 := 3) (ci := 6) (T := TX6) (N := 9) (As := [.int x3, .int x4]) (rest := []) hx hb hml hown hts hK hP (kt_X6_word hD hc12) cw_X0_116 rfl rfl ⟨Nat.le_of_ble_eq_true rfl, Nat.le_of_ble_eq_true rfl⟩ rfl rfl rfl hl.1 rfl (Nat.le_of_ble_eq_true rfl) dX0_giveBackEmpty_27) hS (fun H locs hP hS => ?_)
        refine lv_lconst (v := 0) hx hb dX0_giveBackEmpty_30 (by decide) ?_
        refine W.lcmp hx hb dX0_giveBackEmpty_31 ?_
        refine sx_if_eq (tgt := 37) hx hb hF dX0_giveBackEmpty_32 (by decide) (fun hF => ?_) (fun hF => ?_)
        · refine sx_iinc (d := 1) (k := 4) (lv2 := [(0, .ref (a 7)), (1, .int x1), (2, .int x2), (3, .int x3)]) hx hb hF dX0_giveBackEmpty_37 hl rfl (by decide) (by decide) rfl (fun v13 hF ls hl => ?_)
          refine lv_goto (tgt := 13) hx hb dX0_giveBackEmpty_40 (by decide) ?_
          exact hi13 x1 x2 x3 v13 u11 ls (lv_sub hl [1, 2, 3, 4, 0] rfl) hF _ _ hP hS
        · refine lv_iconst (v := 0) hx hb dX0_giveBackEmpty_35 (by decide) ?_
          exact sx_reti (Wd := (ax_W a cI L)) (σ := u11) hx hb hr hF hP hS hlocks dX0_giveBackEmpty_36
  unfold fX0_giveBackEmpty at hF
  refine lv_aload_n hx hb dX0_giveBackEmpty_0 rfl (lv_at hl 0 rfl) ?_
  refine gx_bodies_store hx hb hts hown hK hP fl_X0_11 dX0_giveBackEmpty_1 ?_
  refine lv_iload_n hx hb dX0_giveBackEmpty_4 rfl (lv_at hl 1 rfl) ?_
  refine lv_iload_n hx hb dX0_giveBackEmpty_5 rfl (lv_at hl 2 rfl) ?_
  obtain ⟨r1, u2, hc3, hF⟩ := q_bnd_some hF
  refine sx_ci (Wd := (ax_W a cI L)) (σ1 := u2) (q_runV (Wd := (ax_W a cI L)) (σ := u) (q0 := 3) (ci := 6) (T := TX6) (N := 9) (As := [.int o1, .int o2]) (rest := []) hx hb hml hown hts hK hP (kt_X6_half hD hc3) cw_X0_54 rfl rfl ⟨Nat.le_of_ble_eq_true rfl, Nat.le_of_ble_eq_true rfl⟩ rfl rfl rfl hl.1 rfl (Nat.le_of_ble_eq_true rfl) dX0_giveBackEmpty_6) hS (fun H locs hP hS => ?_)
  refine lv_istore_n (lv' := [(3, .int r1), (0, .ref (a 7)), (1, .int o1), (2, .int o2)]) hx hb dX0_giveBackEmpty_9 rfl hl (by decide) rfl (fun ls hl => ?_)
  refine lv_iconst (v := 0) hx hb dX0_giveBackEmpty_10 (by decide) ?_
  refine lv_istore (lv' := [(4, .int 0), (3, .int r1), (0, .ref (a 7)), (1, .int o1), (2, .int o2)]) hx hb dX0_giveBackEmpty_11 hl (by decide) rfl (fun ls hl => ?_)
  exact hB13 N o1 o2 r1 0 u2 ls (lv_sub hl [2, 3, 4, 1, 0] rfl) hF _ _ hP hS
set_option maxHeartbeats 4000000 in
set_option maxRecDepth 100000 in
theorem kt_X0_giveBackIndex {N : Nat} {l : Launch} {D : va_G} {a : Nat → Nat} {cI : Nat → ClassId} {L : Nat → Nat} (hD : ∀ σ, va_D (ax_A a) (ax_W a cI L σ)) {o1 : Int32} {o2 : Int32} {o3 : Int32} {u σ0 : q_St} {r0 : Int32} (hF : fX0_giveBackIndex L N o1 o2 o3 u = some (r0, σ0)) : Met l yX0_giveBackIndex (Cond.code yX0_giveBackIndex cX0_giveBackIndex 6 (some .int) :: q_T) ({ frames := 4, cells := 0, slots := 0, locals := 106 } : Room) (q_P D vwCl (ax_T cI) (ax_W a cI L) [.ref (a 7), .int o1, .int o2, .int o3] u) (q_Qi D vwCl (ax_W a cI L) (ax_A a) r0 σ0) 0 0 (ax_A a) := by
  refine Met.ofW (cc := cX0_giveBackIndex) (maxL := 6) (ret := (some .int)) (by decide) rfl ?_
  intro p e s m args below meth c s₁ B hml hv
  obtain ⟨rfl, hP, hK⟩ := hv
  have hx := B.exec
  have hb := B.bytes
  have hr := B.returns
  have hts := q_ts (atoms_spec (ws := Cond.code yX0_giveBackIndex cX0_giveBackIndex 6 (some .int) :: q_T) B.pre)
  have hown : s.vm.findClass RX0 = some m.cls := findClass_of_methodNamed B.named
  have hlocks := B.notSynchronized
  have hS : va_S (ax_A a) s.heap s.heap [] := va_S.rf
  have hl := lv_entry ([.ref (a 7), .int o1, .int o2, .int o3]) (n := 6) (Nat.le_of_ble_eq_true rfl)
  rw [lg_entry_eq]
  generalize (lg_sl ([.ref (a 7), .int o1, .int o2, .int o3]) ++ List.replicate (6 - (lg_sl ([.ref (a 7), .int o1, .int o2, .int o3])).length) Slot.unset).toArray = ls at hl ⊢
  have hl : lv_has ls 6 [(0, .ref (a 7)), (1, .int o1), (2, .int o2), (3, .int o3)] := hl
  unfold fX0_giveBackIndex at hF
  refine lv_aload_n hx hb dX0_giveBackIndex_0 rfl (lv_at hl 0 rfl) ?_
  refine gx_bodies_store hx hb hts hown hK hP fl_X0_11 dX0_giveBackIndex_1 ?_
  refine lv_iload_n hx hb dX0_giveBackIndex_4 rfl (lv_at hl 1 rfl) ?_
  refine lv_iload_n hx hb dX0_giveBackIndex_5 rfl (lv_at hl 2 rfl) ?_
  obtain ⟨r1, u2, hc3, hF⟩ := q_bnd_some hF
  refine sx_ci (Wd := (ax_W a cI L)) (σ1 := u2) (q_runV (Wd := (ax_W a cI L)) (σ := u) (q0 := 3) (ci := 6) (T := TX6) (N := 9) (As := [.int o1, .int o2]) (rest := []) hx hb hml hown hts hK hP (kt_X6_half hD hc3) cw_X0_54 rfl rfl ⟨Nat.le_of_ble_eq_true rfl, Nat.le_of_ble_eq_true rfl⟩ rfl rfl rfl hl.1 rfl (Nat.le_of_ble_eq_true rfl) dX0_giveBackIndex_6) hS (fun H locs hP hS => ?_)
  refine lv_istore (lv' := [(4, .int r1), (0, .ref (a 7)), (1, .int o1), (2, .int o2), (3, .int o3)]) hx hb dX0_giveBackIndex_9 hl (by decide) rfl (fun ls hl => ?_)
  refine lv_iload hx hb dX0_giveBackIndex_11 (lv_at hl 0 rfl) ?_
  refine sx_if_eq (tgt := 22) hx hb hF dX0_giveBackIndex_13 (by decide) (fun hF => ?_) (fun hF => ?_)
  · refine lv_iconst (v := 0) hx hb dX0_giveBackIndex_22 (by decide) ?_
    exact sx_reti (Wd := (ax_W a cI L)) (σ := u2) hx hb hr hF hP hS hlocks dX0_giveBackIndex_23
  · refine lv_iload_n hx hb dX0_giveBackIndex_16 rfl (lv_at hl 4 rfl) ?_
    refine lv_bipush (v := 32) hx hb dX0_giveBackIndex_17 (by decide) ?_
    refine sx_icmp_lt (tgt := 24) hx hb hF dX0_giveBackIndex_19 (by decide) (fun hF => ?_) (fun hF => ?_)
    · refine lv_aload_n hx hb dX0_giveBackIndex_24 rfl (lv_at hl 1 rfl) ?_
      refine lv_iload hx hb dX0_giveBackIndex_25 (lv_at hl 0 rfl) ?_
      refine lv_iload_n hx hb dX0_giveBackIndex_27 rfl (lv_at hl 4 rfl) ?_
      refine lv_iconst (v := 0) hx hb dX0_giveBackIndex_28 (by decide) ?_
      refine sx_max hx hb (hml.trans hl.1.symm) hown hts lw_X0_109 lb_max_s lb_math lb_max_c (Nat.le_of_ble_eq_true rfl) (Nat.le_of_ble_eq_true rfl) dX0_giveBackIndex_29 ?_
      refine lv_bipush (v := 32) hx hb dX0_giveBackIndex_32 (by decide) ?_
      obtain ⟨r4, u5, hc6, hF⟩ := q_bnd_some hF
      refine sx_ci (Wd := (ax_W a cI L)) (σ1 := u5) (q_runV (Wd := (ax_W a cI L)) (σ := u2) (q0 := 7) (ci := 0) (T := TX0) (N := 4) (As := [.int r1, .int (q_max o3 0), .int 32]) (rest := []) hx hb hml hown hts hK hP (kt_X0_giveBackTold hD hc6) cw_X0_99 rfl rfl ⟨Nat.le_of_ble_eq_true rfl, Nat.le_of_ble_eq_true rfl⟩ rfl rfl rfl hl.1 rfl (Nat.le_of_ble_eq_true rfl) dX0_giveBackIndex_34) hS (fun H locs hP hS => ?_)
      refine lv_istore (lv' := [(5, .int r4), (4, .int r1), (0, .ref (a 7)), (1, .int o1), (2, .int o2), (3, .int o3)]) hx hb dX0_giveBackIndex_37 hl (by decide) rfl (fun ls hl => ?_)
      refine lv_iload hx hb dX0_giveBackIndex_39 (lv_at hl 0 rfl) ?_
      refine lv_aload_n hx hb dX0_giveBackIndex_41 rfl (lv_at hl 2 rfl) ?_
      refine lv_iload_n hx hb dX0_giveBackIndex_42 rfl (lv_at hl 3 rfl) ?_
      refine lv_iload_n hx hb dX0_giveBackIndex_43 rfl (lv_at hl 4 rfl) ?_
      obtain ⟨r7, u8, hc9, hF⟩ := q_bnd_some hF
      refine sx_ci (Wd := (ax_W a cI L)) (σ1 := u8) (q_runV (Wd := (ax_W a cI L)) (σ := u5) (q0 := 7) (ci := 0) (T := TX0) (N := 4) (As := [.int o1, .int o2]) (rest := [.int r4]) hx hb hml hown hts hK hP (kt_X0_giveBackEmpty hD hc9) cw_X0_106 rfl rfl ⟨Nat.le_of_ble_eq_true rfl, Nat.le_of_ble_eq_true rfl⟩ rfl rfl rfl hl.1 rfl (Nat.le_of_ble_eq_true rfl) dX0_giveBackIndex_44) hS (fun H locs hP hS => ?_)
      refine lv_iadd hx hb dX0_giveBackIndex_47 ?_
      exact sx_reti (Wd := (ax_W a cI L)) (σ := u8) hx hb hr hF hP hS hlocks dX0_giveBackIndex_48
    · refine lv_iconst (v := 0) hx hb dX0_giveBackIndex_22 (by decide) ?_
      exact sx_reti (Wd := (ax_W a cI L)) (σ := u2) hx hb hr hF hP hS hlocks dX0_giveBackIndex_23
set_option maxHeartbeats 4000000 in
set_option maxRecDepth 100000 in
theorem kt_X0_giveBackFrom {N : Nat} {l : Launch} {D : va_G} {a : Nat → Nat} {cI : Nat → ClassId} {L : Nat → Nat} (hD : ∀ σ, va_D (ax_A a) (ax_W a cI L σ)) {o1 : Int32} {o2 : Int32} {u σ0 : q_St} {r0 : Int32} (hF : fX0_giveBackFrom L N o1 o2 u = some (r0, σ0)) : Met l yX0_giveBackFrom (Cond.code yX0_giveBackFrom cX0_giveBackFrom 7 (some .int) :: q_T) ({ frames := 5, cells := 0, slots := 0, locals := 131 } : Room) (q_P D vwCl (ax_T cI) (ax_W a cI L) [.ref (a 7), .int o1, .int o2] u) (q_Qi D vwCl (ax_W a cI L) (ax_A a) r0 σ0) 0 0 (ax_A a) := by
  refine Met.ofW (cc := cX0_giveBackFrom) (maxL := 7) (ret := (some .int)) (by decide) rfl ?_
  intro p e s m args below meth c s₁ B hml hv
  obtain ⟨rfl, hP, hK⟩ := hv
  have hx := B.exec
  have hb := B.bytes
  have hr := B.returns
  have hts := q_ts (atoms_spec (ws := Cond.code yX0_giveBackFrom cX0_giveBackFrom 7 (some .int) :: q_T) B.pre)
  have hown : s.vm.findClass RX0 = some m.cls := findClass_of_methodNamed B.named
  have hlocks := B.notSynchronized
  have hS : va_S (ax_A a) s.heap s.heap [] := va_S.rf
  have hl := lv_entry ([.ref (a 7), .int o1, .int o2]) (n := 7) (Nat.le_of_ble_eq_true rfl)
  rw [lg_entry_eq]
  generalize (lg_sl ([.ref (a 7), .int o1, .int o2]) ++ List.replicate (7 - (lg_sl ([.ref (a 7), .int o1, .int o2])).length) Slot.unset).toArray = ls at hl ⊢
  have hl : lv_has ls 7 [(0, .ref (a 7)), (1, .int o1), (2, .int o2)] := hl
  have hB65 : ∀ (n : Nat) (x2 : Int32) (x3 : Int32) (x4 : Int32) (x5 : Int32) (x6 : Int32) (u : q_St) (ls : Array Slot), lv_has ls 7 [(0, .ref (a 7)), (2, .int x2), (3, .int x3), (4, .int x4), (5, .int x5), (6, .int x6)] → q_lp (fX0_giveBackFrom_b65 L N) (fun _ _ _ _ _ _ => none) n x2 x3 x4 x5 x6 u = some (r0, σ0) → ∀ (H : Heap) (locs : List Loc), va_P D vwCl (ax_W a cI L u) H → va_S (ax_A a) s.heap H locs → W p l e (headSpec (Cond.code yX0_giveBackFrom cX0_giveBackFrom 7 (some .int) :: q_T) ({ frames := 5, cells := 0, slots := 0, locals := 131 } : Room)).room s m ([.ref (a 7), .int o1, .int o2] : List Value).toArray below meth c H locs 0 0 (MQ below (q_Qi D vwCl (ax_W a cI L) (ax_A a) r0 σ0) ([.ref (a 7), .int o1, .int o2] : List Value).toArray s 0 0 (ax_A a)) (F0 m 65 ls []) := by
    intro n
    induction n with
    | zero => intro x2 x3 x4 x5 x6 u ls hl hF; exact absurd (show (none : Option (Int32 × q_St)) = some _ from hF) (fun h => nomatch h)
    | succ n hi65 =>
      intro x2 x3 x4 x5 x6 u ls hl hF _ _ hP hS
      obtain ⟨ih65, hih⟩ : ∃ q, q = q_lp (fX0_giveBackFrom_b65 L N) (fun _ _ _ _ _ _ => none) n := ⟨_, rfl⟩
      rw [← hih] at hi65
      have hF : fX0_giveBackFrom_b65 L N (q_lp (fX0_giveBackFrom_b65 L N) (fun _ _ _ _ _ _ => none) n) x2 x3 x4 x5 x6 u = some (r0, σ0) := hF
      rw [← hih] at hF
      clear hih
      unfold fX0_giveBackFrom_b65 at hF
      refine lv_iload hx hb dX0_giveBackFrom_65 (lv_at hl 5 rfl) ?_
      refine lv_bipush (v := 32) hx hb dX0_giveBackFrom_67 (by decide) ?_
      refine sx_icmp_ge (tgt := 101) hx hb hF dX0_giveBackFrom_69 (by decide) (fun hF => ?_) (fun hF => ?_)
      · refine lv_iload hx hb dX0_giveBackFrom_101 (lv_at hl 3 rfl) ?_
        refine lv_aload_n hx hb dX0_giveBackFrom_103 rfl (lv_at hl 0 rfl) ?_
        refine lv_iload_n hx hb dX0_giveBackFrom_104 rfl (lv_at hl 2 rfl) ?_
        refine lv_bipush (v := 17) hx hb dX0_giveBackFrom_105 (by decide) ?_
        obtain ⟨r14, u15, hc16, hF⟩ := q_bnd_some hF
        refine sx_ci (Wd := (ax_W a cI L)) (σ1 := u15) (q_runV (Wd := (ax_W a cI L)) (σ := u) (q0 := 7) (ci := 0) (T := TX0) (N := 4) (As := [.int x3, .int 17]) (rest := [.int x4]) hx hb hml hown hts hK hP (kt_X0_giveBackEmpty hD hc16) cw_X0_106 rfl rfl ⟨Nat.le_of_ble_eq_true rfl, Nat.le_of_ble_eq_true rfl⟩ rfl rfl rfl hl.1 rfl (Nat.le_of_ble_eq_true rfl) dX0_giveBackFrom_107) hS (fun H locs hP hS => ?_)
        refine lv_iadd hx hb dX0_giveBackFrom_110 ?_
        exact sx_reti (Wd := (ax_W a cI L)) (σ := u15) hx hb hr hF hP hS hlocks dX0_giveBackFrom_111
      · refine lv_iload hx hb dX0_giveBackFrom_72 (lv_at hl 3 rfl) ?_
        refine lv_aload_n hx hb dX0_giveBackFrom_74 rfl (lv_at hl 0 rfl) ?_
        refine lv_iload hx hb dX0_giveBackFrom_75 (lv_at hl 4 rfl) ?_
        refine lv_iload hx hb dX0_giveBackFrom_77 (lv_at hl 5 rfl) ?_
        refine lv_iload_n hx hb dX0_giveBackFrom_79 rfl (lv_at hl 1 rfl) ?_
        refine lv_bipush (v := 44) hx hb dX0_giveBackFrom_80 (by decide) ?_
        refine lv_isub hx hb dX0_giveBackFrom_82 ?_
        refine lv_bipush (v := 32) hx hb dX0_giveBackFrom_83 (by decide) ?_
        refine lv_iload hx hb dX0_giveBackFrom_85 (lv_at hl 5 rfl) ?_
        refine lv_imul hx hb dX0_giveBackFrom_87 ?_
        refine lv_isub hx hb dX0_giveBackFrom_88 ?_
        obtain ⟨r17, u18, hc19, hF⟩ := q_bnd_some hF
        refine sx_ci (Wd := (ax_W a cI L)) (σ1 := u18) (q_runV (Wd := (ax_W a cI L)) (σ := u) (q0 := 7) (ci := 0) (T := TX0) (N := 4) (As := [.int x5, .int x6, .int ((x2 - 44) - (32 * x6))]) (rest := [.int x4]) hx hb hml hown hts hK hP (kt_X0_giveBackIndex hD hc19) cw_X0_103 rfl rfl ⟨Nat.le_of_ble_eq_true rfl, Nat.le_of_ble_eq_true rfl⟩ rfl rfl rfl hl.1 rfl (Nat.le_of_ble_eq_true rfl) dX0_giveBackFrom_89) hS (fun H locs hP hS => ?_)
        refine lv_iadd hx hb dX0_giveBackFrom_92 ?_
        refine sx_istore (lv2 := [(0, .ref (a 7)), (2, .int x2), (3, .int x3), (5, .int x5), (6, .int x6)]) hx hb hF dX0_giveBackFrom_93 hl (by decide) rfl (fun v20 hF ls hl => ?_)
        refine sx_iinc (d := 1) (k := 5) (lv2 := [(4, .int v20), (0, .ref (a 7)), (2, .int x2), (3, .int x3), (5, .int x5)]) hx hb hF dX0_giveBackFrom_95 hl rfl (by decide) (by decide) rfl (fun v21 hF ls hl => ?_)
        refine lv_goto (tgt := 65) hx hb dX0_giveBackFrom_98 (by decide) ?_
        exact hi65 x2 x3 v20 x5 v21 u18 ls (lv_sub hl [2, 3, 4, 1, 5, 0] rfl) hF _ _ hP hS
  unfold fX0_giveBackFrom at hF
  refine lv_aload_n hx hb dX0_giveBackFrom_0 rfl (lv_at hl 0 rfl) ?_
  refine gx_bodies_nodes hx hb hts hown hK hP fl_X0_19 dX0_giveBackFrom_1 ?_
  refine lv_iload_n hx hb dX0_giveBackFrom_4 rfl (lv_at hl 1 rfl) ?_
  obtain ⟨r1, u2, hc3, hF⟩ := q_bnd_some hF
  refine sx_ci (Wd := (ax_W a cI L)) (σ1 := u2) (q_runV (Wd := (ax_W a cI L)) (σ := u) (q0 := 5) (ci := 4) (T := TX4) (N := 2) (As := [.int o1]) (rest := []) hx hb hml hown hts hK hP (kt_X4_sectorOf hD hc3) cw_X0_36 rfl rfl ⟨Nat.le_of_ble_eq_true rfl, Nat.le_of_ble_eq_true rfl⟩ rfl rfl rfl hl.1 rfl (Nat.le_of_ble_eq_true rfl) dX0_giveBackFrom_5) hS (fun H locs hP hS => ?_)
  refine lv_istore_n (lv' := [(3, .int r1), (0, .ref (a 7)), (1, .int o1), (2, .int o2)]) hx hb dX0_giveBackFrom_8 rfl hl (by decide) rfl (fun ls hl => ?_)
  refine lv_aload_n hx hb dX0_giveBackFrom_9 rfl (lv_at hl 1 rfl) ?_
  refine lv_iload_n hx hb dX0_giveBackFrom_10 rfl (lv_at hl 0 rfl) ?_
  refine lv_iconst (v := 4) hx hb dX0_giveBackFrom_11 (by decide) ?_
  refine lv_iload_n hx hb dX0_giveBackFrom_12 rfl (lv_at hl 3 rfl) ?_
  refine lv_bipush (v := 12) hx hb dX0_giveBackFrom_13 (by decide) ?_
  refine sx_min hx hb (hml.trans hl.1.symm) hown hts lw_X0_94 lb_min_s lb_math lb_min_c (Nat.le_of_ble_eq_true rfl) (Nat.le_of_ble_eq_true rfl) dX0_giveBackFrom_15 ?_
  refine lv_iadd hx hb dX0_giveBackFrom_18 ?_
  refine lv_bipush (v := 16) hx hb dX0_giveBackFrom_19 (by decide) ?_
  obtain ⟨r4, u5, hc6, hF⟩ := q_bnd_some hF
  refine sx_ci (Wd := (ax_W a cI L)) (σ1 := u5) (q_runV (Wd := (ax_W a cI L)) (σ := u2) (q0 := 7) (ci := 0) (T := TX0) (N := 4) (As := [.int r1, .int (4 + (q_min o2 12)), .int 16]) (rest := []) hx hb hml hown hts hK hP (kt_X0_giveBackTold hD hc6) cw_X0_99 rfl rfl ⟨Nat.le_of_ble_eq_true rfl, Nat.le_of_ble_eq_true rfl⟩ rfl rfl rfl hl.1 rfl (Nat.le_of_ble_eq_true rfl) dX0_giveBackFrom_21) hS (fun H locs hP hS => ?_)
  refine lv_istore (lv' := [(4, .int r4), (3, .int r1), (0, .ref (a 7)), (1, .int o1), (2, .int o2)]) hx hb dX0_giveBackFrom_24 hl (by decide) rfl (fun ls hl => ?_)
  refine lv_iload hx hb dX0_giveBackFrom_26 (lv_at hl 0 rfl) ?_
  refine lv_aload_n hx hb dX0_giveBackFrom_28 rfl (lv_at hl 2 rfl) ?_
  refine lv_iload_n hx hb dX0_giveBackFrom_29 rfl (lv_at hl 1 rfl) ?_
  refine lv_bipush (v := 16) hx hb dX0_giveBackFrom_30 (by decide) ?_
  refine lv_iload_n hx hb dX0_giveBackFrom_32 rfl (lv_at hl 4 rfl) ?_
  refine lv_bipush (v := 12) hx hb dX0_giveBackFrom_33 (by decide) ?_
  refine lv_isub hx hb dX0_giveBackFrom_35 ?_
  obtain ⟨r7, u8, hc9, hF⟩ := q_bnd_some hF
  refine sx_ci (Wd := (ax_W a cI L)) (σ1 := u8) (q_runV (Wd := (ax_W a cI L)) (σ := u5) (q0 := 7) (ci := 0) (T := TX0) (N := 4) (As := [.int r1, .int 16, .int (o2 - 12)]) (rest := [.int r4]) hx hb hml hown hts hK hP (kt_X0_giveBackIndex hD hc9) cw_X0_103 rfl rfl ⟨Nat.le_of_ble_eq_true rfl, Nat.le_of_ble_eq_true rfl⟩ rfl rfl rfl hl.1 rfl (Nat.le_of_ble_eq_true rfl) dX0_giveBackFrom_36) hS (fun H locs hP hS => ?_)
  refine lv_iadd hx hb dX0_giveBackFrom_39 ?_
  refine sx_istore (lv2 := [(3, .int r1), (0, .ref (a 7)), (1, .int o1), (2, .int o2)]) hx hb hF dX0_giveBackFrom_40 hl (by decide) rfl (fun v10 hF ls hl => ?_)
  refine lv_aload_n hx hb dX0_giveBackFrom_42 rfl (lv_at hl 2 rfl) ?_
  refine gx_bodies_store hx hb hts hown hK hP fl_X0_11 dX0_giveBackFrom_43 ?_
  refine lv_iload_n hx hb dX0_giveBackFrom_46 rfl (lv_at hl 1 rfl) ?_
  refine lv_bipush (v := 17) hx hb dX0_giveBackFrom_47 (by decide) ?_
  obtain ⟨r11, u12, hc13, hF⟩ := q_bnd_some hF
  refine sx_ci (Wd := (ax_W a cI L)) (σ1 := u12) (q_runV (Wd := (ax_W a cI L)) (σ := u8) (q0 := 3) (ci := 6) (T := TX6) (N := 9) (As := [.int r1, .int 17]) (rest := []) hx hb hml hown hts hK hP (kt_X6_half hD hc13) cw_X0_54 rfl rfl ⟨Nat.le_of_ble_eq_true rfl, Nat.le_of_ble_eq_true rfl⟩ rfl rfl rfl hl.1 rfl (Nat.le_of_ble_eq_true rfl) dX0_giveBackFrom_49) hS (fun H locs hP hS => ?_)
  refine lv_istore (lv' := [(5, .int r11), (4, .int v10), (3, .int r1), (0, .ref (a 7)), (1, .int o1), (2, .int o2)]) hx hb dX0_giveBackFrom_52 hl (by decide) rfl (fun ls hl => ?_)
  refine lv_iload hx hb dX0_giveBackFrom_54 (lv_at hl 0 rfl) ?_
  refine sx_if_ne (tgt := 62) hx hb hF dX0_giveBackFrom_56 (by decide) (fun hF => ?_) (fun hF => ?_)
  · refine lv_iconst (v := 0) hx hb dX0_giveBackFrom_62 (by decide) ?_
    refine lv_istore (lv' := [(6, .int 0), (5, .int r11), (4, .int v10), (3, .int r1), (0, .ref (a 7)), (1, .int o1), (2, .int o2)]) hx hb dX0_giveBackFrom_63 hl (by decide) rfl (fun ls hl => ?_)
    exact hB65 N o2 r1 v10 r11 0 u12 ls (lv_sub hl [4, 6, 3, 2, 1, 0] rfl) hF _ _ hP hS
  · refine lv_iload hx hb dX0_giveBackFrom_59 (lv_at hl 1 rfl) ?_
    exact sx_reti (Wd := (ax_W a cI L)) (σ := u12) hx hb hr hF hP hS hlocks dX0_giveBackFrom_61
set_option maxHeartbeats 4000000 in
set_option maxRecDepth 100000 in
theorem kt_X0_shorten {N : Nat} {l : Launch} {D : va_G} {a : Nat → Nat} {cI : Nat → ClassId} {L : Nat → Nat} (hD : ∀ σ, va_D (ax_A a) (ax_W a cI L σ)) {o1 : Int32} {o2 : Int32} {u σ0 : q_St} {r0 : Int32} (hF : fX0_shorten L N o1 o2 u = some (r0, σ0)) : Met l yX0_shorten (Cond.code yX0_shorten cX0_shorten 6 (some .int) :: q_T) ({ frames := 6, cells := 0, slots := 0, locals := 157 } : Room) (q_P D vwCl (ax_T cI) (ax_W a cI L) [.ref (a 7), .int o1, .int o2] u) (q_Qi D vwCl (ax_W a cI L) (ax_A a) r0 σ0) 0 0 (ax_A a) := by
  refine Met.ofW (cc := cX0_shorten) (maxL := 6) (ret := (some .int)) (by decide) rfl ?_
  intro p e s m args below meth c s₁ B hml hv
  obtain ⟨rfl, hP, hK⟩ := hv
  have hx := B.exec
  have hb := B.bytes
  have hr := B.returns
  have hts := q_ts (atoms_spec (ws := Cond.code yX0_shorten cX0_shorten 6 (some .int) :: q_T) B.pre)
  have hown : s.vm.findClass RX0 = some m.cls := findClass_of_methodNamed B.named
  have hlocks := B.notSynchronized
  have hS : va_S (ax_A a) s.heap s.heap [] := va_S.rf
  have hl := lv_entry ([.ref (a 7), .int o1, .int o2]) (n := 6) (Nat.le_of_ble_eq_true rfl)
  rw [lg_entry_eq]
  generalize (lg_sl ([.ref (a 7), .int o1, .int o2]) ++ List.replicate (6 - (lg_sl ([.ref (a 7), .int o1, .int o2])).length) Slot.unset).toArray = ls at hl ⊢
  have hl : lv_has ls 6 [(0, .ref (a 7)), (1, .int o1), (2, .int o2)] := hl
  have hB57 : ∀ (x1 : Int32) (x2 : Int32) (u : q_St) (ls : Array Slot), lv_has ls 6 [(0, .ref (a 7)), (1, .int x1), (2, .int x2)] → fX0_shorten_b57 L N x1 x2 u = some (r0, σ0) → ∀ (H : Heap) (locs : List Loc), va_P D vwCl (ax_W a cI L u) H → va_S (ax_A a) s.heap H locs → W p l e (headSpec (Cond.code yX0_shorten cX0_shorten 6 (some .int) :: q_T) ({ frames := 6, cells := 0, slots := 0, locals := 157 } : Room)).room s m ([.ref (a 7), .int o1, .int o2] : List Value).toArray below meth c H locs 0 0 (MQ below (q_Qi D vwCl (ax_W a cI L) (ax_A a) r0 σ0) ([.ref (a 7), .int o1, .int o2] : List Value).toArray s 0 0 (ax_A a)) (F0 m 57 ls []) := by
    intro x1 x2 u ls hl hF _ _ hP hS
    unfold fX0_shorten_b57 at hF
    refine lv_aload_n hx hb dX0_shorten_57 rfl (lv_at hl 0 rfl) ?_
    refine gx_bodies_nodes hx hb hts hown hK hP fl_X0_19 dX0_shorten_58 ?_
    refine lv_iload_n hx hb dX0_shorten_61 rfl (lv_at hl 1 rfl) ?_
    refine lv_iload_n hx hb dX0_shorten_62 rfl (lv_at hl 2 rfl) ?_
    obtain ⟨r5, u6, hc7, hF⟩ := q_bnd_some hF
    refine sx_cv (Wd := (ax_W a cI L)) (σ1 := u6) (q_runV (Wd := (ax_W a cI L)) (σ := u) (q0 := 5) (ci := 4) (T := TX4) (N := 2) (As := [.int x1, .int x2]) (rest := []) hx hb hml hown hts hK hP (kt_X4_setLength hD hc7) cw_X0_75 rfl rfl ⟨Nat.le_of_ble_eq_true rfl, Nat.le_of_ble_eq_true rfl⟩ rfl rfl rfl hl.1 rfl (Nat.le_of_ble_eq_true rfl) dX0_shorten_63) hS (fun H locs hP hS => ?_)
    refine lv_aload_n hx hb dX0_shorten_66 rfl (lv_at hl 0 rfl) ?_
    refine lv_iload_n hx hb dX0_shorten_67 rfl (lv_at hl 1 rfl) ?_
    refine lv_iload_n hx hb dX0_shorten_68 rfl (lv_at hl 2 rfl) ?_
    refine lv_bipush (v := 64) hx hb dX0_shorten_69 (by decide) ?_
    refine lv_iadd hx hb dX0_shorten_71 ?_
    refine lv_iconst (v := 1) hx hb dX0_shorten_72 (by decide) ?_
    refine lv_isub hx hb dX0_shorten_73 ?_
    refine lv_bipush (v := 64) hx hb dX0_shorten_74 (by decide) ?_
    refine lv_idiv hx hb dX0_shorten_76 (by decide) ?_
    obtain ⟨r8, u9, hc10, hF⟩ := q_bnd_some hF
    refine sx_ci (Wd := (ax_W a cI L)) (σ1 := u9) (q_runV (Wd := (ax_W a cI L)) (σ := u6) (q0 := 7) (ci := 0) (T := TX0) (N := 4) (As := [.int x1, .int (((x2 + 64) - 1) / 64)]) (rest := []) hx hb hml hown hts hK hP (kt_X0_giveBackFrom hD hc10) cw_X0_91 rfl rfl ⟨Nat.le_of_ble_eq_true rfl, Nat.le_of_ble_eq_true rfl⟩ rfl rfl rfl hl.1 rfl (Nat.le_of_ble_eq_true rfl) dX0_shorten_77) hS (fun H locs hP hS => ?_)
    exact sx_reti (Wd := (ax_W a cI L)) (σ := u9) hx hb hr hF hP hS hlocks dX0_shorten_80
  have hB27 : ∀ (n : Nat) (x1 : Int32) (x2 : Int32) (x4 : Int32) (x5 : Int32) (u : q_St) (ls : Array Slot), lv_has ls 6 [(0, .ref (a 7)), (1, .int x1), (2, .int x2), (4, .int x4), (5, .int x5)] → q_lp (fX0_shorten_b27 L N) (fun _ _ _ _ _ => none) n x1 x2 x4 x5 u = some (r0, σ0) → ∀ (H : Heap) (locs : List Loc), va_P D vwCl (ax_W a cI L u) H → va_S (ax_A a) s.heap H locs → W p l e (headSpec (Cond.code yX0_shorten cX0_shorten 6 (some .int) :: q_T) ({ frames := 6, cells := 0, slots := 0, locals := 157 } : Room)).room s m ([.ref (a 7), .int o1, .int o2] : List Value).toArray below meth c H locs 0 0 (MQ below (q_Qi D vwCl (ax_W a cI L) (ax_A a) r0 σ0) ([.ref (a 7), .int o1, .int o2] : List Value).toArray s 0 0 (ax_A a)) (F0 m 27 ls []) := by
    intro n
    induction n with
    | zero => intro x1 x2 x4 x5 u ls hl hF; exact absurd (show (none : Option (Int32 × q_St)) = some _ from hF) (fun h => nomatch h)
    | succ n hi27 =>
      intro x1 x2 x4 x5 u ls hl hF _ _ hP hS
      obtain ⟨ih27, hih⟩ : ∃ q, q = q_lp (fX0_shorten_b27 L N) (fun _ _ _ _ _ => none) n := ⟨_, rfl⟩
      rw [← hih] at hi27
      have hF : fX0_shorten_b27 L N (q_lp (fX0_shorten_b27 L N) (fun _ _ _ _ _ => none) n) x1 x2 x4 x5 u = some (r0, σ0) := hF
      rw [← hih] at hF
      clear hih
      unfold fX0_shorten_b27 at hF
      refine lv_iload hx hb dX0_shorten_27 (lv_at hl 4 rfl) ?_
      refine lv_bipush (v := 64) hx hb dX0_shorten_29 (by decide) ?_
      refine sx_icmp_ge (tgt := 57) hx hb hF dX0_shorten_31 (by decide) (fun hF => ?_) (fun hF => ?_)
      · exact hB57 x1 x2 u ls (lv_sub hl [0, 1, 2] rfl) hF _ _ hP hS
      · refine lv_iload hx hb dX0_shorten_34 (lv_at hl 3 rfl) ?_
        refine sx_if_eq (tgt := 57) hx hb hF dX0_shorten_36 (by decide) (fun hF => ?_) (fun hF => ?_)
        · exact hB57 x1 x2 u ls (lv_sub hl [0, 1, 2] rfl) hF _ _ hP hS
        · refine lv_aload_n hx hb dX0_shorten_39 rfl (lv_at hl 0 rfl) ?_
          refine gx_bodies_store hx hb hts hown hK hP fl_X0_11 dX0_shorten_40 ?_
          refine lv_iload hx hb dX0_shorten_43 (lv_at hl 3 rfl) ?_
          refine lv_iload hx hb dX0_shorten_45 (lv_at hl 4 rfl) ?_
          refine lv_iconst (v := 0) hx hb dX0_shorten_47 (by decide) ?_
          obtain ⟨r11, u12, hc13, hF⟩ := q_bnd_some hF
          refine sx_cv (Wd := (ax_W a cI L)) (σ1 := u12) (q_runV (Wd := (ax_W a cI L)) (σ := u) (q0 := 3) (ci := 6) (T := TX6) (N := 9) (As := [.int x4, .int x5, .int 0]) (rest := []) hx hb hml hown hts hK hP (kt_X6_setOctet hD hc13) cw_X0_71 rfl rfl ⟨Nat.le_of_ble_eq_true rfl, Nat.le_of_ble_eq_true rfl⟩ rfl rfl rfl hl.1 rfl (Nat.le_of_ble_eq_true rfl) dX0_shorten_48) hS (fun H locs hP hS => ?_)
          refine sx_iinc (d := 1) (k := 4) (lv2 := [(0, .ref (a 7)), (1, .int x1), (2, .int x2), (4, .int x4)]) hx hb hF dX0_shorten_51 hl rfl (by decide) (by decide) rfl (fun v14 hF ls hl => ?_)
          refine lv_goto (tgt := 27) hx hb dX0_shorten_54 (by decide) ?_
          exact hi27 x1 x2 x4 v14 u12 ls (lv_sub hl [1, 2, 3, 4, 0] rfl) hF _ _ hP hS
  have hB22 : ∀ (x1 : Int32) (x2 : Int32) (x3 : Int32) (y0 : Int32) (u : q_St) (ls : Array Slot), lv_has ls 6 [(0, .ref (a 7)), (1, .int x1), (2, .int x2), (3, .int x3)] → fX0_shorten_b22 L N x1 x2 x3 y0 u = some (r0, σ0) → ∀ (H : Heap) (locs : List Loc), va_P D vwCl (ax_W a cI L u) H → va_S (ax_A a) s.heap H locs → W p l e (headSpec (Cond.code yX0_shorten cX0_shorten 6 (some .int) :: q_T) ({ frames := 6, cells := 0, slots := 0, locals := 157 } : Room)).room s m ([.ref (a 7), .int o1, .int o2] : List Value).toArray below meth c H locs 0 0 (MQ below (q_Qi D vwCl (ax_W a cI L) (ax_A a) r0 σ0) ([.ref (a 7), .int o1, .int o2] : List Value).toArray s 0 0 (ax_A a)) (F0 m 22 ls [.int y0]) := by
    intro x1 x2 x3 y0 u ls hl hF _ _ hP hS
    unfold fX0_shorten_b22 at hF
    refine lv_istore (lv' := [(4, .int y0), (0, .ref (a 7)), (1, .int x1), (2, .int x2), (3, .int x3)]) hx hb dX0_shorten_22 hl (by decide) rfl (fun ls hl => ?_)
    refine lv_iload_n hx hb dX0_shorten_24 rfl (lv_at hl 4 rfl) ?_
    refine lv_istore (lv' := [(5, .int x3), (4, .int y0), (0, .ref (a 7)), (1, .int x1), (2, .int x2), (3, .int x3)]) hx hb dX0_shorten_25 hl (by decide) rfl (fun ls hl => ?_)
    exact hB27 N x1 x2 y0 x3 u ls (lv_sub hl [2, 3, 4, 1, 0] rfl) hF _ _ hP hS
  unfold fX0_shorten at hF
  refine lv_iload_n hx hb dX0_shorten_0 rfl (lv_at hl 2 rfl) ?_
  refine lv_bipush (v := 64) hx hb dX0_shorten_1 (by decide) ?_
  refine lv_irem hx hb dX0_shorten_3 (by decide) ?_
  refine sx_istore_n (lv2 := [(0, .ref (a 7)), (1, .int o1), (2, .int o2)]) hx hb hF dX0_shorten_4 rfl hl (by decide) rfl (fun v1 hF ls hl => ?_)
  refine lv_iload_n hx hb dX0_shorten_5 rfl (lv_at hl 0 rfl) ?_
  refine sx_if_ne (tgt := 13) hx hb hF dX0_shorten_6 (by decide) (fun hF => ?_) (fun hF => ?_)
  · refine lv_aload_n hx hb dX0_shorten_13 rfl (lv_at hl 1 rfl) ?_
    refine lv_iload_n hx hb dX0_shorten_14 rfl (lv_at hl 2 rfl) ?_
    refine lv_iload_n hx hb dX0_shorten_15 rfl (lv_at hl 3 rfl) ?_
    refine lv_bipush (v := 64) hx hb dX0_shorten_16 (by decide) ?_
    refine lv_idiv hx hb dX0_shorten_18 (by decide) ?_
    obtain ⟨r2, u3, hc4, hF⟩ := q_bnd_some hF
    refine sx_ci (Wd := (ax_W a cI L)) (σ1 := u3) (q_runV (Wd := (ax_W a cI L)) (σ := u) (q0 := 7) (ci := 0) (T := TX0) (N := 4) (As := [.int o1, .int (o2 / 64)]) (rest := []) hx hb hml hown hts hK hP (kt_X0_pieceBlock hD hc4) cw_X0_48 rfl rfl ⟨Nat.le_of_ble_eq_true rfl, Nat.le_of_ble_eq_true rfl⟩ rfl rfl rfl hl.1 rfl (Nat.le_of_ble_eq_true rfl) dX0_shorten_19) hS (fun H locs hP hS => ?_)
    exact hB22 o1 o2 v1 r2 u3 ls (lv_sub hl [1, 2, 3, 0] rfl) hF _ _ hP hS
  · refine lv_iconst (v := 0) hx hb dX0_shorten_9 (by decide) ?_
    refine lv_goto (tgt := 22) hx hb dX0_shorten_10 (by decide) ?_
    exact hB22 o1 o2 v1 0 u ls (lv_sub hl [1, 2, 3, 0] rfl) hF _ _ hP hS
set_option maxHeartbeats 4000000 in
set_option maxRecDepth 100000 in
theorem kt_X10_cut {N : Nat} {l : Launch} {D : va_G} {a : Nat → Nat} {cI : Nat → ClassId} {L : Nat → Nat} (hD : ∀ σ, va_D (ax_A a) (ax_W a cI L σ)) {o1 : Int32} {o2 : Int32} {u σ0 : q_St} {r0 : Int32} (hF : fX10_cut L N o1 o2 u = some (r0, σ0)) : Met l yX10_cut (Cond.code yX10_cut cX10_cut 4 (some .int) :: q_T) ({ frames := 7, cells := 0, slots := 0, locals := 182 } : Room) (q_P D vwCl (ax_T cI) (ax_W a cI L) [.ref (a 0), .int o1, .int o2] u) (q_Qi D vwCl (ax_W a cI L) (ax_A a) r0 σ0) 0 0 (ax_A a) := by
  refine Met.ofW (cc := cX10_cut) (maxL := 4) (ret := (some .int)) (by decide) rfl ?_
  intro p e s m args below meth c s₁ B hml hv
  obtain ⟨rfl, hP, hK⟩ := hv
  have hx := B.exec
  have hb := B.bytes
  have hr := B.returns
  have hts := q_ts (atoms_spec (ws := Cond.code yX10_cut cX10_cut 4 (some .int) :: q_T) B.pre)
  have hown : s.vm.findClass RX10 = some m.cls := findClass_of_methodNamed B.named
  have hlocks := B.notSynchronized
  have hS : va_S (ax_A a) s.heap s.heap [] := va_S.rf
  have hl := lv_entry ([.ref (a 0), .int o1, .int o2]) (n := 4) (Nat.le_of_ble_eq_true rfl)
  rw [lg_entry_eq]
  generalize (lg_sl ([.ref (a 0), .int o1, .int o2]) ++ List.replicate (4 - (lg_sl ([.ref (a 0), .int o1, .int o2])).length) Slot.unset).toArray = ls at hl ⊢
  have hl : lv_has ls 4 [(0, .ref (a 0)), (1, .int o1), (2, .int o2)] := hl
  unfold fX10_cut at hF
  refine lv_aload_n hx hb dX10_cut_0 rfl (lv_at hl 0 rfl) ?_
  refine gx_h_store hx hb hts hown hK hP fl_X10_63 dX10_cut_1 ?_
  refine lv_bipush (v := 40) hx hb dX10_cut_4 (by decide) ?_
  obtain ⟨r1, u2, hc3, hF⟩ := q_bnd_some hF
  refine sx_ci (Wd := (ax_W a cI L)) (σ1 := u2) (q_runV (Wd := (ax_W a cI L)) (σ := u) (q0 := 3) (ci := 6) (T := TX6) (N := 9) (As := [.int 40]) (rest := []) hx hb hml hown hts hK hP (kt_X6_commitOver hD hc3) cw_X10_126 rfl rfl ⟨Nat.le_of_ble_eq_true rfl, Nat.le_of_ble_eq_true rfl⟩ rfl rfl rfl hl.1 rfl (Nat.le_of_ble_eq_true rfl) dX10_cut_6) hS (fun H locs hP hS => ?_)
  refine sx_if_ne (tgt := 15) hx hb hF dX10_cut_9 (by decide) (fun hF => ?_) (fun hF => ?_)
  · refine lv_aload_n hx hb dX10_cut_15 rfl (lv_at hl 0 rfl) ?_
    refine gx_h_nodes hx hb hts hown hK hP fl_X10_71 dX10_cut_16 ?_
    refine lv_iload_n hx hb dX10_cut_19 rfl (lv_at hl 1 rfl) ?_
    obtain ⟨r4, u5, hc6, hF⟩ := q_bnd_some hF
    refine sx_ci (Wd := (ax_W a cI L)) (σ1 := u5) (q_runV (Wd := (ax_W a cI L)) (σ := u2) (q0 := 5) (ci := 4) (T := TX4) (N := 2) (As := [.int o1]) (rest := []) hx hb hml hown hts hK hP (kt_X4_kindOf hD hc6) cw_X10_173 rfl rfl ⟨Nat.le_of_ble_eq_true rfl, Nat.le_of_ble_eq_true rfl⟩ rfl rfl rfl hl.1 rfl (Nat.le_of_ble_eq_true rfl) dX10_cut_20) hS (fun H locs hP hS => ?_)
    refine lv_iconst (v := 1) hx hb dX10_cut_23 (by decide) ?_
    refine sx_icmp_eq (tgt := 30) hx hb hF dX10_cut_24 (by decide) (fun hF => ?_) (fun hF => ?_)
    · refine lv_aload_n hx hb dX10_cut_30 rfl (lv_at hl 0 rfl) ?_
      refine gx_h_nodes hx hb hts hown hK hP fl_X10_71 dX10_cut_31 ?_
      refine lv_iload_n hx hb dX10_cut_34 rfl (lv_at hl 1 rfl) ?_
      refine lv_iconst (v := 2) hx hb dX10_cut_35 (by decide) ?_
      refine lv_aload_n hx hb dX10_cut_36 rfl (lv_at hl 0 rfl) ?_
      refine gx_h_who hx hb hts hown hK hP fl_X10_113 dX10_cut_37 ?_
      obtain ⟨r7, u8, hc9, hF⟩ := q_bnd_some hF
      refine sx_ci (Wd := (ax_W a cI L)) (σ1 := u8) (q_runV (Wd := (ax_W a cI L)) (σ := u5) (q0 := 5) (ci := 4) (T := TX4) (N := 2) (As := [.int o1, .int 2, .int (q_i u5 0)]) (rest := []) hx hb hml hown hts hK hP (kt_X4_may hD hc9) cw_X10_176 rfl rfl ⟨Nat.le_of_ble_eq_true rfl, Nat.le_of_ble_eq_true rfl⟩ rfl rfl rfl hl.1 rfl (Nat.le_of_ble_eq_true rfl) dX10_cut_40) hS (fun H locs hP hS => ?_)
      refine sx_if_ne (tgt := 49) hx hb hF dX10_cut_43 (by decide) (fun hF => ?_) (fun hF => ?_)
      · refine lv_aload_n hx hb dX10_cut_49 rfl (lv_at hl 0 rfl) ?_
        refine gx_h_nodes hx hb hts hown hK hP fl_X10_71 dX10_cut_50 ?_
        refine lv_iload_n hx hb dX10_cut_53 rfl (lv_at hl 1 rfl) ?_
        obtain ⟨r10, u11, hc12, hF⟩ := q_bnd_some hF
        refine sx_ci (Wd := (ax_W a cI L)) (σ1 := u11) (q_runV (Wd := (ax_W a cI L)) (σ := u8) (q0 := 5) (ci := 4) (T := TX4) (N := 2) (As := [.int o1]) (rest := []) hx hb hml hown hts hK hP (kt_X4_lengthOf hD hc12) cw_X10_180 rfl rfl ⟨Nat.le_of_ble_eq_true rfl, Nat.le_of_ble_eq_true rfl⟩ rfl rfl rfl hl.1 rfl (Nat.le_of_ble_eq_true rfl) dX10_cut_54) hS (fun H locs hP hS => ?_)
        refine lv_istore_n (lv' := [(3, .int r10), (0, .ref (a 0)), (1, .int o1), (2, .int o2)]) hx hb dX10_cut_57 rfl hl (by decide) rfl (fun ls hl => ?_)
        refine lv_iload_n hx hb dX10_cut_58 rfl (lv_at hl 3 rfl) ?_
        refine sx_if_lt (tgt := 67) hx hb hF dX10_cut_59 (by decide) (fun hF => ?_) (fun hF => ?_)
        · refine lv_bipush (v := (-15)) hx hb dX10_cut_67 (by decide) ?_
          exact sx_reti (Wd := (ax_W a cI L)) (σ := u11) hx hb hr hF hP hS hlocks dX10_cut_69
        · refine lv_iload_n hx hb dX10_cut_62 rfl (lv_at hl 3 rfl) ?_
          refine lv_iload_n hx hb dX10_cut_63 rfl (lv_at hl 0 rfl) ?_
          refine sx_icmp_le (tgt := 70) hx hb hF dX10_cut_64 (by decide) (fun hF => ?_) (fun hF => ?_)
          · refine lv_iload_n hx hb dX10_cut_70 rfl (lv_at hl 3 rfl) ?_
            refine lv_iload_n hx hb dX10_cut_71 rfl (lv_at hl 0 rfl) ?_
            refine sx_icmp_ne (tgt := 79) hx hb hF dX10_cut_72 (by decide) (fun hF => ?_) (fun hF => ?_)
            · refine lv_aload_n hx hb dX10_cut_79 rfl (lv_at hl 1 rfl) ?_
              refine gx_h_bodies hx hb hts hown hK hP fl_X10_91 dX10_cut_80 ?_
              refine lv_iload_n hx hb dX10_cut_83 rfl (lv_at hl 2 rfl) ?_
              refine lv_iload_n hx hb dX10_cut_84 rfl (lv_at hl 3 rfl) ?_
              obtain ⟨r13, u14, hc15, hF⟩ := q_bnd_some hF
              refine sx_ci (Wd := (ax_W a cI L)) (σ1 := u14) (q_runV (Wd := (ax_W a cI L)) (σ := u11) (q0 := 7) (ci := 0) (T := TX0) (N := 4) (As := [.int o1, .int o2]) (rest := []) hx hb hml hown hts hK hP (kt_X0_shorten hD hc15) cw_X10_183 rfl rfl ⟨Nat.le_of_ble_eq_true rfl, Nat.le_of_ble_eq_true rfl⟩ rfl rfl rfl hl.1 rfl (Nat.le_of_ble_eq_true rfl) dX10_cut_85) hS (fun H locs hP hS => ?_)
              exact sx_reti (Wd := (ax_W a cI L)) (σ := u14) hx hb hr hF hP hS hlocks dX10_cut_88
            · refine lv_iconst (v := 0) hx hb dX10_cut_75 (by decide) ?_
              refine lv_goto (tgt := 88) hx hb dX10_cut_76 (by decide) ?_
              exact sx_reti (Wd := (ax_W a cI L)) (σ := u11) hx hb hr hF hP hS hlocks dX10_cut_88
          · refine lv_bipush (v := (-15)) hx hb dX10_cut_67 (by decide) ?_
            exact sx_reti (Wd := (ax_W a cI L)) (σ := u11) hx hb hr hF hP hS hlocks dX10_cut_69
      · refine lv_bipush (v := (-20)) hx hb dX10_cut_46 (by decide) ?_
        exact sx_reti (Wd := (ax_W a cI L)) (σ := u8) hx hb hr hF hP hS hlocks dX10_cut_48
    · refine lv_bipush (v := (-14)) hx hb dX10_cut_27 (by decide) ?_
      exact sx_reti (Wd := (ax_W a cI L)) (σ := u5) hx hb hr hF hP hS hlocks dX10_cut_29
  · refine lv_bipush (v := (-99)) hx hb dX10_cut_12 (by decide) ?_
    exact sx_reti (Wd := (ax_W a cI L)) (σ := u2) hx hb hr hF hP hS hlocks dX10_cut_14
set_option maxHeartbeats 4000000 in
set_option maxRecDepth 100000 in
theorem kt_X3_nodeAt {N : Nat} {l : Launch} {D : va_G} {a : Nat → Nat} {cI : Nat → ClassId} {L : Nat → Nat} (hD : ∀ σ, va_D (ax_A a) (ax_W a cI L σ)) {o1 : Int32} {o2 : Int32} {u σ0 : q_St} {r0 : Int32} (hF : fX3_nodeAt L N o1 o2 u = some (r0, σ0)) : Met l yX3_nodeAt (Cond.code yX3_nodeAt cX3_nodeAt 3 (some .int) :: q_T) ({ frames := 4, cells := 0, slots := 0, locals := 90 } : Room) (q_P D vwCl (ax_T cI) (ax_W a cI L) [.ref (a 6), .int o1, .int o2] u) (q_Qi D vwCl (ax_W a cI L) (ax_A a) r0 σ0) 0 0 (ax_A a) := by
  refine Met.ofW (cc := cX3_nodeAt) (maxL := 3) (ret := (some .int)) (by decide) rfl ?_
  intro p e s m args below meth c s₁ B hml hv
  obtain ⟨rfl, hP, hK⟩ := hv
  have hx := B.exec
  have hb := B.bytes
  have hr := B.returns
  have hts := q_ts (atoms_spec (ws := Cond.code yX3_nodeAt cX3_nodeAt 3 (some .int) :: q_T) B.pre)
  have hown : s.vm.findClass RX3 = some m.cls := findClass_of_methodNamed B.named
  have hlocks := B.notSynchronized
  have hS : va_S (ax_A a) s.heap s.heap [] := va_S.rf
  have hl := lv_entry ([.ref (a 6), .int o1, .int o2]) (n := 3) (Nat.le_of_ble_eq_true rfl)
  rw [lg_entry_eq]
  generalize (lg_sl ([.ref (a 6), .int o1, .int o2]) ++ List.replicate (3 - (lg_sl ([.ref (a 6), .int o1, .int o2])).length) Slot.unset).toArray = ls at hl ⊢
  have hl : lv_has ls 3 [(0, .ref (a 6)), (1, .int o1), (2, .int o2)] := hl
  unfold fX3_nodeAt at hF
  refine lv_aload_n hx hb dX3_nodeAt_0 rfl (lv_at hl 0 rfl) ?_
  refine gx_folders_store hx hb hts hown hK hP fl_X3_9 dX3_nodeAt_1 ?_
  refine lv_aload_n hx hb dX3_nodeAt_4 rfl (lv_at hl 0 rfl) ?_
  refine lv_iload_n hx hb dX3_nodeAt_5 rfl (lv_at hl 1 rfl) ?_
  refine lv_iload_n hx hb dX3_nodeAt_6 rfl (lv_at hl 2 rfl) ?_
  refine lv_iconst (v := 4) hx hb dX3_nodeAt_7 (by decide) ?_
  refine lv_idiv hx hb dX3_nodeAt_8 (by decide) ?_
  obtain ⟨r1, u2, hc3, hF⟩ := q_bnd_some hF
  refine sx_ci (Wd := (ax_W a cI L)) (σ1 := u2) (q_runV (Wd := (ax_W a cI L)) (σ := u) (q0 := 6) (ci := 3) (T := TX3) (N := 5) (As := [.int o1, .int (o2 / 4)]) (rest := [.ref (a 3)]) hx hb hml hown hts hK hP (kt_X3_blockAt hD hc3) cw_X3_49 rfl rfl ⟨Nat.le_of_ble_eq_true rfl, Nat.le_of_ble_eq_true rfl⟩ rfl rfl rfl hl.1 rfl (Nat.le_of_ble_eq_true rfl) dX3_nodeAt_9) hS (fun H locs hP hS => ?_)
  refine lv_bipush (v := 16) hx hb dX3_nodeAt_12 (by decide) ?_
  refine lv_iload_n hx hb dX3_nodeAt_14 rfl (lv_at hl 2 rfl) ?_
  refine lv_iconst (v := 4) hx hb dX3_nodeAt_15 (by decide) ?_
  refine lv_irem hx hb dX3_nodeAt_16 (by decide) ?_
  refine lv_iadd hx hb dX3_nodeAt_17 ?_
  obtain ⟨r4, u5, hc6, hF⟩ := q_bnd_some hF
  refine sx_ci (Wd := (ax_W a cI L)) (σ1 := u5) (q_runV (Wd := (ax_W a cI L)) (σ := u2) (q0 := 3) (ci := 6) (T := TX6) (N := 9) (As := [.int r1, .int (16 + (o2 - o2 / 4 * 4))]) (rest := []) hx hb hml hown hts hK hP (kt_X6_half hD hc6) cw_X3_43 rfl rfl ⟨Nat.le_of_ble_eq_true rfl, Nat.le_of_ble_eq_true rfl⟩ rfl rfl rfl hl.1 rfl (Nat.le_of_ble_eq_true rfl) dX3_nodeAt_18) hS (fun H locs hP hS => ?_)
  exact sx_reti (Wd := (ax_W a cI L)) (σ := u5) hx hb hr hF hP hS hlocks dX3_nodeAt_21
set_option maxHeartbeats 4000000 in
set_option maxRecDepth 100000 in
theorem kt_X3_takeOut {N : Nat} {l : Launch} {D : va_G} {a : Nat → Nat} {cI : Nat → ClassId} {L : Nat → Nat} (hD : ∀ σ, va_D (ax_A a) (ax_W a cI L σ)) {o1 : Int32} {o2 : Int32} {u σ0 : q_St} {r0 : Unit} (hF : fX3_takeOut L N o1 o2 u = some (r0, σ0)) : Met l yX3_takeOut (Cond.code yX3_takeOut cX3_takeOut 3 none :: q_T) ({ frames := 4, cells := 0, slots := 0, locals := 105 } : Room) (q_P D vwCl (ax_T cI) (ax_W a cI L) [.ref (a 6), .int o1, .int o2] u) (q_Qv D vwCl (ax_W a cI L) (ax_A a) σ0) 0 0 (ax_A a) := by
  refine Met.ofW (cc := cX3_takeOut) (maxL := 3) (ret := none) (by decide) rfl ?_
  intro p e s m args below meth c s₁ B hml hv
  obtain ⟨rfl, hP, hK⟩ := hv
  have hx := B.exec
  have hb := B.bytes
  have hr := B.returns
  have hts := q_ts (atoms_spec (ws := Cond.code yX3_takeOut cX3_takeOut 3 none :: q_T) B.pre)
  have hown : s.vm.findClass RX3 = some m.cls := findClass_of_methodNamed B.named
  have hlocks := B.notSynchronized
  have hS : va_S (ax_A a) s.heap s.heap [] := va_S.rf
  have hl := lv_entry ([.ref (a 6), .int o1, .int o2]) (n := 3) (Nat.le_of_ble_eq_true rfl)
  rw [lg_entry_eq]
  generalize (lg_sl ([.ref (a 6), .int o1, .int o2]) ++ List.replicate (3 - (lg_sl ([.ref (a 6), .int o1, .int o2])).length) Slot.unset).toArray = ls at hl ⊢
  have hl : lv_has ls 3 [(0, .ref (a 6)), (1, .int o1), (2, .int o2)] := hl
  unfold fX3_takeOut at hF
  refine lv_aload_n hx hb dX3_takeOut_0 rfl (lv_at hl 0 rfl) ?_
  refine lv_aload_n hx hb dX3_takeOut_1 rfl (lv_at hl 0 rfl) ?_
  refine lv_iload_n hx hb dX3_takeOut_2 rfl (lv_at hl 1 rfl) ?_
  refine lv_iload_n hx hb dX3_takeOut_3 rfl (lv_at hl 2 rfl) ?_
  refine lv_iconst (v := 4) hx hb dX3_takeOut_4 (by decide) ?_
  refine lv_idiv hx hb dX3_takeOut_5 (by decide) ?_
  obtain ⟨r1, u2, hc3, hF⟩ := q_bnd_some hF
  refine sx_ci (Wd := (ax_W a cI L)) (σ1 := u2) (q_runV (Wd := (ax_W a cI L)) (σ := u) (q0 := 6) (ci := 3) (T := TX3) (N := 5) (As := [.int o1, .int (o2 / 4)]) (rest := [.ref (a 6)]) hx hb hml hown hts hK hP (kt_X3_blockAt hD hc3) cw_X3_49 rfl rfl ⟨Nat.le_of_ble_eq_true rfl, Nat.le_of_ble_eq_true rfl⟩ rfl rfl rfl hl.1 rfl (Nat.le_of_ble_eq_true rfl) dX3_takeOut_6) hS (fun H locs hP hS => ?_)
  refine lv_iload_n hx hb dX3_takeOut_9 rfl (lv_at hl 2 rfl) ?_
  refine lv_iconst (v := 4) hx hb dX3_takeOut_10 (by decide) ?_
  refine lv_irem hx hb dX3_takeOut_11 (by decide) ?_
  refine lv_lconst (v := 0) hx hb dX3_takeOut_12 (by decide) ?_
  refine lv_iconst (v := 0) hx hb dX3_takeOut_13 (by decide) ?_
  obtain ⟨r4, u5, hc6, hF⟩ := q_bnd_some hF
  refine sx_cv (Wd := (ax_W a cI L)) (σ1 := u5) (q_runV (Wd := (ax_W a cI L)) (σ := u2) (q0 := 6) (ci := 3) (T := TX3) (N := 5) (As := [.int r1, .int (o2 - o2 / 4 * 4), .long 0, .int 0]) (rest := []) hx hb hml hown hts hK hP (kt_X3_fillSlot hD hc6) cw_X3_64 rfl rfl ⟨Nat.le_of_ble_eq_true rfl, Nat.le_of_ble_eq_true rfl⟩ rfl rfl rfl hl.1 rfl (Nat.le_of_ble_eq_true rfl) dX3_takeOut_14) hS (fun H locs hP hS => ?_)
  exact sx_retv (Wd := (ax_W a cI L)) (σ := u5) hx hb hr hF hP hS hlocks dX3_takeOut_17
