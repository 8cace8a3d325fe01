set_option maxHeartbeats 4000000 in
set_option maxRecDepth 100000 in
theorem kt_J7_fill_30 {N : Nat} {l : Launch} {D : va_G} {a : Nat → Nat} {cI : Nat → ClassId} {L : Nat → Nat} (hD : ∀ σ, va_D (ax_A a) (ax_W a cI L σ)) {o1 : Int32} {u σ0 : q_St} {r0 : Unit} (hF : fJ7_fill_30 L N o1 u = some (r0, σ0)) : Met l yJ7_fill_53178 (Cond.code yJ7_fill_53178 cJ7_fill_53178 4 none :: q_T) ({ frames := 0, cells := 0, slots := 0, locals := 0 } : Room) (q_P D vwCl (ax_T cI) (ax_W a cI L) [.ref (a 30), .int o1] u) (q_Qv D vwCl (ax_W a cI L) (ax_A a) σ0) 0 0 (ax_A a) := by
  refine Met.ofW (cc := cJ7_fill_53178) (maxL := 4) (ret := none) (by decide) rfl ?_
  intro p e s m args below meth c s₁ B hml hv
  obtain ⟨rfl, hP, hK⟩ := hv
  have hx := B.exec
  have hb := B.bytes
  have hr := B.returns
  have hts := q_ts (atoms_spec (ws := Cond.code yJ7_fill_53178 cJ7_fill_53178 4 none :: q_T) B.pre)
  have hown : s.vm.findClass RJ7 = some m.cls := findClass_of_methodNamed B.named
  have hlocks := B.notSynchronized
  have hS : va_S (ax_A a) s.heap s.heap [] := va_S.rf
  have hl := lv_entry ([.ref (a 30), .int o1]) (n := 4) (Nat.le_of_ble_eq_true rfl)
  rw [lg_entry_eq]
  generalize (lg_sl ([.ref (a 30), .int o1]) ++ List.replicate (4 - (lg_sl ([.ref (a 30), .int o1])).length) Slot.unset).toArray = ls at hl ⊢
  have hl : lv_has ls 4 [(0, .ref (a 30)), (1, .int o1)] := hl
  have hB5 : ∀ (n : Nat) (x1 : Int32) (x2 : Int32) (x3 : Int32) (u : q_St) (ls : Array Slot), lv_has ls 4 [(0, .ref (a 30)), (1, .int x1), (2, .int x2), (3, .int x3)] → q_lp (fJ7_fill_30_b5 L N) (fun _ _ _ _ => none) n x1 x2 x3 u = some (r0, σ0) → ∀ (H : Heap) (locs : List Loc), va_P D vwCl (ax_W a cI L u) H → va_S (ax_A a) s.heap H locs → W p l e (headSpec (Cond.code yJ7_fill_53178 cJ7_fill_53178 4 none :: q_T) ({ frames := 0, cells := 0, slots := 0, locals := 0 } : Room)).room s m ([.ref (a 30), .int o1] : List Value).toArray below meth c H locs 0 0 (MQ below (q_Qv D vwCl (ax_W a cI L) (ax_A a) σ0) ([.ref (a 30), .int o1] : List Value).toArray s 0 0 (ax_A a)) (F0 m 5 ls []) := by
    intro n
    induction n with
    | zero => intro x1 x2 x3 u ls hl hF; exact absurd (show (none : Option (Unit × q_St)) = some _ from hF) (fun h => nomatch h)
    | succ n hi5 =>
      intro x1 x2 x3 u ls hl hF _ _ hP hS
      obtain ⟨ih5, hih⟩ : ∃ q, q = q_lp (fJ7_fill_30_b5 L N) (fun _ _ _ _ => none) n := ⟨_, rfl⟩
      rw [← hih] at hi5
      have hF : fJ7_fill_30_b5 L N (q_lp (fJ7_fill_30_b5 L N) (fun _ _ _ _ => none) n) x1 x2 x3 u = some (r0, σ0) := hF
      rw [← hih] at hF
      clear hih
      unfold fJ7_fill_30_b5 at hF
      refine lv_iload_n hx hb dJ7_fill_53178_5 rfl (lv_at hl 2 rfl) ?_
      refine lv_iload_n hx hb dJ7_fill_53178_6 rfl (lv_at hl 3 rfl) ?_
      refine sx_icmp_ge (tgt := 20) hx hb hF dJ7_fill_53178_7 (by decide) (fun hF => ?_) (fun hF => ?_)
      · exact sx_retv (Wd := (ax_W a cI L)) (σ := u) hx hb hr hF hP hS hlocks dJ7_fill_53178_20
      · refine lv_aload_n hx hb dJ7_fill_53178_10 rfl (lv_at hl 0 rfl) ?_
        refine lv_iload_n hx hb dJ7_fill_53178_11 rfl (lv_at hl 2 rfl) ?_
        refine lv_iload_n hx hb dJ7_fill_53178_12 rfl (lv_at hl 1 rfl) ?_
        refine ux_checker_slotsOf hx hb hK hP hD hS hF dJ7_fill_53178_13 (fun u2 H locs hF hP hS => ?_)
        refine sx_iinc (d := 1) (k := 2) (lv2 := [(0, .ref (a 30)), (1, .int x1), (3, .int x3)]) hx hb hF dJ7_fill_53178_14 hl rfl (by decide) (by decide) rfl (fun v3 hF ls hl => ?_)
        refine lv_goto (tgt := 5) hx hb dJ7_fill_53178_17 (by decide) ?_
        exact hi5 x1 v3 x3 u2 ls (lv_sub hl [1, 2, 0, 3] rfl) hF _ _ hP hS
  unfold fJ7_fill_30 at hF
  refine lv_iconst (v := 0) hx hb dJ7_fill_53178_0 (by decide) ?_
  refine lv_istore_n (lv' := [(2, .int 0), (0, .ref (a 30)), (1, .int o1)]) hx hb dJ7_fill_53178_1 rfl hl (by decide) rfl (fun ls hl => ?_)
  refine lv_aload_n hx hb dJ7_fill_53178_2 rfl (lv_at hl 1 rfl) ?_
  refine nx_checker_slotsOf hx hb hK hP dJ7_fill_53178_3 ?_
  refine sx_istore_n (lv2 := [(2, .int 0), (0, .ref (a 30)), (1, .int o1)]) hx hb hF dJ7_fill_53178_4 rfl hl (by decide) rfl (fun v1 hF ls hl => ?_)
  exact hB5 N o1 0 v1 u ls (lv_sub hl [2, 3, 1, 0] rfl) hF _ _ hP hS
set_option maxHeartbeats 4000000 in
set_option maxRecDepth 100000 in
theorem kt_J7_fill_31 {N : Nat} {l : Launch} {D : va_G} {a : Nat → Nat} {cI : Nat → ClassId} {L : Nat → Nat} (hD : ∀ σ, va_D (ax_A a) (ax_W a cI L σ)) {o1 : Int32} {u σ0 : q_St} {r0 : Unit} (hF : fJ7_fill_31 L N o1 u = some (r0, σ0)) : Met l yJ7_fill_53178 (Cond.code yJ7_fill_53178 cJ7_fill_53178 4 none :: q_T) ({ frames := 0, cells := 0, slots := 0, locals := 0 } : Room) (q_P D vwCl (ax_T cI) (ax_W a cI L) [.ref (a 31), .int o1] u) (q_Qv D vwCl (ax_W a cI L) (ax_A a) σ0) 0 0 (ax_A a) := by
  refine Met.ofW (cc := cJ7_fill_53178) (maxL := 4) (ret := none) (by decide) rfl ?_
  intro p e s m args below meth c s₁ B hml hv
  obtain ⟨rfl, hP, hK⟩ := hv
  have hx := B.exec
  have hb := B.bytes
  have hr := B.returns
  have hts := q_ts (atoms_spec (ws := Cond.code yJ7_fill_53178 cJ7_fill_53178 4 none :: q_T) B.pre)
  have hown : s.vm.findClass RJ7 = some m.cls := findClass_of_methodNamed B.named
  have hlocks := B.notSynchronized
  have hS : va_S (ax_A a) s.heap s.heap [] := va_S.rf
  have hl := lv_entry ([.ref (a 31), .int o1]) (n := 4) (Nat.le_of_ble_eq_true rfl)
  rw [lg_entry_eq]
  generalize (lg_sl ([.ref (a 31), .int o1]) ++ List.replicate (4 - (lg_sl ([.ref (a 31), .int o1])).length) Slot.unset).toArray = ls at hl ⊢
  have hl : lv_has ls 4 [(0, .ref (a 31)), (1, .int o1)] := hl
  have hB5 : ∀ (n : Nat) (x1 : Int32) (x2 : Int32) (x3 : Int32) (u : q_St) (ls : Array Slot), lv_has ls 4 [(0, .ref (a 31)), (1, .int x1), (2, .int x2), (3, .int x3)] → q_lp (fJ7_fill_31_b5 L N) (fun _ _ _ _ => none) n x1 x2 x3 u = some (r0, σ0) → ∀ (H : Heap) (locs : List Loc), va_P D vwCl (ax_W a cI L u) H → va_S (ax_A a) s.heap H locs → W p l e (headSpec (Cond.code yJ7_fill_53178 cJ7_fill_53178 4 none :: q_T) ({ frames := 0, cells := 0, slots := 0, locals := 0 } : Room)).room s m ([.ref (a 31), .int o1] : List Value).toArray below meth c H locs 0 0 (MQ below (q_Qv D vwCl (ax_W a cI L) (ax_A a) σ0) ([.ref (a 31), .int o1] : List Value).toArray s 0 0 (ax_A a)) (F0 m 5 ls []) := by
    intro n
    induction n with
    | zero => intro x1 x2 x3 u ls hl hF; exact absurd (show (none : Option (Unit × q_St)) = some _ from hF) (fun h => nomatch h)
    | succ n hi5 =>
      intro x1 x2 x3 u ls hl hF _ _ hP hS
      obtain ⟨ih5, hih⟩ : ∃ q, q = q_lp (fJ7_fill_31_b5 L N) (fun _ _ _ _ => none) n := ⟨_, rfl⟩
      rw [← hih] at hi5
      have hF : fJ7_fill_31_b5 L N (q_lp (fJ7_fill_31_b5 L N) (fun _ _ _ _ => none) n) x1 x2 x3 u = some (r0, σ0) := hF
      rw [← hih] at hF
      clear hih
      unfold fJ7_fill_31_b5 at hF
      refine lv_iload_n hx hb dJ7_fill_53178_5 rfl (lv_at hl 2 rfl) ?_
      refine lv_iload_n hx hb dJ7_fill_53178_6 rfl (lv_at hl 3 rfl) ?_
      refine sx_icmp_ge (tgt := 20) hx hb hF dJ7_fill_53178_7 (by decide) (fun hF => ?_) (fun hF => ?_)
      · exact sx_retv (Wd := (ax_W a cI L)) (σ := u) hx hb hr hF hP hS hlocks dJ7_fill_53178_20
      · refine lv_aload_n hx hb dJ7_fill_53178_10 rfl (lv_at hl 0 rfl) ?_
        refine lv_iload_n hx hb dJ7_fill_53178_11 rfl (lv_at hl 2 rfl) ?_
        refine lv_iload_n hx hb dJ7_fill_53178_12 rfl (lv_at hl 1 rfl) ?_
        refine ux_checker_foundIn hx hb hK hP hD hS hF dJ7_fill_53178_13 (fun u2 H locs hF hP hS => ?_)
        refine sx_iinc (d := 1) (k := 2) (lv2 := [(0, .ref (a 31)), (1, .int x1), (3, .int x3)]) hx hb hF dJ7_fill_53178_14 hl rfl (by decide) (by decide) rfl (fun v3 hF ls hl => ?_)
        refine lv_goto (tgt := 5) hx hb dJ7_fill_53178_17 (by decide) ?_
        exact hi5 x1 v3 x3 u2 ls (lv_sub hl [1, 2, 0, 3] rfl) hF _ _ hP hS
  unfold fJ7_fill_31 at hF
  refine lv_iconst (v := 0) hx hb dJ7_fill_53178_0 (by decide) ?_
  refine lv_istore_n (lv' := [(2, .int 0), (0, .ref (a 31)), (1, .int o1)]) hx hb dJ7_fill_53178_1 rfl hl (by decide) rfl (fun ls hl => ?_)
  refine lv_aload_n hx hb dJ7_fill_53178_2 rfl (lv_at hl 1 rfl) ?_
  refine nx_checker_foundIn hx hb hK hP dJ7_fill_53178_3 ?_
  refine sx_istore_n (lv2 := [(2, .int 0), (0, .ref (a 31)), (1, .int o1)]) hx hb hF dJ7_fill_53178_4 rfl hl (by decide) rfl (fun v1 hF ls hl => ?_)
  exact hB5 N o1 0 v1 u ls (lv_sub hl [2, 3, 1, 0] rfl) hF _ _ hP hS
set_option maxHeartbeats 4000000 in
set_option maxRecDepth 100000 in
theorem kt_X1_expect {N : Nat} {l : Launch} {D : va_G} {a : Nat → Nat} {cI : Nat → ClassId} {L : Nat → Nat} (hD : ∀ σ, va_D (ax_A a) (ax_W a cI L σ)) {o1 : Int32} {u σ0 : q_St} {r0 : Unit} (hF : fX1_expect L N o1 u = some (r0, σ0)) : Met l yX1_expect (Cond.code yX1_expect cX1_expect 2 none :: q_T) ({ frames := 0, cells := 0, slots := 0, locals := 0 } : Room) (q_P D vwCl (ax_T cI) (ax_W a cI L) [.ref (a 11), .int o1] u) (q_Qv D vwCl (ax_W a cI L) (ax_A a) σ0) 0 0 (ax_A a) := by
  refine Met.ofW (cc := cX1_expect) (maxL := 2) (ret := none) (by decide) rfl ?_
  intro p e s m args below meth c s₁ B hml hv
  obtain ⟨rfl, hP, hK⟩ := hv
  have hx := B.exec
  have hb := B.bytes
  have hr := B.returns
  have hts := q_ts (atoms_spec (ws := Cond.code yX1_expect cX1_expect 2 none :: q_T) B.pre)
  have hown : s.vm.findClass RX1 = some m.cls := findClass_of_methodNamed B.named
  have hlocks := B.notSynchronized
  have hS : va_S (ax_A a) s.heap s.heap [] := va_S.rf
  have hl := lv_entry ([.ref (a 11), .int o1]) (n := 2) (Nat.le_of_ble_eq_true rfl)
  rw [lg_entry_eq]
  generalize (lg_sl ([.ref (a 11), .int o1]) ++ List.replicate (2 - (lg_sl ([.ref (a 11), .int o1])).length) Slot.unset).toArray = ls at hl ⊢
  have hl : lv_has ls 2 [(0, .ref (a 11)), (1, .int o1)] := hl
  unfold fX1_expect at hF
  refine lv_iload_n hx hb dX1_expect_0 rfl (lv_at hl 1 rfl) ?_
  refine sx_if_ne (tgt := 14) hx hb hF dX1_expect_1 (by decide) (fun hF => ?_) (fun hF => ?_)
  · exact sx_retv (Wd := (ax_W a cI L)) (σ := u) hx hb hr hF hP hS hlocks dX1_expect_14
  · refine lv_aload_n hx hb dX1_expect_4 rfl (lv_at hl 0 rfl) ?_
    refine lv_dup hx hb dX1_expect_5 rfl ?_
    refine gx_checker_wrong hx hb hts hown hK hP fl_X1_43 dX1_expect_6 ?_
    refine lv_iconst (v := 1) hx hb dX1_expect_9 (by decide) ?_
    refine lv_iadd hx hb dX1_expect_10 ?_
    refine px_checker_wrong hx hb hts hown hK hP fl_X1_43 hD hS hF dX1_expect_11 (fun u1 H locs hF hP hS => ?_)
    exact sx_retv (Wd := (ax_W a cI L)) (σ := u1) hx hb hr hF hP hS hlocks dX1_expect_14
set_option maxHeartbeats 4000000 in
set_option maxRecDepth 100000 in
theorem kt_X1_isHeldRight {N : Nat} {l : Launch} {D : va_G} {a : Nat → Nat} {cI : Nat → ClassId} {L : Nat → Nat} (hD : ∀ σ, va_D (ax_A a) (ax_W a cI L σ)) {o1 : Int32} {u σ0 : q_St} {r0 : Int32} (hF : fX1_isHeldRight L N o1 u = some (r0, σ0)) : Met l yX1_isHeldRight (Cond.code yX1_isHeldRight cX1_isHeldRight 2 (some .boolean) :: q_T) ({ frames := 5, cells := 0, slots := 0, locals := 113 } : Room) (q_P D vwCl (ax_T cI) (ax_W a cI L) [.ref (a 11), .int o1] u) (q_Qi D vwCl (ax_W a cI L) (ax_A a) r0 σ0) 0 0 (ax_A a) := by
  refine Met.ofW (cc := cX1_isHeldRight) (maxL := 2) (ret := (some .boolean)) (by decide) rfl ?_
  intro p e s m args below meth c s₁ B hml hv
  obtain ⟨rfl, hP, hK⟩ := hv
  have hx := B.exec
  have hb := B.bytes
  have hr := B.returns
  have hts := q_ts (atoms_spec (ws := Cond.code yX1_isHeldRight cX1_isHeldRight 2 (some .boolean) :: q_T) B.pre)
  have hown : s.vm.findClass RX1 = some m.cls := findClass_of_methodNamed B.named
  have hlocks := B.notSynchronized
  have hS : va_S (ax_A a) s.heap s.heap [] := va_S.rf
  have hl := lv_entry ([.ref (a 11), .int o1]) (n := 2) (Nat.le_of_ble_eq_true rfl)
  rw [lg_entry_eq]
  generalize (lg_sl ([.ref (a 11), .int o1]) ++ List.replicate (2 - (lg_sl ([.ref (a 11), .int o1])).length) Slot.unset).toArray = ls at hl ⊢
  have hl : lv_has ls 2 [(0, .ref (a 11)), (1, .int o1)] := hl
  unfold fX1_isHeldRight at hF
  refine lv_iload_n hx hb dX1_isHeldRight_0 rfl (lv_at hl 1 rfl) ?_
  refine sx_if_lt (tgt := 22) hx hb hF dX1_isHeldRight_1 (by decide) (fun hF => ?_) (fun hF => ?_)
  · refine lv_iconst (v := 0) hx hb dX1_isHeldRight_22 (by decide) ?_
    exact sx_retz (Wd := (ax_W a cI L)) (σ := u) hx hb hr (by decide) hF hP hS hlocks dX1_isHeldRight_23
  · refine lv_iload_n hx hb dX1_isHeldRight_4 rfl (lv_at hl 1 rfl) ?_
    refine lv_aload_n hx hb dX1_isHeldRight_5 rfl (lv_at hl 0 rfl) ?_
    refine gx_checker_slotsOf hx hb hts hown hK hP fl_X1_37 dX1_isHeldRight_6 ?_
    refine nx_checker_slotsOf hx hb hK hP dX1_isHeldRight_9 ?_
    refine sx_icmp_ge (tgt := 22) hx hb hF dX1_isHeldRight_10 (by decide) (fun hF => ?_) (fun hF => ?_)
    · refine lv_iconst (v := 0) hx hb dX1_isHeldRight_22 (by decide) ?_
      exact sx_retz (Wd := (ax_W a cI L)) (σ := u) hx hb hr (by decide) hF hP hS hlocks dX1_isHeldRight_23
    · refine lv_iload_n hx hb dX1_isHeldRight_13 rfl (lv_at hl 1 rfl) ?_
      refine lv_aload_n hx hb dX1_isHeldRight_14 rfl (lv_at hl 0 rfl) ?_
      refine gx_checker_foundIn hx hb hts hown hK hP fl_X1_40 dX1_isHeldRight_15 ?_
      refine nx_checker_foundIn hx hb hK hP dX1_isHeldRight_18 ?_
      refine sx_icmp_lt (tgt := 24) hx hb hF dX1_isHeldRight_19 (by decide) (fun hF => ?_) (fun hF => ?_)
      · refine lv_aload_n hx hb dX1_isHeldRight_24 rfl (lv_at hl 0 rfl) ?_
        refine gx_checker_nodes hx hb hts hown hK hP fl_X1_23 dX1_isHeldRight_25 ?_
        refine lv_iload_n hx hb dX1_isHeldRight_28 rfl (lv_at hl 1 rfl) ?_
        obtain ⟨r1, u2, hc3, hF⟩ := q_bnd_some hF
        refine sx_ci (Wd := (ax_W a cI L)) (σ1 := u2) (q_runV (Wd := (ax_W a cI L)) (σ := u) (q0 := 5) (ci := 4) (T := TX4) (N := 2) (As := [.int o1]) (rest := []) hx hb hml hown hts hK hP (kt_X4_kindOf hD hc3) cw_X1_52 rfl rfl ⟨Nat.le_of_ble_eq_true rfl, Nat.le_of_ble_eq_true rfl⟩ rfl rfl rfl hl.1 rfl (Nat.le_of_ble_eq_true rfl) dX1_isHeldRight_29) hS (fun H locs hP hS => ?_)
        by_cases hq0 : r1 = 0
        · have hF := (if_pos hq0).symm.trans hF
          refine sx_tabIn hx hb 0 hq0 (off := 36) (tgt := 68) dX1_isHeldRight_32 (by decide) (by decide) (by decide) (by decide) ?_
          refine lv_aload_n hx hb dX1_isHeldRight_68 rfl (lv_at hl 0 rfl) ?_
          refine gx_checker_slotsOf hx hb hts hown hK hP fl_X1_37 dX1_isHeldRight_69 ?_
          refine lv_iload_n hx hb dX1_isHeldRight_72 rfl (lv_at hl 1 rfl) ?_
          refine lx_checker_slotsOf hx hb hK hP hF dX1_isHeldRight_73 (fun v4 hF => ?_)
          refine sx_if_ne (tgt := 81) hx hb hF dX1_isHeldRight_74 (by decide) (fun hF => ?_) (fun hF => ?_)
          · refine lv_iconst (v := 0) hx hb dX1_isHeldRight_81 (by decide) ?_
            exact sx_retz (Wd := (ax_W a cI L)) (σ := u2) hx hb hr (by decide) hF hP hS hlocks dX1_isHeldRight_82
          · refine lv_iconst (v := 1) hx hb dX1_isHeldRight_77 (by decide) ?_
            refine lv_goto (tgt := 82) hx hb dX1_isHeldRight_78 (by decide) ?_
            exact sx_retz (Wd := (ax_W a cI L)) (σ := u2) hx hb hr (by decide) hF hP hS hlocks dX1_isHeldRight_82
        have hF := (if_neg hq0).symm.trans hF
        by_cases hq2 : r1 = 2
        · have hF := (if_pos hq2).symm.trans hF
          refine sx_tabIn hx hb 2 hq2 (off := 51) (tgt := 83) dX1_isHeldRight_32 (by decide) (by decide) (by decide) (by decide) ?_
          refine lv_iload_n hx hb dX1_isHeldRight_83 rfl (lv_at hl 1 rfl) ?_
          refine sx_if_ne (tgt := 113) hx hb hF dX1_isHeldRight_84 (by decide) (fun hF => ?_) (fun hF => ?_)
          · refine lv_aload_n hx hb dX1_isHeldRight_113 rfl (lv_at hl 0 rfl) ?_
            refine gx_checker_slotsOf hx hb hts hown hK hP fl_X1_37 dX1_isHeldRight_114 ?_
            refine lv_iload_n hx hb dX1_isHeldRight_117 rfl (lv_at hl 1 rfl) ?_
            refine lx_checker_slotsOf hx hb hK hP hF dX1_isHeldRight_118 (fun v5 hF => ?_)
            refine lv_iconst (v := 1) hx hb dX1_isHeldRight_119 (by decide) ?_
            refine sx_icmp_ne (tgt := 156) hx hb hF dX1_isHeldRight_120 (by decide) (fun hF => ?_) (fun hF => ?_)
            · refine lv_iconst (v := 0) hx hb dX1_isHeldRight_156 (by decide) ?_
              exact sx_retz (Wd := (ax_W a cI L)) (σ := u2) hx hb hr (by decide) hF hP hS hlocks dX1_isHeldRight_157
            · refine lv_aload_n hx hb dX1_isHeldRight_123 rfl (lv_at hl 0 rfl) ?_
              refine gx_checker_nodes hx hb hts hown hK hP fl_X1_23 dX1_isHeldRight_124 ?_
              refine lv_iload_n hx hb dX1_isHeldRight_127 rfl (lv_at hl 1 rfl) ?_
              obtain ⟨r6, u7, hc8, hF⟩ := q_bnd_some hF
              refine sx_ci (Wd := (ax_W a cI L)) (σ1 := u7) (q_runV (Wd := (ax_W a cI L)) (σ := u2) (q0 := 5) (ci := 4) (T := TX4) (N := 2) (As := [.int o1]) (rest := []) hx hb hml hown hts hK hP (kt_X4_holderOf hD hc8) cw_X1_109 rfl rfl ⟨Nat.le_of_ble_eq_true rfl, Nat.le_of_ble_eq_true rfl⟩ rfl rfl rfl hl.1 rfl (Nat.le_of_ble_eq_true rfl) dX1_isHeldRight_128) hS (fun H locs hP hS => ?_)
              refine lv_aload_n hx hb dX1_isHeldRight_131 rfl (lv_at hl 0 rfl) ?_
              refine gx_checker_foundIn hx hb hts hown hK hP fl_X1_40 dX1_isHeldRight_132 ?_
              refine lv_iload_n hx hb dX1_isHeldRight_135 rfl (lv_at hl 1 rfl) ?_
              refine lx_checker_foundIn hx hb hK hP hF dX1_isHeldRight_136 (fun v9 hF => ?_)
              refine sx_icmp_ne (tgt := 156) hx hb hF dX1_isHeldRight_137 (by decide) (fun hF => ?_) (fun hF => ?_)
              · refine lv_iconst (v := 0) hx hb dX1_isHeldRight_156 (by decide) ?_
                exact sx_retz (Wd := (ax_W a cI L)) (σ := u7) hx hb hr (by decide) hF hP hS hlocks dX1_isHeldRight_157
              · refine lv_aload_n hx hb dX1_isHeldRight_140 rfl (lv_at hl 0 rfl) ?_
                refine gx_checker_nodes hx hb hts hown hK hP fl_X1_23 dX1_isHeldRight_141 ?_
                refine lv_iload_n hx hb dX1_isHeldRight_144 rfl (lv_at hl 1 rfl) ?_
                refine lv_iconst (v := 0) hx hb dX1_isHeldRight_145 (by decide) ?_
                obtain ⟨r10, u11, hc12, hF⟩ := q_bnd_some hF
                refine sx_ci (Wd := (ax_W a cI L)) (σ1 := u11) (q_runV (Wd := (ax_W a cI L)) (σ := u7) (q0 := 5) (ci := 4) (T := TX4) (N := 2) (As := [.int o1, .int 0]) (rest := []) hx hb hml hown hts hK hP (kt_X4_isWithin hD hc12) cw_X1_124 rfl rfl ⟨Nat.le_of_ble_eq_true rfl, Nat.le_of_ble_eq_true rfl⟩ rfl rfl rfl hl.1 rfl (Nat.le_of_ble_eq_true rfl) dX1_isHeldRight_146) hS (fun H locs hP hS => ?_)
                refine sx_if_eq (tgt := 156) hx hb hF dX1_isHeldRight_149 (by decide) (fun hF => ?_) (fun hF => ?_)
                · refine lv_iconst (v := 0) hx hb dX1_isHeldRight_156 (by decide) ?_
                  exact sx_retz (Wd := (ax_W a cI L)) (σ := u11) hx hb hr (by decide) hF hP hS hlocks dX1_isHeldRight_157
                · refine lv_iconst (v := 1) hx hb dX1_isHeldRight_152 (by decide) ?_
                  refine lv_goto (tgt := 157) hx hb dX1_isHeldRight_153 (by decide) ?_
                  exact sx_retz (Wd := (ax_W a cI L)) (σ := u11) hx hb hr (by decide) hF hP hS hlocks dX1_isHeldRight_157
          · refine lv_aload_n hx hb dX1_isHeldRight_87 rfl (lv_at hl 0 rfl) ?_
            refine gx_checker_slotsOf hx hb hts hown hK hP fl_X1_37 dX1_isHeldRight_88 ?_
            refine lv_iload_n hx hb dX1_isHeldRight_91 rfl (lv_at hl 1 rfl) ?_
            refine lx_checker_slotsOf hx hb hK hP hF dX1_isHeldRight_92 (fun v13 hF => ?_)
            refine sx_if_ne (tgt := 111) hx hb hF dX1_isHeldRight_93 (by decide) (fun hF => ?_) (fun hF => ?_)
            · refine lv_iconst (v := 0) hx hb dX1_isHeldRight_111 (by decide) ?_
              exact sx_retz (Wd := (ax_W a cI L)) (σ := u2) hx hb hr (by decide) hF hP hS hlocks dX1_isHeldRight_112
            · refine lv_aload_n hx hb dX1_isHeldRight_96 rfl (lv_at hl 0 rfl) ?_
              refine gx_checker_nodes hx hb hts hown hK hP fl_X1_23 dX1_isHeldRight_97 ?_
              refine lv_iload_n hx hb dX1_isHeldRight_100 rfl (lv_at hl 1 rfl) ?_
              obtain ⟨r14, u15, hc16, hF⟩ := q_bnd_some hF
              refine sx_ci (Wd := (ax_W a cI L)) (σ1 := u15) (q_runV (Wd := (ax_W a cI L)) (σ := u2) (q0 := 5) (ci := 4) (T := TX4) (N := 2) (As := [.int o1]) (rest := []) hx hb hml hown hts hK hP (kt_X4_holderOf hD hc16) cw_X1_109 rfl rfl ⟨Nat.le_of_ble_eq_true rfl, Nat.le_of_ble_eq_true rfl⟩ rfl rfl rfl hl.1 rfl (Nat.le_of_ble_eq_true rfl) dX1_isHeldRight_101) hS (fun H locs hP hS => ?_)
              refine sx_if_ne (tgt := 111) hx hb hF dX1_isHeldRight_104 (by decide) (fun hF => ?_) (fun hF => ?_)
              · refine lv_iconst (v := 0) hx hb dX1_isHeldRight_111 (by decide) ?_
                exact sx_retz (Wd := (ax_W a cI L)) (σ := u15) hx hb hr (by decide) hF hP hS hlocks dX1_isHeldRight_112
              · refine lv_iconst (v := 1) hx hb dX1_isHeldRight_107 (by decide) ?_
                refine lv_goto (tgt := 112) hx hb dX1_isHeldRight_108 (by decide) ?_
                exact sx_retz (Wd := (ax_W a cI L)) (σ := u15) hx hb hr (by decide) hF hP hS hlocks dX1_isHeldRight_112
        have hF := (if_neg hq2).symm.trans hF
        by_cases hq4 : r1 = 4
        · have hF := (if_pos hq4).symm.trans hF
          refine sx_tabIn hx hb 4 hq4 (off := 126) (tgt := 158) dX1_isHeldRight_32 (by decide) (by decide) (by decide) (by decide) ?_
          refine lv_aload_n hx hb dX1_isHeldRight_158 rfl (lv_at hl 0 rfl) ?_
          refine gx_checker_slotsOf hx hb hts hown hK hP fl_X1_37 dX1_isHeldRight_159 ?_
          refine lv_iload_n hx hb dX1_isHeldRight_162 rfl (lv_at hl 1 rfl) ?_
          refine lx_checker_slotsOf hx hb hK hP hF dX1_isHeldRight_163 (fun v17 hF => ?_)
          refine lv_iconst (v := 1) hx hb dX1_isHeldRight_164 (by decide) ?_
          refine sx_icmp_ne (tgt := 172) hx hb hF dX1_isHeldRight_165 (by decide) (fun hF => ?_) (fun hF => ?_)
          · refine lv_iconst (v := 0) hx hb dX1_isHeldRight_172 (by decide) ?_
            exact sx_retz (Wd := (ax_W a cI L)) (σ := u2) hx hb hr (by decide) hF hP hS hlocks dX1_isHeldRight_173
          · refine lv_iconst (v := 1) hx hb dX1_isHeldRight_168 (by decide) ?_
            refine lv_goto (tgt := 173) hx hb dX1_isHeldRight_169 (by decide) ?_
            exact sx_retz (Wd := (ax_W a cI L)) (σ := u2) hx hb hr (by decide) hF hP hS hlocks dX1_isHeldRight_173
        have hF := (if_neg hq4).symm.trans hF
        by_cases hr1 : Int32.toInt r1 < 0 ∨ 4 < Int32.toInt r1
        · refine lv_tableOut (tgt := 174) hx hb dX1_isHeldRight_32 hr1 (by decide) ?_
          refine lv_aload_n hx hb dX1_isHeldRight_174 rfl (lv_at hl 0 rfl) ?_
          refine gx_checker_slotsOf hx hb hts hown hK hP fl_X1_37 dX1_isHeldRight_175 ?_
          refine lv_iload_n hx hb dX1_isHeldRight_178 rfl (lv_at hl 1 rfl) ?_
          refine lx_checker_slotsOf hx hb hK hP hF dX1_isHeldRight_179 (fun v18 hF => ?_)
          refine sx_if_le (tgt := 204) hx hb hF dX1_isHeldRight_180 (by decide) (fun hF => ?_) (fun hF => ?_)
          · refine lv_iconst (v := 0) hx hb dX1_isHeldRight_204 (by decide) ?_
            exact sx_retz (Wd := (ax_W a cI L)) (σ := u2) hx hb hr (by decide) hF hP hS hlocks dX1_isHeldRight_205
          · refine lv_aload_n hx hb dX1_isHeldRight_183 rfl (lv_at hl 0 rfl) ?_
            refine gx_checker_slotsOf hx hb hts hown hK hP fl_X1_37 dX1_isHeldRight_184 ?_
            refine lv_iload_n hx hb dX1_isHeldRight_187 rfl (lv_at hl 1 rfl) ?_
            refine lx_checker_slotsOf hx hb hK hP hF dX1_isHeldRight_188 (fun v19 hF => ?_)
            refine lv_aload_n hx hb dX1_isHeldRight_189 rfl (lv_at hl 0 rfl) ?_
            refine gx_checker_nodes hx hb hts hown hK hP fl_X1_23 dX1_isHeldRight_190 ?_
            refine lv_iload_n hx hb dX1_isHeldRight_193 rfl (lv_at hl 1 rfl) ?_
            obtain ⟨r20, u21, hc22, hF⟩ := q_bnd_some hF
            refine sx_ci (Wd := (ax_W a cI L)) (σ1 := u21) (q_runV (Wd := (ax_W a cI L)) (σ := u2) (q0 := 5) (ci := 4) (T := TX4) (N := 2) (As := [.int o1]) (rest := [.int v19]) hx hb hml hown hts hK hP (kt_X4_linksOf hD hc22) cw_X1_128 rfl rfl ⟨Nat.le_of_ble_eq_true rfl, Nat.le_of_ble_eq_true rfl⟩ rfl rfl rfl hl.1 rfl (Nat.le_of_ble_eq_true rfl) dX1_isHeldRight_194) hS (fun H locs hP hS => ?_)
            refine sx_icmp_ne (tgt := 204) hx hb hF dX1_isHeldRight_197 (by decide) (fun hF => ?_) (fun hF => ?_)
            · refine lv_iconst (v := 0) hx hb dX1_isHeldRight_204 (by decide) ?_
              exact sx_retz (Wd := (ax_W a cI L)) (σ := u21) hx hb hr (by decide) hF hP hS hlocks dX1_isHeldRight_205
            · refine lv_iconst (v := 1) hx hb dX1_isHeldRight_200 (by decide) ?_
              refine lv_goto (tgt := 205) hx hb dX1_isHeldRight_201 (by decide) ?_
              exact sx_retz (Wd := (ax_W a cI L)) (σ := u21) hx hb hr (by decide) hF hP hS hlocks dX1_isHeldRight_205
        · have hr2 : Int32.toInt r1 = 0 ∨ Int32.toInt r1 = 1 ∨ Int32.toInt r1 = 2 ∨ Int32.toInt r1 = 3 ∨ Int32.toInt r1 = 4 := by omega
          rcases hr2 with hr2 | hr2 | hr2 | hr2 | hr2
          · exact absurd (Int32.toInt_inj.mp (hr2.trans (by decide : (0 : Int) = Int32.toInt 0))) hq0
          · refine sx_tabIn hx hb 1 (Int32.toInt_inj.mp (hr2.trans (by decide : (1 : Int) = Int32.toInt 1))) (off := 142) (tgt := 174) dX1_isHeldRight_32 (by decide) (by decide) (by decide) (by decide) ?_
            refine lv_aload_n hx hb dX1_isHeldRight_174 rfl (lv_at hl 0 rfl) ?_
            refine gx_checker_slotsOf hx hb hts hown hK hP fl_X1_37 dX1_isHeldRight_175 ?_
            refine lv_iload_n hx hb dX1_isHeldRight_178 rfl (lv_at hl 1 rfl) ?_
            refine lx_checker_slotsOf hx hb hK hP hF dX1_isHeldRight_179 (fun v18 hF => ?_)
            refine sx_if_le (tgt := 204) hx hb hF dX1_isHeldRight_180 (by decide) (fun hF => ?_) (fun hF => ?_)
            · refine lv_iconst (v := 0) hx hb dX1_isHeldRight_204 (by decide) ?_
              exact sx_retz (Wd := (ax_W a cI L)) (σ := u2) hx hb hr (by decide) hF hP hS hlocks dX1_isHeldRight_205
            · refine lv_aload_n hx hb dX1_isHeldRight_183 rfl (lv_at hl 0 rfl) ?_
              refine gx_checker_slotsOf hx hb hts hown hK hP fl_X1_37 dX1_isHeldRight_184 ?_
              refine lv_iload_n hx hb dX1_isHeldRight_187 rfl (lv_at hl 1 rfl) ?_
              refine lx_checker_slotsOf hx hb hK hP hF dX1_isHeldRight_188 (fun v19 hF => ?_)
              refine lv_aload_n hx hb dX1_isHeldRight_189 rfl (lv_at hl 0 rfl) ?_
              refine gx_checker_nodes hx hb hts hown hK hP fl_X1_23 dX1_isHeldRight_190 ?_
              refine lv_iload_n hx hb dX1_isHeldRight_193 rfl (lv_at hl 1 rfl) ?_
              obtain ⟨r20, u21, hc22, hF⟩ := q_bnd_some hF
              refine sx_ci (Wd := (ax_W a cI L)) (σ1 := u21) (q_runV (Wd := (ax_W a cI L)) (σ := u2) (q0 := 5) (ci := 4) (T := TX4) (N := 2) (As := [.int o1]) (rest := [.int v19]) hx hb hml hown hts hK hP (kt_X4_linksOf hD hc22) cw_X1_128 rfl rfl ⟨Nat.le_of_ble_eq_true rfl, Nat.le_of_ble_eq_true rfl⟩ rfl rfl rfl hl.1 rfl (Nat.le_of_ble_eq_true rfl) dX1_isHeldRight_194) hS (fun H locs hP hS => ?_)
              refine sx_icmp_ne (tgt := 204) hx hb hF dX1_isHeldRight_197 (by decide) (fun hF => ?_) (fun hF => ?_)
              · refine lv_iconst (v := 0) hx hb dX1_isHeldRight_204 (by decide) ?_
                exact sx_retz (Wd := (ax_W a cI L)) (σ := u21) hx hb hr (by decide) hF hP hS hlocks dX1_isHeldRight_205
              · refine lv_iconst (v := 1) hx hb dX1_isHeldRight_200 (by decide) ?_
                refine lv_goto (tgt := 205) hx hb dX1_isHeldRight_201 (by decide) ?_
                exact sx_retz (Wd := (ax_W a cI L)) (σ := u21) hx hb hr (by decide) hF hP hS hlocks dX1_isHeldRight_205
          · exact absurd (Int32.toInt_inj.mp (hr2.trans (by decide : (2 : Int) = Int32.toInt 2))) hq2
          · refine sx_tabIn hx hb 3 (Int32.toInt_inj.mp (hr2.trans (by decide : (3 : Int) = Int32.toInt 3))) (off := 142) (tgt := 174) dX1_isHeldRight_32 (by decide) (by decide) (by decide) (by decide) ?_
            refine lv_aload_n hx hb dX1_isHeldRight_174 rfl (lv_at hl 0 rfl) ?_
            refine gx_checker_slotsOf hx hb hts hown hK hP fl_X1_37 dX1_isHeldRight_175 ?_
            refine lv_iload_n hx hb dX1_isHeldRight_178 rfl (lv_at hl 1 rfl) ?_
            refine lx_checker_slotsOf hx hb hK hP hF dX1_isHeldRight_179 (fun v18 hF => ?_)
            refine sx_if_le (tgt := 204) hx hb hF dX1_isHeldRight_180 (by decide) (fun hF => ?_) (fun hF => ?_)
            · refine lv_iconst (v := 0) hx hb dX1_isHeldRight_204 (by decide) ?_
              exact sx_retz (Wd := (ax_W a cI L)) (σ := u2) hx hb hr (by decide) hF hP hS hlocks dX1_isHeldRight_205
            · refine lv_aload_n hx hb dX1_isHeldRight_183 rfl (lv_at hl 0 rfl) ?_
              refine gx_checker_slotsOf hx hb hts hown hK hP fl_X1_37 dX1_isHeldRight_184 ?_
              refine lv_iload_n hx hb dX1_isHeldRight_187 rfl (lv_at hl 1 rfl) ?_
              refine lx_checker_slotsOf hx hb hK hP hF dX1_isHeldRight_188 (fun v19 hF => ?_)
              refine lv_aload_n hx hb dX1_isHeldRight_189 rfl (lv_at hl 0 rfl) ?_
              refine gx_checker_nodes hx hb hts hown hK hP fl_X1_23 dX1_isHeldRight_190 ?_
              refine lv_iload_n hx hb dX1_isHeldRight_193 rfl (lv_at hl 1 rfl) ?_
              obtain ⟨r20, u21, hc22, hF⟩ := q_bnd_some hF
              refine sx_ci (Wd := (ax_W a cI L)) (σ1 := u21) (q_runV (Wd := (ax_W a cI L)) (σ := u2) (q0 := 5) (ci := 4) (T := TX4) (N := 2) (As := [.int o1]) (rest := [.int v19]) hx hb hml hown hts hK hP (kt_X4_linksOf hD hc22) cw_X1_128 rfl rfl ⟨Nat.le_of_ble_eq_true rfl, Nat.le_of_ble_eq_true rfl⟩ rfl rfl rfl hl.1 rfl (Nat.le_of_ble_eq_true rfl) dX1_isHeldRight_194) hS (fun H locs hP hS => ?_)
              refine sx_icmp_ne (tgt := 204) hx hb hF dX1_isHeldRight_197 (by decide) (fun hF => ?_) (fun hF => ?_)
              · refine lv_iconst (v := 0) hx hb dX1_isHeldRight_204 (by decide) ?_
                exact sx_retz (Wd := (ax_W a cI L)) (σ := u21) hx hb hr (by decide) hF hP hS hlocks dX1_isHeldRight_205
              · refine lv_iconst (v := 1) hx hb dX1_isHeldRight_200 (by decide) ?_
                refine lv_goto (tgt := 205) hx hb dX1_isHeldRight_201 (by decide) ?_
                exact sx_retz (Wd := (ax_W a cI L)) (σ := u21) hx hb hr (by decide) hF hP hS hlocks dX1_isHeldRight_205
          · exact absurd (Int32.toInt_inj.mp (hr2.trans (by decide : (4 : Int) = Int32.toInt 4))) hq4
      · refine lv_iconst (v := 0) hx hb dX1_isHeldRight_22 (by decide) ?_
        exact sx_retz (Wd := (ax_W a cI L)) (σ := u) hx hb hr (by decide) hF hP hS hlocks dX1_isHeldRight_23
set_option maxHeartbeats 4000000 in
set_option maxRecDepth 100000 in
theorem kt_X1_use {N : Nat} {l : Launch} {D : va_G} {a : Nat → Nat} {cI : Nat → ClassId} {L : Nat → Nat} (hD : ∀ σ, va_D (ax_A a) (ax_W a cI L σ)) {o1 : Int32} {u σ0 : q_St} {r0 : Unit} (hF : fX1_use L N o1 u = some (r0, σ0)) : Met l yX1_use (Cond.code yX1_use cX1_use 2 none :: q_T) ({ frames := 0, cells := 0, slots := 0, locals := 0 } : Room) (q_P D vwCl (ax_T cI) (ax_W a cI L) [.ref (a 11), .int o1] u) (q_Qv D vwCl (ax_W a cI L) (ax_A a) σ0) 0 0 (ax_A a) := by
  refine Met.ofW (cc := cX1_use) (maxL := 2) (ret := none) (by decide) rfl ?_
  intro p e s m args below meth c s₁ B hml hv
  obtain ⟨rfl, hP, hK⟩ := hv
  have hx := B.exec
  have hb := B.bytes
  have hr := B.returns
  have hts := q_ts (atoms_spec (ws := Cond.code yX1_use cX1_use 2 none :: q_T) B.pre)
  have hown : s.vm.findClass RX1 = some m.cls := findClass_of_methodNamed B.named
  have hlocks := B.notSynchronized
  have hS : va_S (ax_A a) s.heap s.heap [] := va_S.rf
  have hl := lv_entry ([.ref (a 11), .int o1]) (n := 2) (Nat.le_of_ble_eq_true rfl)
  rw [lg_entry_eq]
  generalize (lg_sl ([.ref (a 11), .int o1]) ++ List.replicate (2 - (lg_sl ([.ref (a 11), .int o1])).length) Slot.unset).toArray = ls at hl ⊢
  have hl : lv_has ls 2 [(0, .ref (a 11)), (1, .int o1)] := hl
  have hB33 : ∀ (u : q_St) (ls : Array Slot), lv_has ls 2 [(0, .ref (a 11))] → fX1_use_b33 L N u = some (r0, σ0) → ∀ (H : Heap) (locs : List Loc), va_P D vwCl (ax_W a cI L u) H → va_S (ax_A a) s.heap H locs → W p l e (headSpec (Cond.code yX1_use cX1_use 2 none :: q_T) ({ frames := 0, cells := 0, slots := 0, locals := 0 } : Room)).room s m ([.ref (a 11), .int o1] : List Value).toArray below meth c H locs 0 0 (MQ below (q_Qv D vwCl (ax_W a cI L) (ax_A a) σ0) ([.ref (a 11), .int o1] : List Value).toArray s 0 0 (ax_A a)) (F0 m 33 ls []) := by
    intro u ls hl hF _ _ hP hS
    unfold fX1_use_b33 at hF
    refine lv_aload_n hx hb dX1_use_33 rfl (lv_at hl 0 rfl) ?_
    refine lv_dup hx hb dX1_use_34 rfl ?_
    refine gx_checker_wrong hx hb hts hown hK hP fl_X1_43 dX1_use_35 ?_
    refine lv_iconst (v := 1) hx hb dX1_use_38 (by decide) ?_
    refine lv_iadd hx hb dX1_use_39 ?_
    refine px_checker_wrong hx hb hts hown hK hP fl_X1_43 hD hS hF dX1_use_40 (fun u1 H locs hF hP hS => ?_)
    exact sx_retv (Wd := (ax_W a cI L)) (σ := u1) hx hb hr hF hP hS hlocks dX1_use_43
  unfold fX1_use at hF
  refine lv_iload_n hx hb dX1_use_0 rfl (lv_at hl 1 rfl) ?_
  refine lv_aload_n hx hb dX1_use_1 rfl (lv_at hl 0 rfl) ?_
  refine gx_checker_space hx hb hts hown hK hP fl_X1_19 dX1_use_2 ?_
  refine gx_space_firstBlock hx hb hts hown hK hP fl_X1_81 dX1_use_5 ?_
  refine sx_icmp_lt (tgt := 33) hx hb hF dX1_use_8 (by decide) (fun hF => ?_) (fun hF => ?_)
  · exact hB33 u ls (lv_sub hl [0] rfl) hF _ _ hP hS
  · refine lv_iload_n hx hb dX1_use_11 rfl (lv_at hl 1 rfl) ?_
    refine lv_aload_n hx hb dX1_use_12 rfl (lv_at hl 0 rfl) ?_
    refine gx_checker_uses hx hb hts hown hK hP fl_X1_33 dX1_use_13 ?_
    refine nx_checker_uses hx hb hK hP dX1_use_16 ?_
    refine sx_icmp_ge (tgt := 33) hx hb hF dX1_use_17 (by decide) (fun hF => ?_) (fun hF => ?_)
    · exact hB33 u ls (lv_sub hl [0] rfl) hF _ _ hP hS
    · refine lv_aload_n hx hb dX1_use_20 rfl (lv_at hl 0 rfl) ?_
      refine gx_checker_uses hx hb hts hown hK hP fl_X1_33 dX1_use_21 ?_
      refine lv_iload_n hx hb dX1_use_24 rfl (lv_at hl 1 rfl) ?_
      refine lv_dup2_11 hx hb dX1_use_25 rfl rfl ?_
      refine lx_checker_uses hx hb hK hP hF dX1_use_26 (fun v2 hF => ?_)
      refine lv_iconst (v := 1) hx hb dX1_use_27 (by decide) ?_
      refine lv_iadd hx hb dX1_use_28 ?_
      refine ux_checker_uses hx hb hK hP hD hS hF dX1_use_29 (fun u3 H locs hF hP hS => ?_)
      refine lv_goto (tgt := 43) hx hb dX1_use_30 (by decide) ?_
      exact sx_retv (Wd := (ax_W a cI L)) (σ := u3) hx hb hr hF hP hS hlocks dX1_use_43
set_option maxHeartbeats 4000000 in
set_option maxRecDepth 100000 in
theorem kt_X1_useTold {N : Nat} {l : Launch} {D : va_G} {a : Nat → Nat} {cI : Nat → ClassId} {L : Nat → Nat} (hD : ∀ σ, va_D (ax_A a) (ax_W a cI L σ)) {o1 : Int32} {o2 : Int32} {o3 : Int32} {o4 : Int32} {u σ0 : q_St} {r0 : Int32} (hF : fX1_useTold L N o1 o2 o3 o4 u = some (r0, σ0)) : Met l yX1_useTold (Cond.code yX1_useTold cX1_useTold 8 (some .int) :: q_T) ({ frames := 3, cells := 0, slots := 0, locals := 68 } : Room) (q_P D vwCl (ax_T cI) (ax_W a cI L) [.ref (a 11), .int o1, .int o2, .int o3, .int o4] u) (q_Qi D vwCl (ax_W a cI L) (ax_A a) r0 σ0) 0 0 (ax_A a) := by
  refine Met.ofW (cc := cX1_useTold) (maxL := 8) (ret := (some .int)) (by decide) rfl ?_
  intro p e s m args below meth c s₁ B hml hv
  obtain ⟨rfl, hP, hK⟩ := hv
  have hx := B.exec
  have hb := B.bytes
  have hr := B.returns
  have hts := q_ts (atoms_spec (ws := Cond.code yX1_useTold cX1_useTold 8 (some .int) :: q_T) B.pre)
  have hown : s.vm.findClass RX1 = some m.cls := findClass_of_methodNamed B.named
  have hlocks := B.notSynchronized
  have hS : va_S (ax_A a) s.heap s.heap [] := va_S.rf
  have hl := lv_entry ([.ref (a 11), .int o1, .int o2, .int o3, .int o4]) (n := 8) (Nat.le_of_ble_eq_true rfl)
  rw [lg_entry_eq]
  generalize (lg_sl ([.ref (a 11), .int o1, .int o2, .int o3, .int o4]) ++ List.replicate (8 - (lg_sl ([.ref (a 11), .int o1, .int o2, .int o3, .int o4])).length) Slot.unset).toArray = ls at hl ⊢
  have hl : lv_has ls 8 [(0, .ref (a 11)), (1, .int o1), (2, .int o2), (3, .int o3), (4, .int o4)] := hl
  have hB56 : ∀ (ih6 : Int32 → Int32 → Int32 → Int32 → Int32 → Int32 → q_St → Option (Int32 × q_St)) (hi6 : ∀ (x1 : Int32) (x2 : Int32) (x3 : Int32) (x4 : Int32) (x5 : Int32) (x6 : Int32) (u : q_St) (ls : Array Slot), lv_has ls 8 [(0, .ref (a 11)), (1, .int x1), (2, .int x2), (3, .int x3), (4, .int x4), (5, .int x5), (6, .int x6)] → ih6 x1 x2 x3 x4 x5 x6 u = some (r0, σ0) → ∀ (H : Heap) (locs : List Loc), va_P D vwCl (ax_W a cI L u) H → va_S (ax_A a) s.heap H locs → W p l e (headSpec (Cond.code yX1_useTold cX1_useTold 8 (some .int) :: q_T) ({ frames := 3, cells := 0, slots := 0, locals := 68 } : Room)).room s m ([.ref (a 11), .int o1, .int o2, .int o3, .int o4] : List Value).toArray below meth c H locs 0 0 (MQ below (q_Qi D vwCl (ax_W a cI L) (ax_A a) r0 σ0) ([.ref (a 11), .int o1, .int o2, .int o3, .int o4] : List Value).toArray s 0 0 (ax_A a)) (F0 m 6 ls [])), ∀ (x1 : Int32) (x2 : Int32) (x3 : Int32) (x4 : Int32) (x5 : Int32) (x6 : Int32) (u : q_St) (ls : Array Slot), lv_has ls 8 [(0, .ref (a 11)), (1, .int x1), (2, .int x2), (3, .int x3), (4, .int x4), (5, .int x5), (6, .int x6)] → fX1_useTold_b56 L N ih6 x1 x2 x3 x4 x5 x6 u = some (r0, σ0) → ∀ (H : Heap) (locs : List Loc), va_P D vwCl (ax_W a cI L u) H → va_S (ax_A a) s.heap H locs → W p l e (headSpec (Cond.code yX1_useTold cX1_useTold 8 (some .int) :: q_T) ({ frames := 3, cells := 0, slots := 0, locals := 68 } : Room)).room s m ([.ref (a 11), .int o1, .int o2, .int o3, .int o4] : List Value).toArray below meth c H locs 0 0 (MQ below (q_Qi D vwCl (ax_W a cI L) (ax_A a) r0 σ0) ([.ref (a 11), .int o1, .int o2, .int o3, .int o4] : List Value).toArray s 0 0 (ax_A a)) (F0 m 56 ls []) := by
    intro ih6 hi6 x1 x2 x3 x4 x5 x6 u ls hl hF _ _ hP hS
    unfold fX1_useTold_b56 at hF
    refine sx_iinc (d := 1) (k := 6) (lv2 := [(0, .ref (a 11)), (1, .int x1), (2, .int x2), (3, .int x3), (4, .int x4), (5, .int x5)]) hx hb hF dX1_useTold_56 hl rfl (by decide) (by decide) rfl (fun v4 hF ls hl => ?_)
    refine lv_goto (tgt := 6) hx hb dX1_useTold_59 (by decide) ?_
    exact hi6 x1 x2 x3 x4 x5 v4 u ls (lv_sub hl [1, 2, 3, 4, 5, 6, 0] rfl) hF _ _ hP hS
  have hB50 : ∀ (ih6 : Int32 → Int32 → Int32 → Int32 → Int32 → Int32 → q_St → Option (Int32 × q_St)) (hi6 : ∀ (x1 : Int32) (x2 : Int32) (x3 : Int32) (x4 : Int32) (x5 : Int32) (x6 : Int32) (u : q_St) (ls : Array Slot), lv_has ls 8 [(0, .ref (a 11)), (1, .int x1), (2, .int x2), (3, .int x3), (4, .int x4), (5, .int x5), (6, .int x6)] → ih6 x1 x2 x3 x4 x5 x6 u = some (r0, σ0) → ∀ (H : Heap) (locs : List Loc), va_P D vwCl (ax_W a cI L u) H → va_S (ax_A a) s.heap H locs → W p l e (headSpec (Cond.code yX1_useTold cX1_useTold 8 (some .int) :: q_T) ({ frames := 3, cells := 0, slots := 0, locals := 68 } : Room)).room s m ([.ref (a 11), .int o1, .int o2, .int o3, .int o4] : List Value).toArray below meth c H locs 0 0 (MQ below (q_Qi D vwCl (ax_W a cI L) (ax_A a) r0 σ0) ([.ref (a 11), .int o1, .int o2, .int o3, .int o4] : List Value).toArray s 0 0 (ax_A a)) (F0 m 6 ls [])), ∀ (x1 : Int32) (x2 : Int32) (x3 : Int32) (x4 : Int32) (x5 : Int32) (x6 : Int32) (y0 : Int32) (u : q_St) (ls : Array Slot), lv_has ls 8 [(0, .ref (a 11)), (1, .int x1), (2, .int x2), (3, .int x3), (4, .int x4), (5, .int x5), (6, .int x6)] → fX1_useTold_b50 L N ih6 x1 x2 x3 x4 x5 x6 y0 u = some (r0, σ0) → ∀ (H : Heap) (locs : List Loc), va_P D vwCl (ax_W a cI L u) H → va_S (ax_A a) s.heap H locs → W p l e (headSpec (Cond.code yX1_useTold cX1_useTold 8 (some .int) :: q_T) ({ frames := 3, cells := 0, slots := 0, locals := 68 } : Room)).room s m ([.ref (a 11), .int o1, .int o2, .int o3, .int o4] : List Value).toArray below meth c H locs 0 0 (MQ below (q_Qi D vwCl (ax_W a cI L) (ax_A a) r0 σ0) ([.ref (a 11), .int o1, .int o2, .int o3, .int o4] : List Value).toArray s 0 0 (ax_A a)) (F0 m 50 ls [.int y0, .ref (a 11)]) := by
    intro ih6 hi6 x1 x2 x3 x4 x5 x6 y0 u ls hl hF _ _ hP hS
    unfold fX1_useTold_b50 at hF
    obtain ⟨r8, u9, hc10, hF⟩ := q_bnd_some hF
    refine sx_cv (Wd := (ax_W a cI L)) (σ1 := u9) (q_runV (Wd := (ax_W a cI L)) (σ := u) (q0 := 11) (ci := 1) (T := TX1) (N := 8) (As := [.int y0]) (rest := []) hx hb hml hown hts hK hP (kt_X1_expect hD hc10) cw_X1_72 rfl rfl ⟨Nat.le_of_ble_eq_true rfl, Nat.le_of_ble_eq_true rfl⟩ rfl rfl rfl hl.1 rfl (Nat.le_of_ble_eq_true rfl) dX1_useTold_50) hS (fun H locs hP hS => ?_)
    refine sx_iinc (d := 1) (k := 5) (lv2 := [(0, .ref (a 11)), (1, .int x1), (2, .int x2), (3, .int x3), (4, .int x4), (6, .int x6)]) hx hb hF dX1_useTold_53 hl rfl (by decide) (by decide) rfl (fun v11 hF ls hl => ?_)
    exact hB56 ih6 hi6 x1 x2 x3 x4 v11 x6 u9 ls (lv_sub hl [1, 2, 3, 4, 5, 0, 6] rfl) hF _ _ hP hS
  have hB6 : ∀ (n : Nat) (x1 : Int32) (x2 : Int32) (x3 : Int32) (x4 : Int32) (x5 : Int32) (x6 : Int32) (u : q_St) (ls : Array Slot), lv_has ls 8 [(0, .ref (a 11)), (1, .int x1), (2, .int x2), (3, .int x3), (4, .int x4), (5, .int x5), (6, .int x6)] → q_lp (fX1_useTold_b6 L N) (fun _ _ _ _ _ _ _ => none) n x1 x2 x3 x4 x5 x6 u = some (r0, σ0) → ∀ (H : Heap) (locs : List Loc), va_P D vwCl (ax_W a cI L u) H → va_S (ax_A a) s.heap H locs → W p l e (headSpec (Cond.code yX1_useTold cX1_useTold 8 (some .int) :: q_T) ({ frames := 3, cells := 0, slots := 0, locals := 68 } : Room)).room s m ([.ref (a 11), .int o1, .int o2, .int o3, .int o4] : List Value).toArray below meth c H locs 0 0 (MQ below (q_Qi D vwCl (ax_W a cI L) (ax_A a) r0 σ0) ([.ref (a 11), .int o1, .int o2, .int o3, .int o4] : List Value).toArray s 0 0 (ax_A a)) (F0 m 6 ls []) := by
    intro n
    induction n with
    | zero => intro x1 x2 x3 x4 x5 x6 u ls hl hF; exact absurd (show (none : Option (Int32 × q_St)) = some _ from hF) (fun h => nomatch h)
    | succ n hi6 =>
      intro x1 x2 x3 x4 x5 x6 u ls hl hF _ _ hP hS
      obtain ⟨ih6, hih⟩ : ∃ q, q = q_lp (fX1_useTold_b6 L N) (fun _ _ _ _ _ _ _ => none) n := ⟨_, rfl⟩
      rw [← hih] at hi6
      have hF : fX1_useTold_b6 L N (q_lp (fX1_useTold_b6 L N) (fun _ _ _ _ _ _ _ => none) n) x1 x2 x3 x4 x5 x6 u = some (r0, σ0) := hF
      rw [← hih] at hF
      clear hih
      unfold fX1_useTold_b6 at hF
      refine lv_iload hx hb dX1_useTold_6 (lv_at hl 6 rfl) ?_
      refine lv_iload_n hx hb dX1_useTold_8 rfl (lv_at hl 3 rfl) ?_
      refine sx_icmp_ge (tgt := 62) hx hb hF dX1_useTold_9 (by decide) (fun hF => ?_) (fun hF => ?_)
      · refine lv_iload hx hb dX1_useTold_62 (lv_at hl 5 rfl) ?_
        exact sx_reti (Wd := (ax_W a cI L)) (σ := u) hx hb hr hF hP hS hlocks dX1_useTold_64
      · refine lv_aload_n hx hb dX1_useTold_12 rfl (lv_at hl 0 rfl) ?_
        refine gx_checker_store hx hb hts hown hK hP fl_X1_15 dX1_useTold_13 ?_
        refine lv_iload_n hx hb dX1_useTold_16 rfl (lv_at hl 1 rfl) ?_
        refine lv_iload_n hx hb dX1_useTold_17 rfl (lv_at hl 2 rfl) ?_
        refine lv_iload hx hb dX1_useTold_18 (lv_at hl 6 rfl) ?_
        refine lv_iadd hx hb dX1_useTold_20 ?_
        obtain ⟨r1, u2, hc3, hF⟩ := q_bnd_some hF
        refine sx_ci (Wd := (ax_W a cI L)) (σ1 := u2) (q_runV (Wd := (ax_W a cI L)) (σ := u) (q0 := 3) (ci := 6) (T := TX6) (N := 9) (As := [.int x1, .int (x2 + x6)]) (rest := []) hx hb hml hown hts hK hP (kt_X6_half hD hc3) cw_X1_96 rfl rfl ⟨Nat.le_of_ble_eq_true rfl, Nat.le_of_ble_eq_true rfl⟩ rfl rfl rfl hl.1 rfl (Nat.le_of_ble_eq_true rfl) dX1_useTold_21) hS (fun H locs hP hS => ?_)
        refine lv_istore (lv' := [(7, .int r1), (0, .ref (a 11)), (1, .int x1), (2, .int x2), (3, .int x3), (4, .int x4), (5, .int x5), (6, .int x6)]) hx hb dX1_useTold_24 hl (by decide) rfl (fun ls hl => ?_)
        refine lv_iload hx hb dX1_useTold_26 (lv_at hl 0 rfl) ?_
        refine sx_if_eq (tgt := 56) hx hb hF dX1_useTold_28 (by decide) (fun hF => ?_) (fun hF => ?_)
        · exact hB56 ih6 hi6 x1 x2 x3 x4 x5 x6 u2 ls (lv_sub hl [1, 2, 3, 4, 5, 6, 7] rfl) hF _ _ hP hS
        · refine lv_aload_n hx hb dX1_useTold_31 rfl (lv_at hl 1 rfl) ?_
          refine lv_iload hx hb dX1_useTold_32 (lv_at hl 0 rfl) ?_
          obtain ⟨r5, u6, hc7, hF⟩ := q_bnd_some hF
          refine sx_cv (Wd := (ax_W a cI L)) (σ1 := u6) (q_runV (Wd := (ax_W a cI L)) (σ := u2) (q0 := 11) (ci := 1) (T := TX1) (N := 8) (As := [.int r1]) (rest := []) hx hb hml hown hts hK hP (kt_X1_use hD hc7) cw_X1_106 rfl rfl ⟨Nat.le_of_ble_eq_true rfl, Nat.le_of_ble_eq_true rfl⟩ rfl rfl rfl hl.1 rfl (Nat.le_of_ble_eq_true rfl) dX1_useTold_34) hS (fun H locs hP hS => ?_)
          refine lv_aload_n hx hb dX1_useTold_37 rfl (lv_at hl 1 rfl) ?_
          refine lv_iload hx hb dX1_useTold_38 (lv_at hl 7 rfl) ?_
          refine lv_iload hx hb dX1_useTold_40 (lv_at hl 5 rfl) ?_
          refine sx_icmp_ge (tgt := 49) hx hb hF dX1_useTold_42 (by decide) (fun hF => ?_) (fun hF => ?_)
          · refine lv_iconst (v := 0) hx hb dX1_useTold_49 (by decide) ?_
            exact hB50 ih6 hi6 x1 x2 x3 x4 x5 x6 0 u6 ls (lv_sub hl [1, 2, 3, 4, 5, 6, 7] rfl) hF _ _ hP hS
          · refine lv_iconst (v := 1) hx hb dX1_useTold_45 (by decide) ?_
            refine lv_goto (tgt := 50) hx hb dX1_useTold_46 (by decide) ?_
            exact hB50 ih6 hi6 x1 x2 x3 x4 x5 x6 1 u6 ls (lv_sub hl [1, 2, 3, 4, 5, 6, 7] rfl) hF _ _ hP hS
  unfold fX1_useTold at hF
  refine lv_iconst (v := 0) hx hb dX1_useTold_0 (by decide) ?_
  refine lv_istore (lv' := [(5, .int 0), (0, .ref (a 11)), (1, .int o1), (2, .int o2), (3, .int o3), (4, .int o4)]) hx hb dX1_useTold_1 hl (by decide) rfl (fun ls hl => ?_)
  refine lv_iconst (v := 0) hx hb dX1_useTold_3 (by decide) ?_
  refine lv_istore (lv' := [(6, .int 0), (5, .int 0), (0, .ref (a 11)), (1, .int o1), (2, .int o2), (3, .int o3), (4, .int o4)]) hx hb dX1_useTold_4 hl (by decide) rfl (fun ls hl => ?_)
  exact hB6 N o1 o2 o3 o4 0 0 u ls (lv_sub hl [2, 3, 4, 5, 6, 1, 0] rfl) hF _ _ hP hS
set_option maxHeartbeats 4000000 in
set_option maxRecDepth 100000 in
theorem kt_X1_useIndex {N : Nat} {l : Launch} {D : va_G} {a : Nat → Nat} {cI : Nat → ClassId} {L : Nat → Nat} (hD : ∀ σ, va_D (ax_A a) (ax_W a cI L σ)) {o1 : Int32} {o2 : Int32} {u σ0 : q_St} {r0 : Unit} (hF : fX1_useIndex L N o1 o2 u = some (r0, σ0)) : Met l yX1_useIndex (Cond.code yX1_useIndex cX1_useIndex 3 none :: q_T) ({ frames := 4, cells := 0, slots := 0, locals := 95 } : Room) (q_P D vwCl (ax_T cI) (ax_W a cI L) [.ref (a 11), .int o1, .int o2] u) (q_Qv D vwCl (ax_W a cI L) (ax_A a) σ0) 0 0 (ax_A a) := by
  refine Met.ofW (cc := cX1_useIndex) (maxL := 3) (ret := none) (by decide) rfl ?_
  intro p e s m args below meth c s₁ B hml hv
  obtain ⟨rfl, hP, hK⟩ := hv
  have hx := B.exec
  have hb := B.bytes
  have hr := B.returns
  have hts := q_ts (atoms_spec (ws := Cond.code yX1_useIndex cX1_useIndex 3 none :: q_T) B.pre)
  have hown : s.vm.findClass RX1 = some m.cls := findClass_of_methodNamed B.named
  have hlocks := B.notSynchronized
  have hS : va_S (ax_A a) s.heap s.heap [] := va_S.rf
  have hl := lv_entry ([.ref (a 11), .int o1, .int o2]) (n := 3) (Nat.le_of_ble_eq_true rfl)
  rw [lg_entry_eq]
  generalize (lg_sl ([.ref (a 11), .int o1, .int o2]) ++ List.replicate (3 - (lg_sl ([.ref (a 11), .int o1, .int o2])).length) Slot.unset).toArray = ls at hl ⊢
  have hl : lv_has ls 3 [(0, .ref (a 11)), (1, .int o1), (2, .int o2)] := hl
  have hB27 : ∀ (y0 : Int32) (u : q_St) (ls : Array Slot), lv_has ls 3 [] → fX1_useIndex_b27 L N y0 u = some (r0, σ0) → ∀ (H : Heap) (locs : List Loc), va_P D vwCl (ax_W a cI L u) H → va_S (ax_A a) s.heap H locs → W p l e (headSpec (Cond.code yX1_useIndex cX1_useIndex 3 none :: q_T) ({ frames := 4, cells := 0, slots := 0, locals := 95 } : Room)).room s m ([.ref (a 11), .int o1, .int o2] : List Value).toArray below meth c H locs 0 0 (MQ below (q_Qv D vwCl (ax_W a cI L) (ax_A a) σ0) ([.ref (a 11), .int o1, .int o2] : List Value).toArray s 0 0 (ax_A a)) (F0 m 27 ls [.int y0, .ref (a 11)]) := by
    intro y0 u ls hl hF _ _ hP hS
    unfold fX1_useIndex_b27 at hF
    obtain ⟨r7, u8, hc9, hF⟩ := q_bnd_some hF
    refine sx_cv (Wd := (ax_W a cI L)) (σ1 := u8) (q_runV (Wd := (ax_W a cI L)) (σ := u) (q0 := 11) (ci := 1) (T := TX1) (N := 8) (As := [.int y0]) (rest := []) hx hb hml hown hts hK hP (kt_X1_expect hD hc9) cw_X1_72 rfl rfl ⟨Nat.le_of_ble_eq_true rfl, Nat.le_of_ble_eq_true rfl⟩ rfl rfl rfl hl.1 rfl (Nat.le_of_ble_eq_true rfl) dX1_useIndex_27) hS (fun H locs hP hS => ?_)
    exact sx_retv (Wd := (ax_W a cI L)) (σ := u8) hx hb hr hF hP hS hlocks dX1_useIndex_30
  unfold fX1_useIndex at hF
  refine lv_iload_n hx hb dX1_useIndex_0 rfl (lv_at hl 1 rfl) ?_
  refine sx_if_eq (tgt := 30) hx hb hF dX1_useIndex_1 (by decide) (fun hF => ?_) (fun hF => ?_)
  · exact sx_retv (Wd := (ax_W a cI L)) (σ := u) hx hb hr hF hP hS hlocks dX1_useIndex_30
  · refine lv_aload_n hx hb dX1_useIndex_4 rfl (lv_at hl 0 rfl) ?_
    refine lv_iload_n hx hb dX1_useIndex_5 rfl (lv_at hl 1 rfl) ?_
    obtain ⟨r1, u2, hc3, hF⟩ := q_bnd_some hF
    refine sx_cv (Wd := (ax_W a cI L)) (σ1 := u2) (q_runV (Wd := (ax_W a cI L)) (σ := u) (q0 := 11) (ci := 1) (T := TX1) (N := 8) (As := [.int o1]) (rest := []) hx hb hml hown hts hK hP (kt_X1_use hD hc3) cw_X1_106 rfl rfl ⟨Nat.le_of_ble_eq_true rfl, Nat.le_of_ble_eq_true rfl⟩ rfl rfl rfl hl.1 rfl (Nat.le_of_ble_eq_true rfl) dX1_useIndex_6) hS (fun H locs hP hS => ?_)
    refine lv_aload_n hx hb dX1_useIndex_9 rfl (lv_at hl 0 rfl) ?_
    refine lv_aload_n hx hb dX1_useIndex_10 rfl (lv_at hl 0 rfl) ?_
    refine lv_iload_n hx hb dX1_useIndex_11 rfl (lv_at hl 1 rfl) ?_
    refine lv_iconst (v := 0) hx hb dX1_useIndex_12 (by decide) ?_
    refine lv_bipush (v := 32) hx hb dX1_useIndex_13 (by decide) ?_
    refine lv_iload_n hx hb dX1_useIndex_15 rfl (lv_at hl 2 rfl) ?_
    obtain ⟨r4, u5, hc6, hF⟩ := q_bnd_some hF
    refine sx_ci (Wd := (ax_W a cI L)) (σ1 := u5) (q_runV (Wd := (ax_W a cI L)) (σ := u2) (q0 := 11) (ci := 1) (T := TX1) (N := 8) (As := [.int o1, .int 0, .int 32, .int o2]) (rest := [.ref (a 11)]) hx hb hml hown hts hK hP (kt_X1_useTold hD hc6) cw_X1_92 rfl rfl ⟨Nat.le_of_ble_eq_true rfl, Nat.le_of_ble_eq_true rfl⟩ rfl rfl rfl hl.1 rfl (Nat.le_of_ble_eq_true rfl) dX1_useIndex_16) hS (fun H locs hP hS => ?_)
    refine sx_if_le (tgt := 26) hx hb hF dX1_useIndex_19 (by decide) (fun hF => ?_) (fun hF => ?_)
    · refine lv_iconst (v := 0) hx hb dX1_useIndex_26 (by decide) ?_
      exact hB27 0 u5 ls (lv_sub hl [] rfl) hF _ _ hP hS
    · refine lv_iconst (v := 1) hx hb dX1_useIndex_22 (by decide) ?_
      refine lv_goto (tgt := 27) hx hb dX1_useIndex_23 (by decide) ?_
      exact hB27 1 u5 ls (lv_sub hl [] rfl) hF _ _ hP hS
set_option maxHeartbeats 4000000 in
set_option maxRecDepth 100000 in
theorem kt_X1_useFile {N : Nat} {l : Launch} {D : va_G} {a : Nat → Nat} {cI : Nat → ClassId} {L : Nat → Nat} (hD : ∀ σ, va_D (ax_A a) (ax_W a cI L σ)) {o1 : Int32} {u σ0 : q_St} {r0 : Unit} (hF : fX1_useFile L N o1 u = some (r0, σ0)) : Met l yX1_useFile (Cond.code yX1_useFile cX1_useFile 8 none :: q_T) ({ frames := 5, cells := 0, slots := 0, locals := 117 } : Room) (q_P D vwCl (ax_T cI) (ax_W a cI L) [.ref (a 11), .int o1] u) (q_Qv D vwCl (ax_W a cI L) (ax_A a) σ0) 0 0 (ax_A a) := by
  refine Met.ofW (cc := cX1_useFile) (maxL := 8) (ret := none) (by decide) rfl ?_
  intro p e s m args below meth c s₁ B hml hv
  obtain ⟨rfl, hP, hK⟩ := hv
  have hx := B.exec
  have hb := B.bytes
  have hr := B.returns
  have hts := q_ts (atoms_spec (ws := Cond.code yX1_useFile cX1_useFile 8 none :: q_T) B.pre)
  have hown : s.vm.findClass RX1 = some m.cls := findClass_of_methodNamed B.named
  have hlocks := B.notSynchronized
  have hS : va_S (ax_A a) s.heap s.heap [] := va_S.rf
  have hl := lv_entry ([.ref (a 11), .int o1]) (n := 8) (Nat.le_of_ble_eq_true rfl)
  rw [lg_entry_eq]
  generalize (lg_sl ([.ref (a 11), .int o1]) ++ List.replicate (8 - (lg_sl ([.ref (a 11), .int o1])).length) Slot.unset).toArray = ls at hl ⊢
  have hl : lv_has ls 8 [(0, .ref (a 11)), (1, .int o1)] := hl
  have hB119 : ∀ (ih84 : Int32 → Int32 → Int32 → Int32 → q_St → Option (Unit × q_St)) (hi84 : ∀ (x3 : Int32) (x4 : Int32) (x5 : Int32) (x6 : Int32) (u : q_St) (ls : Array Slot), lv_has ls 8 [(0, .ref (a 11)), (3, .int x3), (4, .int x4), (5, .int x5), (6, .int x6)] → ih84 x3 x4 x5 x6 u = some (r0, σ0) → ∀ (H : Heap) (locs : List Loc), va_P D vwCl (ax_W a cI L u) H → va_S (ax_A a) s.heap H locs → W p l e (headSpec (Cond.code yX1_useFile cX1_useFile 8 none :: q_T) ({ frames := 5, cells := 0, slots := 0, locals := 117 } : Room)).room s m ([.ref (a 11), .int o1] : List Value).toArray below meth c H locs 0 0 (MQ below (q_Qv D vwCl (ax_W a cI L) (ax_A a) σ0) ([.ref (a 11), .int o1] : List Value).toArray s 0 0 (ax_A a)) (F0 m 84 ls [])), ∀ (x3 : Int32) (x4 : Int32) (x6 : Int32) (x7 : Int32) (y0 : Int32) (u : q_St) (ls : Array Slot), lv_has ls 8 [(0, .ref (a 11)), (3, .int x3), (4, .int x4), (6, .int x6), (7, .int x7)] → fX1_useFile_b119 L N ih84 x3 x4 x6 x7 y0 u = some (r0, σ0) → ∀ (H : Heap) (locs : List Loc), va_P D vwCl (ax_W a cI L u) H → va_S (ax_A a) s.heap H locs → W p l e (headSpec (Cond.code yX1_useFile cX1_useFile 8 none :: q_T) ({ frames := 5, cells := 0, slots := 0, locals := 117 } : Room)).room s m ([.ref (a 11), .int o1] : List Value).toArray below meth c H locs 0 0 (MQ below (q_Qv D vwCl (ax_W a cI L) (ax_A a) σ0) ([.ref (a 11), .int o1] : List Value).toArray s 0 0 (ax_A a)) (F0 m 119 ls [.int y0]) := by
    intro ih84 hi84 x3 x4 x6 x7 y0 u ls hl hF _ _ hP hS
    unfold fX1_useFile_b119 at hF
    refine lv_istore (lv' := [(5, .int y0), (0, .ref (a 11)), (3, .int x3), (4, .int x4), (6, .int x6), (7, .int x7)]) hx hb dX1_useFile_119 hl (by decide) rfl (fun ls hl => ?_)
    refine lv_aload_n hx hb dX1_useFile_121 rfl (lv_at hl 1 rfl) ?_
    refine lv_iload hx hb dX1_useFile_122 (lv_at hl 5 rfl) ?_
    refine lv_iload_n hx hb dX1_useFile_124 rfl (lv_at hl 2 rfl) ?_
    refine lv_bipush (v := 44) hx hb dX1_useFile_125 (by decide) ?_
    refine lv_isub hx hb dX1_useFile_127 ?_
    refine lv_bipush (v := 32) hx hb dX1_useFile_128 (by decide) ?_
    refine lv_iload hx hb dX1_useFile_130 (lv_at hl 4 rfl) ?_
    refine lv_imul hx hb dX1_useFile_132 ?_
    refine lv_isub hx hb dX1_useFile_133 ?_
    obtain ⟨r29, u30, hc31, hF⟩ := q_bnd_some hF
    refine sx_cv (Wd := (ax_W a cI L)) (σ1 := u30) (q_runV (Wd := (ax_W a cI L)) (σ := u) (q0 := 11) (ci := 1) (T := TX1) (N := 8) (As := [.int x7, .int ((x3 - 44) - (32 * x6))]) (rest := []) hx hb hml hown hts hK hP (kt_X1_useIndex hD hc31) cw_X1_102 rfl rfl ⟨Nat.le_of_ble_eq_true rfl, Nat.le_of_ble_eq_true rfl⟩ rfl rfl rfl hl.1 rfl (Nat.le_of_ble_eq_true rfl) dX1_useFile_134) hS (fun H locs hP hS => ?_)
    refine sx_iinc (d := 1) (k := 4) (lv2 := [(5, .int y0), (0, .ref (a 11)), (3, .int x3), (4, .int x4), (7, .int x7)]) hx hb hF dX1_useFile_137 hl rfl (by decide) (by decide) rfl (fun v32 hF ls hl => ?_)
    refine lv_goto (tgt := 84) hx hb dX1_useFile_140 (by decide) ?_
    exact hi84 x3 x4 y0 v32 u30 ls (lv_sub hl [2, 3, 4, 1, 0] rfl) hF _ _ hP hS
  have hB114 : ∀ (ih84 : Int32 → Int32 → Int32 → Int32 → q_St → Option (Unit × q_St)) (hi84 : ∀ (x3 : Int32) (x4 : Int32) (x5 : Int32) (x6 : Int32) (u : q_St) (ls : Array Slot), lv_has ls 8 [(0, .ref (a 11)), (3, .int x3), (4, .int x4), (5, .int x5), (6, .int x6)] → ih84 x3 x4 x5 x6 u = some (r0, σ0) → ∀ (H : Heap) (locs : List Loc), va_P D vwCl (ax_W a cI L u) H → va_S (ax_A a) s.heap H locs → W p l e (headSpec (Cond.code yX1_useFile cX1_useFile 8 none :: q_T) ({ frames := 5, cells := 0, slots := 0, locals := 117 } : Room)).room s m ([.ref (a 11), .int o1] : List Value).toArray below meth c H locs 0 0 (MQ below (q_Qv D vwCl (ax_W a cI L) (ax_A a) σ0) ([.ref (a 11), .int o1] : List Value).toArray s 0 0 (ax_A a)) (F0 m 84 ls [])), ∀ (x3 : Int32) (x4 : Int32) (x6 : Int32) (x7 : Int32) (u : q_St) (ls : Array Slot), lv_has ls 8 [(0, .ref (a 11)), (3, .int x3), (4, .int x4), (6, .int x6), (7, .int x7)] → fX1_useFile_b114 L N ih84 x3 x4 x6 x7 u = some (r0, σ0) → ∀ (H : Heap) (locs : List Loc), va_P D vwCl (ax_W a cI L u) H → va_S (ax_A a) s.heap H locs → W p l e (headSpec (Cond.code yX1_useFile cX1_useFile 8 none :: q_T) ({ frames := 5, cells := 0, slots := 0, locals := 117 } : Room)).room s m ([.ref (a 11), .int o1] : List Value).toArray below meth c H locs 0 0 (MQ below (q_Qv D vwCl (ax_W a cI L) (ax_A a) σ0) ([.ref (a 11), .int o1] : List Value).toArray s 0 0 (ax_A a)) (F0 m 114 ls []) := by
    intro ih84 hi84 x3 x4 x6 x7 u ls hl hF _ _ hP hS
    unfold fX1_useFile_b114 at hF
    refine lv_iconst (v := 1) hx hb dX1_useFile_114 (by decide) ?_
    refine lv_goto (tgt := 119) hx hb dX1_useFile_115 (by decide) ?_
    exact hB119 ih84 hi84 x3 x4 x6 x7 1 u ls (lv_sub hl [0, 1, 2, 3, 4] rfl) hF _ _ hP hS
  have hB84 : ∀ (n : Nat) (x3 : Int32) (x4 : Int32) (x5 : Int32) (x6 : Int32) (u : q_St) (ls : Array Slot), lv_has ls 8 [(0, .ref (a 11)), (3, .int x3), (4, .int x4), (5, .int x5), (6, .int x6)] → q_lp (fX1_useFile_b84 L N) (fun _ _ _ _ _ => none) n x3 x4 x5 x6 u = some (r0, σ0) → ∀ (H : Heap) (locs : List Loc), va_P D vwCl (ax_W a cI L u) H → va_S (ax_A a) s.heap H locs → W p l e (headSpec (Cond.code yX1_useFile cX1_useFile 8 none :: q_T) ({ frames := 5, cells := 0, slots := 0, locals := 117 } : Room)).room s m ([.ref (a 11), .int o1] : List Value).toArray below meth c H locs 0 0 (MQ below (q_Qv D vwCl (ax_W a cI L) (ax_A a) σ0) ([.ref (a 11), .int o1] : List Value).toArray s 0 0 (ax_A a)) (F0 m 84 ls []) := by
    intro n
    induction n with
    | zero => intro x3 x4 x5 x6 u ls hl hF; exact absurd (show (none : Option (Unit × q_St)) = some _ from hF) (fun h => nomatch h)
    | succ n hi84 =>
      intro x3 x4 x5 x6 u ls hl hF _ _ hP hS
      obtain ⟨ih84, hih⟩ : ∃ q, q = q_lp (fX1_useFile_b84 L N) (fun _ _ _ _ _ => none) n := ⟨_, rfl⟩
      rw [← hih] at hi84
      have hF : fX1_useFile_b84 L N (q_lp (fX1_useFile_b84 L N) (fun _ _ _ _ _ => none) n) x3 x4 x5 x6 u = some (r0, σ0) := hF
      rw [← hih] at hF
      clear hih
      unfold fX1_useFile_b84 at hF
      refine lv_iload hx hb dX1_useFile_84 (lv_at hl 4 rfl) ?_
      refine lv_bipush (v := 32) hx hb dX1_useFile_86 (by decide) ?_
      refine sx_icmp_ge (tgt := 143) hx hb hF dX1_useFile_88 (by decide) (fun hF => ?_) (fun hF => ?_)
      · refine lv_aload_n hx hb dX1_useFile_143 rfl (lv_at hl 0 rfl) ?_
        refine lv_iload hx hb dX1_useFile_144 (lv_at hl 3 rfl) ?_
        obtain ⟨r23, u24, hc25, hF⟩ := q_bnd_some hF
        refine sx_cv (Wd := (ax_W a cI L)) (σ1 := u24) (q_runV (Wd := (ax_W a cI L)) (σ := u) (q0 := 11) (ci := 1) (T := TX1) (N := 8) (As := [.int x5]) (rest := []) hx hb hml hown hts hK hP (kt_X1_expect hD hc25) cw_X1_72 rfl rfl ⟨Nat.le_of_ble_eq_true rfl, Nat.le_of_ble_eq_true rfl⟩ rfl rfl rfl hl.1 rfl (Nat.le_of_ble_eq_true rfl) dX1_useFile_146) hS (fun H locs hP hS => ?_)
        exact sx_retv (Wd := (ax_W a cI L)) (σ := u24) hx hb hr hF hP hS hlocks dX1_useFile_149
      · refine lv_aload_n hx hb dX1_useFile_91 rfl (lv_at hl 0 rfl) ?_
        refine gx_checker_store hx hb hts hown hK hP fl_X1_15 dX1_useFile_92 ?_
        refine lv_iload hx hb dX1_useFile_95 (lv_at hl 2 rfl) ?_
        refine lv_iload hx hb dX1_useFile_97 (lv_at hl 4 rfl) ?_
        obtain ⟨r26, u27, hc28, hF⟩ := q_bnd_some hF
        refine sx_ci (Wd := (ax_W a cI L)) (σ1 := u27) (q_runV (Wd := (ax_W a cI L)) (σ := u) (q0 := 3) (ci := 6) (T := TX6) (N := 9) (As := [.int x4, .int x6]) (rest := []) hx hb hml hown hts hK hP (kt_X6_half hD hc28) cw_X1_96 rfl rfl ⟨Nat.le_of_ble_eq_true rfl, Nat.le_of_ble_eq_true rfl⟩ rfl rfl rfl hl.1 rfl (Nat.le_of_ble_eq_true rfl) dX1_useFile_99) hS (fun H locs hP hS => ?_)
        refine lv_istore (lv' := [(7, .int r26), (0, .ref (a 11)), (3, .int x3), (4, .int x4), (5, .int x5), (6, .int x6)]) hx hb dX1_useFile_102 hl (by decide) rfl (fun ls hl => ?_)
        refine lv_iload hx hb dX1_useFile_104 (lv_at hl 4 rfl) ?_
        refine sx_if_ne (tgt := 114) hx hb hF dX1_useFile_106 (by decide) (fun hF => ?_) (fun hF => ?_)
        · exact hB114 ih84 hi84 x3 x4 x6 r26 u27 ls (lv_sub hl [1, 2, 3, 5, 0] rfl) hF _ _ hP hS
        · refine lv_iload hx hb dX1_useFile_109 (lv_at hl 0 rfl) ?_
          refine sx_if_eq (tgt := 118) hx hb hF dX1_useFile_111 (by decide) (fun hF => ?_) (fun hF => ?_)
          · refine lv_iconst (v := 0) hx hb dX1_useFile_118 (by decide) ?_
            exact hB119 ih84 hi84 x3 x4 x6 r26 0 u27 ls (lv_sub hl [1, 2, 3, 5, 0] rfl) hF _ _ hP hS
          · exact hB114 ih84 hi84 x3 x4 x6 r26 u27 ls (lv_sub hl [1, 2, 3, 5, 0] rfl) hF _ _ hP hS
  unfold fX1_useFile at hF
  refine lv_aload_n hx hb dX1_useFile_0 rfl (lv_at hl 0 rfl) ?_
  refine gx_checker_nodes hx hb hts hown hK hP fl_X1_23 dX1_useFile_1 ?_
  refine lv_iload_n hx hb dX1_useFile_4 rfl (lv_at hl 1 rfl) ?_
  obtain ⟨r1, u2, hc3, hF⟩ := q_bnd_some hF
  refine sx_ci (Wd := (ax_W a cI L)) (σ1 := u2) (q_runV (Wd := (ax_W a cI L)) (σ := u) (q0 := 5) (ci := 4) (T := TX4) (N := 2) (As := [.int o1]) (rest := []) hx hb hml hown hts hK hP (kt_X4_sectorOf hD hc3) cw_X1_84 rfl rfl ⟨Nat.le_of_ble_eq_true rfl, Nat.le_of_ble_eq_true rfl⟩ rfl rfl rfl hl.1 rfl (Nat.le_of_ble_eq_true rfl) dX1_useFile_5) hS (fun H locs hP hS => ?_)
  refine lv_istore_n (lv' := [(2, .int r1), (0, .ref (a 11)), (1, .int o1)]) hx hb dX1_useFile_8 rfl hl (by decide) rfl (fun ls hl => ?_)
  refine lv_aload_n hx hb dX1_useFile_9 rfl (lv_at hl 1 rfl) ?_
  refine gx_checker_nodes hx hb hts hown hK hP fl_X1_23 dX1_useFile_10 ?_
  refine lv_iload_n hx hb dX1_useFile_13 rfl (lv_at hl 2 rfl) ?_
  obtain ⟨r4, u5, hc6, hF⟩ := q_bnd_some hF
  refine sx_ci (Wd := (ax_W a cI L)) (σ1 := u5) (q_runV (Wd := (ax_W a cI L)) (σ := u2) (q0 := 5) (ci := 4) (T := TX4) (N := 2) (As := [.int o1]) (rest := []) hx hb hml hown hts hK hP (kt_X4_lengthOf hD hc6) cw_X1_87 rfl rfl ⟨Nat.le_of_ble_eq_true rfl, Nat.le_of_ble_eq_true rfl⟩ rfl rfl rfl hl.1 rfl (Nat.le_of_ble_eq_true rfl) dX1_useFile_14) hS (fun H locs hP hS => ?_)
  refine lv_bipush (v := 64) hx hb dX1_useFile_17 (by decide) ?_
  refine lv_iadd hx hb dX1_useFile_19 ?_
  refine lv_iconst (v := 1) hx hb dX1_useFile_20 (by decide) ?_
  refine lv_isub hx hb dX1_useFile_21 ?_
  refine lv_bipush (v := 64) hx hb dX1_useFile_22 (by decide) ?_
  refine lv_idiv hx hb dX1_useFile_24 (by decide) ?_
  refine sx_istore_n (lv2 := [(2, .int r1), (0, .ref (a 11)), (1, .int o1)]) hx hb hF dX1_useFile_25 rfl hl (by decide) rfl (fun v7 hF ls hl => ?_)
  refine lv_aload_n hx hb dX1_useFile_26 rfl (lv_at hl 2 rfl) ?_
  refine lv_iload_n hx hb dX1_useFile_27 rfl (lv_at hl 1 rfl) ?_
  refine lv_iconst (v := 4) hx hb dX1_useFile_28 (by decide) ?_
  refine lv_bipush (v := 12) hx hb dX1_useFile_29 (by decide) ?_
  refine lv_iload_n hx hb dX1_useFile_31 rfl (lv_at hl 0 rfl) ?_
  obtain ⟨r8, u9, hc10, hF⟩ := q_bnd_some hF
  refine sx_ci (Wd := (ax_W a cI L)) (σ1 := u9) (q_runV (Wd := (ax_W a cI L)) (σ := u5) (q0 := 11) (ci := 1) (T := TX1) (N := 8) (As := [.int r1, .int 4, .int 12, .int v7]) (rest := []) hx hb hml hown hts hK hP (kt_X1_useTold hD hc10) cw_X1_92 rfl rfl ⟨Nat.le_of_ble_eq_true rfl, Nat.le_of_ble_eq_true rfl⟩ rfl rfl rfl hl.1 rfl (Nat.le_of_ble_eq_true rfl) dX1_useFile_32) hS (fun H locs hP hS => ?_)
  refine lv_pop hx hb dX1_useFile_35 rfl ?_
  refine lv_aload_n hx hb dX1_useFile_36 rfl (lv_at hl 2 rfl) ?_
  refine lv_aload_n hx hb dX1_useFile_37 rfl (lv_at hl 2 rfl) ?_
  refine gx_checker_store hx hb hts hown hK hP fl_X1_15 dX1_useFile_38 ?_
  refine lv_iload_n hx hb dX1_useFile_41 rfl (lv_at hl 1 rfl) ?_
  refine lv_bipush (v := 16) hx hb dX1_useFile_42 (by decide) ?_
  obtain ⟨r11, u12, hc13, hF⟩ := q_bnd_some hF
  refine sx_ci (Wd := (ax_W a cI L)) (σ1 := u12) (q_runV (Wd := (ax_W a cI L)) (σ := u9) (q0 := 3) (ci := 6) (T := TX6) (N := 9) (As := [.int r1, .int 16]) (rest := [.ref (a 11)]) hx hb hml hown hts hK hP (kt_X6_half hD hc13) cw_X1_96 rfl rfl ⟨Nat.le_of_ble_eq_true rfl, Nat.le_of_ble_eq_true rfl⟩ rfl rfl rfl hl.1 rfl (Nat.le_of_ble_eq_true rfl) dX1_useFile_44) hS (fun H locs hP hS => ?_)
  refine lv_iload_n hx hb dX1_useFile_47 rfl (lv_at hl 0 rfl) ?_
  refine lv_bipush (v := 12) hx hb dX1_useFile_48 (by decide) ?_
  refine lv_isub hx hb dX1_useFile_50 ?_
  obtain ⟨r14, u15, hc16, hF⟩ := q_bnd_some hF
  refine sx_cv (Wd := (ax_W a cI L)) (σ1 := u15) (q_runV (Wd := (ax_W a cI L)) (σ := u12) (q0 := 11) (ci := 1) (T := TX1) (N := 8) (As := [.int r11, .int (v7 - 12)]) (rest := []) hx hb hml hown hts hK hP (kt_X1_useIndex hD hc16) cw_X1_102 rfl rfl ⟨Nat.le_of_ble_eq_true rfl, Nat.le_of_ble_eq_true rfl⟩ rfl rfl rfl hl.1 rfl (Nat.le_of_ble_eq_true rfl) dX1_useFile_51) hS (fun H locs hP hS => ?_)
  refine lv_aload_n hx hb dX1_useFile_54 rfl (lv_at hl 2 rfl) ?_
  refine gx_checker_store hx hb hts hown hK hP fl_X1_15 dX1_useFile_55 ?_
  refine lv_iload_n hx hb dX1_useFile_58 rfl (lv_at hl 1 rfl) ?_
  refine lv_bipush (v := 17) hx hb dX1_useFile_59 (by decide) ?_
  obtain ⟨r17, u18, hc19, hF⟩ := q_bnd_some hF
  refine sx_ci (Wd := (ax_W a cI L)) (σ1 := u18) (q_runV (Wd := (ax_W a cI L)) (σ := u15) (q0 := 3) (ci := 6) (T := TX6) (N := 9) (As := [.int r1, .int 17]) (rest := []) hx hb hml hown hts hK hP (kt_X6_half hD hc19) cw_X1_96 rfl rfl ⟨Nat.le_of_ble_eq_true rfl, Nat.le_of_ble_eq_true rfl⟩ rfl rfl rfl hl.1 rfl (Nat.le_of_ble_eq_true rfl) dX1_useFile_61) hS (fun H locs hP hS => ?_)
  refine lv_istore (lv' := [(4, .int r17), (3, .int v7), (2, .int r1), (0, .ref (a 11)), (1, .int o1)]) hx hb dX1_useFile_64 hl (by decide) rfl (fun ls hl => ?_)
  refine lv_iload hx hb dX1_useFile_66 (lv_at hl 0 rfl) ?_
  refine sx_if_ne (tgt := 72) hx hb hF dX1_useFile_68 (by decide) (fun hF => ?_) (fun hF => ?_)
  · refine lv_aload_n hx hb dX1_useFile_72 rfl (lv_at hl 3 rfl) ?_
    refine lv_iload hx hb dX1_useFile_73 (lv_at hl 0 rfl) ?_
    obtain ⟨r20, u21, hc22, hF⟩ := q_bnd_some hF
    refine sx_cv (Wd := (ax_W a cI L)) (σ1 := u21) (q_runV (Wd := (ax_W a cI L)) (σ := u18) (q0 := 11) (ci := 1) (T := TX1) (N := 8) (As := [.int r17]) (rest := []) hx hb hml hown hts hK hP (kt_X1_use hD hc22) cw_X1_106 rfl rfl ⟨Nat.le_of_ble_eq_true rfl, Nat.le_of_ble_eq_true rfl⟩ rfl rfl rfl hl.1 rfl (Nat.le_of_ble_eq_true rfl) dX1_useFile_75) hS (fun H locs hP hS => ?_)
    refine lv_iconst (v := 0) hx hb dX1_useFile_78 (by decide) ?_
    refine lv_istore (lv' := [(5, .int 0), (4, .int r17), (3, .int v7), (2, .int r1), (0, .ref (a 11)), (1, .int o1)]) hx hb dX1_useFile_79 hl (by decide) rfl (fun ls hl => ?_)
    refine lv_iconst (v := 0) hx hb dX1_useFile_81 (by decide) ?_
    refine lv_istore (lv' := [(6, .int 0), (5, .int 0), (4, .int r17), (3, .int v7), (2, .int r1), (0, .ref (a 11)), (1, .int o1)]) hx hb dX1_useFile_82 hl (by decide) rfl (fun ls hl => ?_)
    exact hB84 N v7 r17 0 0 u21 ls (lv_sub hl [5, 3, 2, 1, 0] rfl) hF _ _ hP hS
  · exact sx_retv (Wd := (ax_W a cI L)) (σ := u18) hx hb hr hF hP hS hlocks dX1_useFile_71
set_option maxHeartbeats 4000000 in
set_option maxRecDepth 100000 in
theorem kt_X1_useSlot {N : Nat} {l : Launch} {D : va_G} {a : Nat → Nat} {cI : Nat → ClassId} {L : Nat → Nat} (hD : ∀ σ, va_D (ax_A a) (ax_W a cI L σ)) {o1 : Int32} {o2 : Int32} {u σ0 : q_St} {r0 : Unit} (hF : fX1_useSlot L N o1 o2 u = some (r0, σ0)) : Met l yX1_useSlot (Cond.code yX1_useSlot cX1_useSlot 3 none :: q_T) ({ frames := 0, cells := 0, slots := 0, locals := 0 } : Room) (q_P D vwCl (ax_T cI) (ax_W a cI L) [.ref (a 11), .int o1, .int o2] u) (q_Qv D vwCl (ax_W a cI L) (ax_A a) σ0) 0 0 (ax_A a) := by
  refine Met.ofW (cc := cX1_useSlot) (maxL := 3) (ret := none) (by decide) rfl ?_
  intro p e s m args below meth c s₁ B hml hv
  obtain ⟨rfl, hP, hK⟩ := hv
  have hx := B.exec
  have hb := B.bytes
  have hr := B.returns
  have hts := q_ts (atoms_spec (ws := Cond.code yX1_useSlot cX1_useSlot 3 none :: q_T) B.pre)
  have hown : s.vm.findClass RX1 = some m.cls := findClass_of_methodNamed B.named
  have hlocks := B.notSynchronized
  have hS : va_S (ax_A a) s.heap s.heap [] := va_S.rf
  have hl := lv_entry ([.ref (a 11), .int o1, .int o2]) (n := 3) (Nat.le_of_ble_eq_true rfl)
  rw [lg_entry_eq]
  generalize (lg_sl ([.ref (a 11), .int o1, .int o2]) ++ List.replicate (3 - (lg_sl ([.ref (a 11), .int o1, .int o2])).length) Slot.unset).toArray = ls at hl ⊢
  have hl : lv_has ls 3 [(0, .ref (a 11)), (1, .int o1), (2, .int o2)] := hl
  have hB22 : ∀ (u : q_St) (ls : Array Slot), lv_has ls 3 [(0, .ref (a 11))] → fX1_useSlot_b22 L N u = some (r0, σ0) → ∀ (H : Heap) (locs : List Loc), va_P D vwCl (ax_W a cI L u) H → va_S (ax_A a) s.heap H locs → W p l e (headSpec (Cond.code yX1_useSlot cX1_useSlot 3 none :: q_T) ({ frames := 0, cells := 0, slots := 0, locals := 0 } : Room)).room s m ([.ref (a 11), .int o1, .int o2] : List Value).toArray below meth c H locs 0 0 (MQ below (q_Qv D vwCl (ax_W a cI L) (ax_A a) σ0) ([.ref (a 11), .int o1, .int o2] : List Value).toArray s 0 0 (ax_A a)) (F0 m 22 ls []) := by
    intro u ls hl hF _ _ hP hS
    unfold fX1_useSlot_b22 at hF
    refine lv_aload_n hx hb dX1_useSlot_22 rfl (lv_at hl 0 rfl) ?_
    refine lv_dup hx hb dX1_useSlot_23 rfl ?_
    refine gx_checker_wrong hx hb hts hown hK hP fl_X1_43 dX1_useSlot_24 ?_
    refine lv_iconst (v := 1) hx hb dX1_useSlot_27 (by decide) ?_
    refine lv_iadd hx hb dX1_useSlot_28 ?_
    refine px_checker_wrong hx hb hts hown hK hP fl_X1_43 hD hS hF dX1_useSlot_29 (fun u1 H locs hF hP hS => ?_)
    exact sx_retv (Wd := (ax_W a cI L)) (σ := u1) hx hb hr hF hP hS hlocks dX1_useSlot_32
  unfold fX1_useSlot at hF
  refine lv_iload_n hx hb dX1_useSlot_0 rfl (lv_at hl 2 rfl) ?_
  refine sx_if_lt (tgt := 22) hx hb hF dX1_useSlot_1 (by decide) (fun hF => ?_) (fun hF => ?_)
  · exact hB22 u ls (lv_sub hl [0] rfl) hF _ _ hP hS
  · refine lv_iload_n hx hb dX1_useSlot_4 rfl (lv_at hl 2 rfl) ?_
    refine lv_aload_n hx hb dX1_useSlot_5 rfl (lv_at hl 0 rfl) ?_
    refine gx_checker_slotsOf hx hb hts hown hK hP fl_X1_37 dX1_useSlot_6 ?_
    refine nx_checker_slotsOf hx hb hK hP dX1_useSlot_9 ?_
    refine sx_icmp_ge (tgt := 22) hx hb hF dX1_useSlot_10 (by decide) (fun hF => ?_) (fun hF => ?_)
    · exact hB22 u ls (lv_sub hl [0] rfl) hF _ _ hP hS
    · refine lv_iload_n hx hb dX1_useSlot_13 rfl (lv_at hl 2 rfl) ?_
      refine lv_aload_n hx hb dX1_useSlot_14 rfl (lv_at hl 0 rfl) ?_
      refine gx_checker_foundIn hx hb hts hown hK hP fl_X1_40 dX1_useSlot_15 ?_
      refine nx_checker_foundIn hx hb hK hP dX1_useSlot_18 ?_
      refine sx_icmp_lt (tgt := 33) hx hb hF dX1_useSlot_19 (by decide) (fun hF => ?_) (fun hF => ?_)
      · refine lv_aload_n hx hb dX1_useSlot_33 rfl (lv_at hl 0 rfl) ?_
        refine gx_checker_slotsOf hx hb hts hown hK hP fl_X1_37 dX1_useSlot_34 ?_
        refine lv_iload_n hx hb dX1_useSlot_37 rfl (lv_at hl 2 rfl) ?_
        refine lv_dup2_11 hx hb dX1_useSlot_38 rfl rfl ?_
        refine lx_checker_slotsOf hx hb hK hP hF dX1_useSlot_39 (fun v2 hF => ?_)
        refine lv_iconst (v := 1) hx hb dX1_useSlot_40 (by decide) ?_
        refine lv_iadd hx hb dX1_useSlot_41 ?_
        refine ux_checker_slotsOf hx hb hK hP hD hS hF dX1_useSlot_42 (fun u3 H locs hF hP hS => ?_)
        refine lv_aload_n hx hb dX1_useSlot_43 rfl (lv_at hl 0 rfl) ?_
        refine gx_checker_foundIn hx hb hts hown hK hP fl_X1_40 dX1_useSlot_44 ?_
        refine lv_iload_n hx hb dX1_useSlot_47 rfl (lv_at hl 2 rfl) ?_
        refine lv_iload_n hx hb dX1_useSlot_48 rfl (lv_at hl 1 rfl) ?_
        refine ux_checker_foundIn hx hb hK hP hD hS hF dX1_useSlot_49 (fun u4 H locs hF hP hS => ?_)
        exact sx_retv (Wd := (ax_W a cI L)) (σ := u4) hx hb hr hF hP hS hlocks dX1_useSlot_50
      · exact hB22 u ls (lv_sub hl [0] rfl) hF _ _ hP hS
set_option maxHeartbeats 4000000 in
set_option maxRecDepth 100000 in
theorem kt_X1_useDirectory {N : Nat} {l : Launch} {D : va_G} {a : Nat → Nat} {cI : Nat → ClassId} {L : Nat → Nat} (hD : ∀ σ, va_D (ax_A a) (ax_W a cI L σ)) {o1 : Int32} {u σ0 : q_St} {r0 : Unit} (hF : fX1_useDirectory L N o1 u = some (r0, σ0)) : Met l yX1_useDirectory (Cond.code yX1_useDirectory cX1_useDirectory 5 none :: q_T) ({ frames := 3, cells := 0, slots := 0, locals := 68 } : Room) (q_P D vwCl (ax_T cI) (ax_W a cI L) [.ref (a 11), .int o1] u) (q_Qv D vwCl (ax_W a cI L) (ax_A a) σ0) 0 0 (ax_A a) := by
  refine Met.ofW (cc := cX1_useDirectory) (maxL := 5) (ret := none) (by decide) rfl ?_
  intro p e s m args below meth c s₁ B hml hv
  obtain ⟨rfl, hP, hK⟩ := hv
  have hx := B.exec
  have hb := B.bytes
  have hr := B.returns
  have hts := q_ts (atoms_spec (ws := Cond.code yX1_useDirectory cX1_useDirectory 5 none :: q_T) B.pre)
  have hown : s.vm.findClass RX1 = some m.cls := findClass_of_methodNamed B.named
  have hlocks := B.notSynchronized
  have hS : va_S (ax_A a) s.heap s.heap [] := va_S.rf
  have hl := lv_entry ([.ref (a 11), .int o1]) (n := 5) (Nat.le_of_ble_eq_true rfl)
  rw [lg_entry_eq]
  generalize (lg_sl ([.ref (a 11), .int o1]) ++ List.replicate (5 - (lg_sl ([.ref (a 11), .int o1])).length) Slot.unset).toArray = ls at hl ⊢
  have hl : lv_has ls 5 [(0, .ref (a 11)), (1, .int o1)] := hl
  have hB87 : ∀ (ih2 : Int32 → Int32 → q_St → Option (Unit × q_St)) (hi2 : ∀ (x1 : Int32) (x2 : Int32) (u : q_St) (ls : Array Slot), lv_has ls 5 [(0, .ref (a 11)), (1, .int x1), (2, .int x2)] → ih2 x1 x2 u = some (r0, σ0) → ∀ (H : Heap) (locs : List Loc), va_P D vwCl (ax_W a cI L u) H → va_S (ax_A a) s.heap H locs → W p l e (headSpec (Cond.code yX1_useDirectory cX1_useDirectory 5 none :: q_T) ({ frames := 3, cells := 0, slots := 0, locals := 68 } : Room)).room s m ([.ref (a 11), .int o1] : List Value).toArray below meth c H locs 0 0 (MQ below (q_Qv D vwCl (ax_W a cI L) (ax_A a) σ0) ([.ref (a 11), .int o1] : List Value).toArray s 0 0 (ax_A a)) (F0 m 2 ls [])), ∀ (x1 : Int32) (x2 : Int32) (u : q_St) (ls : Array Slot), lv_has ls 5 [(0, .ref (a 11)), (1, .int x1), (2, .int x2)] → fX1_useDirectory_b87 L N ih2 x1 x2 u = some (r0, σ0) → ∀ (H : Heap) (locs : List Loc), va_P D vwCl (ax_W a cI L u) H → va_S (ax_A a) s.heap H locs → W p l e (headSpec (Cond.code yX1_useDirectory cX1_useDirectory 5 none :: q_T) ({ frames := 3, cells := 0, slots := 0, locals := 68 } : Room)).room s m ([.ref (a 11), .int o1] : List Value).toArray below meth c H locs 0 0 (MQ below (q_Qv D vwCl (ax_W a cI L) (ax_A a) σ0) ([.ref (a 11), .int o1] : List Value).toArray s 0 0 (ax_A a)) (F0 m 87 ls []) := by
    intro ih2 hi2 x1 x2 u ls hl hF _ _ hP hS
    unfold fX1_useDirectory_b87 at hF
    refine sx_iinc (d := 1) (k := 2) (lv2 := [(0, .ref (a 11)), (1, .int x1)]) hx hb hF dX1_useDirectory_87 hl rfl (by decide) (by decide) rfl (fun v10 hF ls hl => ?_)
    refine lv_goto (tgt := 2) hx hb dX1_useDirectory_90 (by decide) ?_
    exact hi2 x1 v10 u ls (lv_sub hl [1, 2, 0] rfl) hF _ _ hP hS
  have hB81 : ∀ (ih2 : Int32 → Int32 → q_St → Option (Unit × q_St)) (hi2 : ∀ (x1 : Int32) (x2 : Int32) (u : q_St) (ls : Array Slot), lv_has ls 5 [(0, .ref (a 11)), (1, .int x1), (2, .int x2)] → ih2 x1 x2 u = some (r0, σ0) → ∀ (H : Heap) (locs : List Loc), va_P D vwCl (ax_W a cI L u) H → va_S (ax_A a) s.heap H locs → W p l e (headSpec (Cond.code yX1_useDirectory cX1_useDirectory 5 none :: q_T) ({ frames := 3, cells := 0, slots := 0, locals := 68 } : Room)).room s m ([.ref (a 11), .int o1] : List Value).toArray below meth c H locs 0 0 (MQ below (q_Qv D vwCl (ax_W a cI L) (ax_A a) σ0) ([.ref (a 11), .int o1] : List Value).toArray s 0 0 (ax_A a)) (F0 m 2 ls [])), ∀ (ih42 : Int32 → Int32 → Int32 → Int32 → q_St → Option (Unit × q_St)) (hi42 : ∀ (x1 : Int32) (x2 : Int32) (x3 : Int32) (x4 : Int32) (u : q_St) (ls : Array Slot), lv_has ls 5 [(0, .ref (a 11)), (1, .int x1), (2, .int x2), (3, .int x3), (4, .int x4)] → ih42 x1 x2 x3 x4 u = some (r0, σ0) → ∀ (H : Heap) (locs : List Loc), va_P D vwCl (ax_W a cI L u) H → va_S (ax_A a) s.heap H locs → W p l e (headSpec (Cond.code yX1_useDirectory cX1_useDirectory 5 none :: q_T) ({ frames := 3, cells := 0, slots := 0, locals := 68 } : Room)).room s m ([.ref (a 11), .int o1] : List Value).toArray below meth c H locs 0 0 (MQ below (q_Qv D vwCl (ax_W a cI L) (ax_A a) σ0) ([.ref (a 11), .int o1] : List Value).toArray s 0 0 (ax_A a)) (F0 m 42 ls [])), ∀ (x1 : Int32) (x2 : Int32) (x3 : Int32) (x4 : Int32) (u : q_St) (ls : Array Slot), lv_has ls 5 [(0, .ref (a 11)), (1, .int x1), (2, .int x2), (3, .int x3), (4, .int x4)] → fX1_useDirectory_b81 L N ih2 ih42 x1 x2 x3 x4 u = some (r0, σ0) → ∀ (H : Heap) (locs : List Loc), va_P D vwCl (ax_W a cI L u) H → va_S (ax_A a) s.heap H locs → W p l e (headSpec (Cond.code yX1_useDirectory cX1_useDirectory 5 none :: q_T) ({ frames := 3, cells := 0, slots := 0, locals := 68 } : Room)).room s m ([.ref (a 11), .int o1] : List Value).toArray below meth c H locs 0 0 (MQ below (q_Qv D vwCl (ax_W a cI L) (ax_A a) σ0) ([.ref (a 11), .int o1] : List Value).toArray s 0 0 (ax_A a)) (F0 m 81 ls []) := by
    intro ih2 hi2 ih42 hi42 x1 x2 x3 x4 u ls hl hF _ _ hP hS
    unfold fX1_useDirectory_b81 at hF
    refine sx_iinc (d := 1) (k := 4) (lv2 := [(0, .ref (a 11)), (1, .int x1), (2, .int x2), (3, .int x3)]) hx hb hF dX1_useDirectory_81 hl rfl (by decide) (by decide) rfl (fun v14 hF ls hl => ?_)
    refine lv_goto (tgt := 42) hx hb dX1_useDirectory_84 (by decide) ?_
    exact hi42 x1 x2 x3 v14 u ls (lv_sub hl [1, 2, 3, 4, 0] rfl) hF _ _ hP hS
  have hB42 : ∀ (ih2 : Int32 → Int32 → q_St → Option (Unit × q_St)) (hi2 : ∀ (x1 : Int32) (x2 : Int32) (u : q_St) (ls : Array Slot), lv_has ls 5 [(0, .ref (a 11)), (1, .int x1), (2, .int x2)] → ih2 x1 x2 u = some (r0, σ0) → ∀ (H : Heap) (locs : List Loc), va_P D vwCl (ax_W a cI L u) H → va_S (ax_A a) s.heap H locs → W p l e (headSpec (Cond.code yX1_useDirectory cX1_useDirectory 5 none :: q_T) ({ frames := 3, cells := 0, slots := 0, locals := 68 } : Room)).room s m ([.ref (a 11), .int o1] : List Value).toArray below meth c H locs 0 0 (MQ below (q_Qv D vwCl (ax_W a cI L) (ax_A a) σ0) ([.ref (a 11), .int o1] : List Value).toArray s 0 0 (ax_A a)) (F0 m 2 ls [])), ∀ (n : Nat) (x1 : Int32) (x2 : Int32) (x3 : Int32) (x4 : Int32) (u : q_St) (ls : Array Slot), lv_has ls 5 [(0, .ref (a 11)), (1, .int x1), (2, .int x2), (3, .int x3), (4, .int x4)] → q_lp (fX1_useDirectory_b42 L N ih2) (fun _ _ _ _ _ => none) n x1 x2 x3 x4 u = some (r0, σ0) → ∀ (H : Heap) (locs : List Loc), va_P D vwCl (ax_W a cI L u) H → va_S (ax_A a) s.heap H locs → W p l e (headSpec (Cond.code yX1_useDirectory cX1_useDirectory 5 none :: q_T) ({ frames := 3, cells := 0, slots := 0, locals := 68 } : Room)).room s m ([.ref (a 11), .int o1] : List Value).toArray below meth c H locs 0 0 (MQ below (q_Qv D vwCl (ax_W a cI L) (ax_A a) σ0) ([.ref (a 11), .int o1] : List Value).toArray s 0 0 (ax_A a)) (F0 m 42 ls []) := by
    intro ih2 hi2 n
    induction n with
    | zero => intro x1 x2 x3 x4 u ls hl hF; exact absurd (show (none : Option (Unit × q_St)) = some _ from hF) (fun h => nomatch h)
    | succ n hi42 =>
      intro x1 x2 x3 x4 u ls hl hF _ _ hP hS
      obtain ⟨ih42, hih⟩ : ∃ q, q = q_lp (fX1_useDirectory_b42 L N ih2) (fun _ _ _ _ _ => none) n := ⟨_, rfl⟩
      rw [← hih] at hi42
      have hF : fX1_useDirectory_b42 L N ih2 (q_lp (fX1_useDirectory_b42 L N ih2) (fun _ _ _ _ _ => none) n) x1 x2 x3 x4 u = some (r0, σ0) := hF
      rw [← hih] at hF
      clear hih
      unfold fX1_useDirectory_b42 at hF
      refine lv_iload hx hb dX1_useDirectory_42 (lv_at hl 4 rfl) ?_
      refine lv_iconst (v := 4) hx hb dX1_useDirectory_44 (by decide) ?_
      refine sx_icmp_ge (tgt := 87) hx hb hF dX1_useDirectory_45 (by decide) (fun hF => ?_) (fun hF => ?_)
      · exact hB87 ih2 hi2 x1 x2 u ls (lv_sub hl [0, 1, 2] rfl) hF _ _ hP hS
      · refine lv_aload_n hx hb dX1_useDirectory_48 rfl (lv_at hl 0 rfl) ?_
        refine gx_checker_store hx hb hts hown hK hP fl_X1_15 dX1_useDirectory_49 ?_
        refine lv_iload_n hx hb dX1_useDirectory_52 rfl (lv_at hl 3 rfl) ?_
        refine lv_iload hx hb dX1_useDirectory_53 (lv_at hl 4 rfl) ?_
        obtain ⟨r11, u12, hc13, hF⟩ := q_bnd_some hF
        refine sx_cl (Wd := (ax_W a cI L)) (σ1 := u12) (q_runV (Wd := (ax_W a cI L)) (σ := u) (q0 := 3) (ci := 6) (T := TX6) (N := 9) (As := [.int x3, .int x4]) (rest := []) hx hb hml hown hts hK hP (kt_X6_word hD hc13) cw_X1_117 rfl rfl ⟨Nat.le_of_ble_eq_true rfl, Nat.le_of_ble_eq_true rfl⟩ rfl rfl rfl hl.1 rfl (Nat.le_of_ble_eq_true rfl) dX1_useDirectory_55) hS (fun H locs hP hS => ?_)
        refine lv_lconst (v := 0) hx hb dX1_useDirectory_58 (by decide) ?_
        refine W.lcmp hx hb dX1_useDirectory_59 ?_
        refine sx_if_eq (tgt := 81) hx hb hF dX1_useDirectory_60 (by decide) (fun hF => ?_) (fun hF => ?_)
        · exact hB81 ih2 hi2 ih42 hi42 x1 x2 x3 x4 u12 ls (lv_sub hl [0, 1, 2, 3, 4] rfl) hF _ _ hP hS
        · refine lv_aload_n hx hb dX1_useDirectory_63 rfl (lv_at hl 0 rfl) ?_
          refine lv_iload_n hx hb dX1_useDirectory_64 rfl (lv_at hl 1 rfl) ?_
          refine lv_aload_n hx hb dX1_useDirectory_65 rfl (lv_at hl 0 rfl) ?_
          refine gx_checker_store hx hb hts hown hK hP fl_X1_15 dX1_useDirectory_66 ?_
          refine lv_iload_n hx hb dX1_useDirectory_69 rfl (lv_at hl 3 rfl) ?_
          refine lv_bipush (v := 16) hx hb dX1_useDirectory_70 (by decide) ?_
          refine lv_iload hx hb dX1_useDirectory_72 (lv_at hl 4 rfl) ?_
          refine lv_iadd hx hb dX1_useDirectory_74 ?_
          obtain ⟨r15, u16, hc17, hF⟩ := q_bnd_some hF
          refine sx_ci (Wd := (ax_W a cI L)) (σ1 := u16) (q_runV (Wd := (ax_W a cI L)) (σ := u12) (q0 := 3) (ci := 6) (T := TX6) (N := 9) (As := [.int x3, .int (16 + x4)]) (rest := [.int x1, .ref (a 11)]) hx hb hml hown hts hK hP (kt_X6_half hD hc17) cw_X1_96 rfl rfl ⟨Nat.le_of_ble_eq_true rfl, Nat.le_of_ble_eq_true rfl⟩ rfl rfl rfl hl.1 rfl (Nat.le_of_ble_eq_true rfl) dX1_useDirectory_75) hS (fun H locs hP hS => ?_)
          obtain ⟨r18, u19, hc20, hF⟩ := q_bnd_some hF
          refine sx_cv (Wd := (ax_W a cI L)) (σ1 := u19) (q_runV (Wd := (ax_W a cI L)) (σ := u16) (q0 := 11) (ci := 1) (T := TX1) (N := 8) (As := [.int x1, .int r15]) (rest := []) hx hb hml hown hts hK hP (kt_X1_useSlot hD hc20) cw_X1_121 rfl rfl ⟨Nat.le_of_ble_eq_true rfl, Nat.le_of_ble_eq_true rfl⟩ rfl rfl rfl hl.1 rfl (Nat.le_of_ble_eq_true rfl) dX1_useDirectory_78) hS (fun H locs hP hS => ?_)
          exact hB81 ih2 hi2 ih42 hi42 x1 x2 x3 x4 u19 ls (lv_sub hl [0, 1, 2, 3, 4] rfl) hF _ _ hP hS
  have hB2 : ∀ (n : Nat) (x1 : Int32) (x2 : Int32) (u : q_St) (ls : Array Slot), lv_has ls 5 [(0, .ref (a 11)), (1, .int x1), (2, .int x2)] → q_lp (fX1_useDirectory_b2 L N) (fun _ _ _ => none) n x1 x2 u = some (r0, σ0) → ∀ (H : Heap) (locs : List Loc), va_P D vwCl (ax_W a cI L u) H → va_S (ax_A a) s.heap H locs → W p l e (headSpec (Cond.code yX1_useDirectory cX1_useDirectory 5 none :: q_T) ({ frames := 3, cells := 0, slots := 0, locals := 68 } : Room)).room s m ([.ref (a 11), .int o1] : List Value).toArray below meth c H locs 0 0 (MQ below (q_Qv D vwCl (ax_W a cI L) (ax_A a) σ0) ([.ref (a 11), .int o1] : List Value).toArray s 0 0 (ax_A a)) (F0 m 2 ls []) := by
    intro n
    induction n with
    | zero => intro x1 x2 u ls hl hF; exact absurd (show (none : Option (Unit × q_St)) = some _ from hF) (fun h => nomatch h)
    | succ n hi2 =>
      intro x1 x2 u ls hl hF _ _ hP hS
      obtain ⟨ih2, hih⟩ : ∃ q, q = q_lp (fX1_useDirectory_b2 L N) (fun _ _ _ => none) n := ⟨_, rfl⟩
      rw [← hih] at hi2
      have hF : fX1_useDirectory_b2 L N (q_lp (fX1_useDirectory_b2 L N) (fun _ _ _ => none) n) x1 x2 u = some (r0, σ0) := hF
      rw [← hih] at hF
      clear hih
      unfold fX1_useDirectory_b2 at hF
      refine lv_iload_n hx hb dX1_useDirectory_2 rfl (lv_at hl 2 rfl) ?_
      refine lv_bipush (v := 12) hx hb dX1_useDirectory_3 (by decide) ?_
      refine sx_icmp_ge (tgt := 93) hx hb hF dX1_useDirectory_5 (by decide) (fun hF => ?_) (fun hF => ?_)
      · exact sx_retv (Wd := (ax_W a cI L)) (σ := u) hx hb hr hF hP hS hlocks dX1_useDirectory_93
      · refine lv_aload_n hx hb dX1_useDirectory_8 rfl (lv_at hl 0 rfl) ?_
        refine gx_checker_store hx hb hts hown hK hP fl_X1_15 dX1_useDirectory_9 ?_
        refine lv_aload_n hx hb dX1_useDirectory_12 rfl (lv_at hl 0 rfl) ?_
        refine gx_checker_nodes hx hb hts hown hK hP fl_X1_23 dX1_useDirectory_13 ?_
        refine lv_iload_n hx hb dX1_useDirectory_16 rfl (lv_at hl 1 rfl) ?_
        obtain ⟨r1, u2, hc3, hF⟩ := q_bnd_some hF
        refine sx_ci (Wd := (ax_W a cI L)) (σ1 := u2) (q_runV (Wd := (ax_W a cI L)) (σ := u) (q0 := 5) (ci := 4) (T := TX4) (N := 2) (As := [.int x1]) (rest := [.ref (a 3)]) hx hb hml hown hts hK hP (kt_X4_sectorOf hD hc3) cw_X1_84 rfl rfl ⟨Nat.le_of_ble_eq_true rfl, Nat.le_of_ble_eq_true rfl⟩ rfl rfl rfl hl.1 rfl (Nat.le_of_ble_eq_true rfl) dX1_useDirectory_17) hS (fun H locs hP hS => ?_)
        refine lv_iconst (v := 4) hx hb dX1_useDirectory_20 (by decide) ?_
        refine lv_iload_n hx hb dX1_useDirectory_21 rfl (lv_at hl 2 rfl) ?_
        refine lv_iadd hx hb dX1_useDirectory_22 ?_
        obtain ⟨r4, u5, hc6, hF⟩ := q_bnd_some hF
        refine sx_ci (Wd := (ax_W a cI L)) (σ1 := u5) (q_runV (Wd := (ax_W a cI L)) (σ := u2) (q0 := 3) (ci := 6) (T := TX6) (N := 9) (As := [.int r1, .int (4 + x2)]) (rest := []) hx hb hml hown hts hK hP (kt_X6_half hD hc6) cw_X1_96 rfl rfl ⟨Nat.le_of_ble_eq_true rfl, Nat.le_of_ble_eq_true rfl⟩ rfl rfl rfl hl.1 rfl (Nat.le_of_ble_eq_true rfl) dX1_useDirectory_23) hS (fun H locs hP hS => ?_)
        refine lv_istore_n (lv' := [(3, .int r4), (0, .ref (a 11)), (1, .int x1), (2, .int x2)]) hx hb dX1_useDirectory_26 rfl hl (by decide) rfl (fun ls hl => ?_)
        refine lv_iload_n hx hb dX1_useDirectory_27 rfl (lv_at hl 0 rfl) ?_
        refine sx_if_ne (tgt := 34) hx hb hF dX1_useDirectory_28 (by decide) (fun hF => ?_) (fun hF => ?_)
        · refine lv_aload_n hx hb dX1_useDirectory_34 rfl (lv_at hl 1 rfl) ?_
          refine lv_iload_n hx hb dX1_useDirectory_35 rfl (lv_at hl 0 rfl) ?_
          obtain ⟨r7, u8, hc9, hF⟩ := q_bnd_some hF
          refine sx_cv (Wd := (ax_W a cI L)) (σ1 := u8) (q_runV (Wd := (ax_W a cI L)) (σ := u5) (q0 := 11) (ci := 1) (T := TX1) (N := 8) (As := [.int r4]) (rest := []) hx hb hml hown hts hK hP (kt_X1_use hD hc9) cw_X1_106 rfl rfl ⟨Nat.le_of_ble_eq_true rfl, Nat.le_of_ble_eq_true rfl⟩ rfl rfl rfl hl.1 rfl (Nat.le_of_ble_eq_true rfl) dX1_useDirectory_36) hS (fun H locs hP hS => ?_)
          refine lv_iconst (v := 0) hx hb dX1_useDirectory_39 (by decide) ?_
          refine lv_istore (lv' := [(4, .int 0), (3, .int r4), (0, .ref (a 11)), (1, .int x1), (2, .int x2)]) hx hb dX1_useDirectory_40 hl (by decide) rfl (fun ls hl => ?_)
          exact hB42 ih2 hi2 N x1 x2 r4 0 u8 ls (lv_sub hl [2, 3, 4, 1, 0] rfl) hF _ _ hP hS
        · refine lv_goto (tgt := 87) hx hb dX1_useDirectory_31 (by decide) ?_
          exact hB87 ih2 hi2 x1 x2 u5 ls (lv_sub hl [1, 2, 3] rfl) hF _ _ hP hS
  unfold fX1_useDirectory at hF
  refine lv_iconst (v := 0) hx hb dX1_useDirectory_0 (by decide) ?_
  refine lv_istore_n (lv' := [(2, .int 0), (0, .ref (a 11)), (1, .int o1)]) hx hb dX1_useDirectory_1 rfl hl (by decide) rfl (fun ls hl => ?_)
  exact hB2 N o1 0 u ls (lv_sub hl [1, 2, 0] rfl) hF _ _ hP hS
set_option maxHeartbeats 4000000 in
set_option maxRecDepth 100000 in
theorem kt_X1_useLaid {N : Nat} {l : Launch} {D : va_G} {a : Nat → Nat} {cI : Nat → ClassId} {L : Nat → Nat} (hD : ∀ σ, va_D (ax_A a) (ax_W a cI L σ)) {o1 : Int32} {u σ0 : q_St} {r0 : Unit} (hF : fX1_useLaid L N o1 u = some (r0, σ0)) : Met l yX1_useLaid (Cond.code yX1_useLaid cX1_useLaid 4 none :: q_T) ({ frames := 4, cells := 0, slots := 0, locals := 89 } : Room) (q_P D vwCl (ax_T cI) (ax_W a cI L) [.ref (a 11), .int o1] u) (q_Qv D vwCl (ax_W a cI L) (ax_A a) σ0) 0 0 (ax_A a) := by
  refine Met.ofW (cc := cX1_useLaid) (maxL := 4) (ret := none) (by decide) rfl ?_
  intro p e s m args below meth c s₁ B hml hv
  obtain ⟨rfl, hP, hK⟩ := hv
  have hx := B.exec
  have hb := B.bytes
  have hr := B.returns
  have hts := q_ts (atoms_spec (ws := Cond.code yX1_useLaid cX1_useLaid 4 none :: q_T) B.pre)
  have hown : s.vm.findClass RX1 = some m.cls := findClass_of_methodNamed B.named
  have hlocks := B.notSynchronized
  have hS : va_S (ax_A a) s.heap s.heap [] := va_S.rf
  have hl := lv_entry ([.ref (a 11), .int o1]) (n := 4) (Nat.le_of_ble_eq_true rfl)
  rw [lg_entry_eq]
  generalize (lg_sl ([.ref (a 11), .int o1]) ++ List.replicate (4 - (lg_sl ([.ref (a 11), .int o1])).length) Slot.unset).toArray = ls at hl ⊢
  have hl : lv_has ls 4 [(0, .ref (a 11)), (1, .int o1)] := hl
  have hB19 : ∀ (n : Nat) (x2 : Int32) (x3 : Int32) (u : q_St) (ls : Array Slot), lv_has ls 4 [(0, .ref (a 11)), (2, .int x2), (3, .int x3)] → q_lp (fX1_useLaid_b19 L N) (fun _ _ _ => none) n x2 x3 u = some (r0, σ0) → ∀ (H : Heap) (locs : List Loc), va_P D vwCl (ax_W a cI L u) H → va_S (ax_A a) s.heap H locs → W p l e (headSpec (Cond.code yX1_useLaid cX1_useLaid 4 none :: q_T) ({ frames := 4, cells := 0, slots := 0, locals := 89 } : Room)).room s m ([.ref (a 11), .int o1] : List Value).toArray below meth c H locs 0 0 (MQ below (q_Qv D vwCl (ax_W a cI L) (ax_A a) σ0) ([.ref (a 11), .int o1] : List Value).toArray s 0 0 (ax_A a)) (F0 m 19 ls []) := by
    intro n
    induction n with
    | zero => intro x2 x3 u ls hl hF; exact absurd (show (none : Option (Unit × q_St)) = some _ from hF) (fun h => nomatch h)
    | succ n hi19 =>
      intro x2 x3 u ls hl hF _ _ hP hS
      obtain ⟨ih19, hih⟩ : ∃ q, q = q_lp (fX1_useLaid_b19 L N) (fun _ _ _ => none) n := ⟨_, rfl⟩
      rw [← hih] at hi19
      have hF : fX1_useLaid_b19 L N (q_lp (fX1_useLaid_b19 L N) (fun _ _ _ => none) n) x2 x3 u = some (r0, σ0) := hF
      rw [← hih] at hF
      clear hih
      unfold fX1_useLaid_b19 at hF
      refine lv_iload_n hx hb dX1_useLaid_19 rfl (lv_at hl 2 rfl) ?_
      refine lv_aload_n hx hb dX1_useLaid_20 rfl (lv_at hl 0 rfl) ?_
      refine gx_checker_disk hx hb hts hown hK hP fl_X1_9 dX1_useLaid_21 ?_
      refine gx_disk_bandSize hx hb hts hown hK hP fl_X1_112 dX1_useLaid_24 ?_
      refine sx_icmp_ge (tgt := 43) hx hb hF dX1_useLaid_27 (by decide) (fun hF => ?_) (fun hF => ?_)
      · exact sx_retv (Wd := (ax_W a cI L)) (σ := u) hx hb hr hF hP hS hlocks dX1_useLaid_43
      · refine lv_aload_n hx hb dX1_useLaid_30 rfl (lv_at hl 0 rfl) ?_
        refine lv_iload_n hx hb dX1_useLaid_31 rfl (lv_at hl 1 rfl) ?_
        refine lv_iload_n hx hb dX1_useLaid_32 rfl (lv_at hl 2 rfl) ?_
        refine lv_iadd hx hb dX1_useLaid_33 ?_
        obtain ⟨r5, u6, hc7, hF⟩ := q_bnd_some hF
        refine sx_cv (Wd := (ax_W a cI L)) (σ1 := u6) (q_runV (Wd := (ax_W a cI L)) (σ := u) (q0 := 11) (ci := 1) (T := TX1) (N := 8) (As := [.int (x2 + x3)]) (rest := []) hx hb hml hown hts hK hP (kt_X1_use hD hc7) cw_X1_106 rfl rfl ⟨Nat.le_of_ble_eq_true rfl, Nat.le_of_ble_eq_true rfl⟩ rfl rfl rfl hl.1 rfl (Nat.le_of_ble_eq_true rfl) dX1_useLaid_34) hS (fun H locs hP hS => ?_)
        refine sx_iinc (d := 1) (k := 2) (lv2 := [(0, .ref (a 11)), (2, .int x2)]) hx hb hF dX1_useLaid_37 hl rfl (by decide) (by decide) rfl (fun v8 hF ls hl => ?_)
        refine lv_goto (tgt := 19) hx hb dX1_useLaid_40 (by decide) ?_
        exact hi19 x2 v8 u6 ls (lv_sub hl [1, 2, 0] rfl) hF _ _ hP hS
  unfold fX1_useLaid at hF
  refine lv_aload_n hx hb dX1_useLaid_0 rfl (lv_at hl 0 rfl) ?_
  refine gx_checker_nodes hx hb hts hown hK hP fl_X1_23 dX1_useLaid_1 ?_
  refine lv_iload_n hx hb dX1_useLaid_4 rfl (lv_at hl 1 rfl) ?_
  obtain ⟨r1, u2, hc3, hF⟩ := q_bnd_some hF
  refine sx_ci (Wd := (ax_W a cI L)) (σ1 := u2) (q_runV (Wd := (ax_W a cI L)) (σ := u) (q0 := 5) (ci := 4) (T := TX4) (N := 2) (As := [.int o1]) (rest := []) hx hb hml hown hts hK hP (kt_X4_holderOf hD hc3) cw_X1_109 rfl rfl ⟨Nat.le_of_ble_eq_true rfl, Nat.le_of_ble_eq_true rfl⟩ rfl rfl rfl hl.1 rfl (Nat.le_of_ble_eq_true rfl) dX1_useLaid_5) hS (fun H locs hP hS => ?_)
  refine lv_aload_n hx hb dX1_useLaid_8 rfl (lv_at hl 0 rfl) ?_
  refine gx_checker_disk hx hb hts hown hK hP fl_X1_9 dX1_useLaid_9 ?_
  refine gx_disk_bandSize hx hb hts hown hK hP fl_X1_112 dX1_useLaid_12 ?_
  refine lv_imul hx hb dX1_useLaid_15 ?_
  refine sx_istore_n (lv2 := [(0, .ref (a 11)), (1, .int o1)]) hx hb hF dX1_useLaid_16 rfl hl (by decide) rfl (fun v4 hF ls hl => ?_)
  refine lv_iconst (v := 0) hx hb dX1_useLaid_17 (by decide) ?_
  refine lv_istore_n (lv' := [(3, .int 0), (2, .int v4), (0, .ref (a 11)), (1, .int o1)]) hx hb dX1_useLaid_18 rfl hl (by decide) rfl (fun ls hl => ?_)
  exact hB19 N v4 0 u2 ls (lv_sub hl [2, 1, 0] rfl) hF _ _ hP hS
set_option maxHeartbeats 4000000 in
set_option maxRecDepth 100000 in
theorem kt_X1_wrongThings {N : Nat} {l : Launch} {D : va_G} {a : Nat → Nat} {cI : Nat → ClassId} {L : Nat → Nat} (hD : ∀ σ, va_D (ax_A a) (ax_W a cI L σ))  {u σ0 : q_St} {r0 : Int32} (hF : fX1_wrongThings L N u = some (r0, σ0)) : Met l yX1_wrongThings (Cond.code yX1_wrongThings cX1_wrongThings 2 (some .int) :: q_T) ({ frames := 6, cells := 0, slots := 0, locals := 144 } : Room) (q_P D vwCl (ax_T cI) (ax_W a cI L) [.ref (a 11)] u) (q_Qi D vwCl (ax_W a cI L) (ax_A a) r0 σ0) 0 0 (ax_A a) := by
  refine Met.ofW (cc := cX1_wrongThings) (maxL := 2) (ret := (some .int)) (by decide) rfl ?_
  intro p e s m args below meth c s₁ B hml hv
  obtain ⟨rfl, hP, hK⟩ := hv
  have hx := B.exec
  have hb := B.bytes
  have hr := B.returns
  have hts := q_ts (atoms_spec (ws := Cond.code yX1_wrongThings cX1_wrongThings 2 (some .int) :: q_T) B.pre)
  have hown : s.vm.findClass RX1 = some m.cls := findClass_of_methodNamed B.named
  have hlocks := B.notSynchronized
  have hS : va_S (ax_A a) s.heap s.heap [] := va_S.rf
  have hl := lv_entry ([.ref (a 11)]) (n := 2) (Nat.le_of_ble_eq_true rfl)
  rw [lg_entry_eq]
  generalize (lg_sl ([.ref (a 11)]) ++ List.replicate (2 - (lg_sl ([.ref (a 11)])).length) Slot.unset).toArray = ls at hl ⊢
  have hl : lv_has ls 2 [(0, .ref (a 11))] := hl
  have hB197 : ∀ (ih127 : Int32 → q_St → Option (Int32 × q_St)) (hi127 : ∀ (x1 : Int32) (u : q_St) (ls : Array Slot), lv_has ls 2 [(0, .ref (a 11)), (1, .int x1)] → ih127 x1 u = some (r0, σ0) → ∀ (H : Heap) (locs : List Loc), va_P D vwCl (ax_W a cI L u) H → va_S (ax_A a) s.heap H locs → W p l e (headSpec (Cond.code yX1_wrongThings cX1_wrongThings 2 (some .int) :: q_T) ({ frames := 6, cells := 0, slots := 0, locals := 144 } : Room)).room s m ([.ref (a 11)] : List Value).toArray below meth c H locs 0 0 (MQ below (q_Qi D vwCl (ax_W a cI L) (ax_A a) r0 σ0) ([.ref (a 11)] : List Value).toArray s 0 0 (ax_A a)) (F0 m 127 ls [])), ∀ (x1 : Int32) (y0 : Int32) (u : q_St) (ls : Array Slot), lv_has ls 2 [(0, .ref (a 11)), (1, .int x1)] → fX1_wrongThings_b197 L N ih127 x1 y0 u = some (r0, σ0) → ∀ (H : Heap) (locs : List Loc), va_P D vwCl (ax_W a cI L u) H → va_S (ax_A a) s.heap H locs → W p l e (headSpec (Cond.code yX1_wrongThings cX1_wrongThings 2 (some .int) :: q_T) ({ frames := 6, cells := 0, slots := 0, locals := 144 } : Room)).room s m ([.ref (a 11)] : List Value).toArray below meth c H locs 0 0 (MQ below (q_Qi D vwCl (ax_W a cI L) (ax_A a) r0 σ0) ([.ref (a 11)] : List Value).toArray s 0 0 (ax_A a)) (F0 m 197 ls [.int y0, .ref (a 11)]) := by
    intro ih127 hi127 x1 y0 u ls hl hF _ _ hP hS
    unfold fX1_wrongThings_b197 at hF
    obtain ⟨r18, u19, hc20, hF⟩ := q_bnd_some hF
    refine sx_cv (Wd := (ax_W a cI L)) (σ1 := u19) (q_runV (Wd := (ax_W a cI L)) (σ := u) (q0 := 11) (ci := 1) (T := TX1) (N := 8) (As := [.int y0]) (rest := []) hx hb hml hown hts hK hP (kt_X1_expect hD hc20) cw_X1_72 rfl rfl ⟨Nat.le_of_ble_eq_true rfl, Nat.le_of_ble_eq_true rfl⟩ rfl rfl rfl hl.1 rfl (Nat.le_of_ble_eq_true rfl) dX1_wrongThings_197) hS (fun H locs hP hS => ?_)
    refine sx_iinc (d := 1) (k := 1) (lv2 := [(0, .ref (a 11))]) hx hb hF dX1_wrongThings_200 hl rfl (by decide) (by decide) rfl (fun v21 hF ls hl => ?_)
    refine lv_goto (tgt := 127) hx hb dX1_wrongThings_203 (by decide) ?_
    exact hi127 v21 u19 ls (lv_sub hl [1, 0] rfl) hF _ _ hP hS
  have hB189 : ∀ (ih127 : Int32 → q_St → Option (Int32 × q_St)) (hi127 : ∀ (x1 : Int32) (u : q_St) (ls : Array Slot), lv_has ls 2 [(0, .ref (a 11)), (1, .int x1)] → ih127 x1 u = some (r0, σ0) → ∀ (H : Heap) (locs : List Loc), va_P D vwCl (ax_W a cI L u) H → va_S (ax_A a) s.heap H locs → W p l e (headSpec (Cond.code yX1_wrongThings cX1_wrongThings 2 (some .int) :: q_T) ({ frames := 6, cells := 0, slots := 0, locals := 144 } : Room)).room s m ([.ref (a 11)] : List Value).toArray below meth c H locs 0 0 (MQ below (q_Qi D vwCl (ax_W a cI L) (ax_A a) r0 σ0) ([.ref (a 11)] : List Value).toArray s 0 0 (ax_A a)) (F0 m 127 ls [])), ∀ (x1 : Int32) (y0 : Int32) (y1 : Int32) (u : q_St) (ls : Array Slot), lv_has ls 2 [(0, .ref (a 11)), (1, .int x1)] → fX1_wrongThings_b189 L N ih127 x1 y0 y1 u = some (r0, σ0) → ∀ (H : Heap) (locs : List Loc), va_P D vwCl (ax_W a cI L u) H → va_S (ax_A a) s.heap H locs → W p l e (headSpec (Cond.code yX1_wrongThings cX1_wrongThings 2 (some .int) :: q_T) ({ frames := 6, cells := 0, slots := 0, locals := 144 } : Room)).room s m ([.ref (a 11)] : List Value).toArray below meth c H locs 0 0 (MQ below (q_Qi D vwCl (ax_W a cI L) (ax_A a) r0 σ0) ([.ref (a 11)] : List Value).toArray s 0 0 (ax_A a)) (F0 m 189 ls [.int y0, .int y1, .ref (a 11)]) := by
    intro ih127 hi127 x1 y0 y1 u ls hl hF _ _ hP hS
    unfold fX1_wrongThings_b189 at hF
    refine sx_icmp_ne (tgt := 196) hx hb hF dX1_wrongThings_189 (by decide) (fun hF => ?_) (fun hF => ?_)
    · refine lv_iconst (v := 0) hx hb dX1_wrongThings_196 (by decide) ?_
      exact hB197 ih127 hi127 x1 0 u ls (lv_sub hl [0, 1] rfl) hF _ _ hP hS
    · refine lv_iconst (v := 1) hx hb dX1_wrongThings_192 (by decide) ?_
      refine lv_goto (tgt := 197) hx hb dX1_wrongThings_193 (by decide) ?_
      exact hB197 ih127 hi127 x1 1 u ls (lv_sub hl [0, 1] rfl) hF _ _ hP hS
  have hB184 : ∀ (ih127 : Int32 → q_St → Option (Int32 × q_St)) (hi127 : ∀ (x1 : Int32) (u : q_St) (ls : Array Slot), lv_has ls 2 [(0, .ref (a 11)), (1, .int x1)] → ih127 x1 u = some (r0, σ0) → ∀ (H : Heap) (locs : List Loc), va_P D vwCl (ax_W a cI L u) H → va_S (ax_A a) s.heap H locs → W p l e (headSpec (Cond.code yX1_wrongThings cX1_wrongThings 2 (some .int) :: q_T) ({ frames := 6, cells := 0, slots := 0, locals := 144 } : Room)).room s m ([.ref (a 11)] : List Value).toArray below meth c H locs 0 0 (MQ below (q_Qi D vwCl (ax_W a cI L) (ax_A a) r0 σ0) ([.ref (a 11)] : List Value).toArray s 0 0 (ax_A a)) (F0 m 127 ls [])), ∀ (x1 : Int32) (y0 : Int32) (u : q_St) (ls : Array Slot), lv_has ls 2 [(0, .ref (a 11)), (1, .int x1)] → fX1_wrongThings_b184 L N ih127 x1 y0 u = some (r0, σ0) → ∀ (H : Heap) (locs : List Loc), va_P D vwCl (ax_W a cI L u) H → va_S (ax_A a) s.heap H locs → W p l e (headSpec (Cond.code yX1_wrongThings cX1_wrongThings 2 (some .int) :: q_T) ({ frames := 6, cells := 0, slots := 0, locals := 144 } : Room)).room s m ([.ref (a 11)] : List Value).toArray below meth c H locs 0 0 (MQ below (q_Qi D vwCl (ax_W a cI L) (ax_A a) r0 σ0) ([.ref (a 11)] : List Value).toArray s 0 0 (ax_A a)) (F0 m 184 ls [.int y0, .ref (a 11)]) := by
    intro ih127 hi127 x1 y0 u ls hl hF _ _ hP hS
    unfold fX1_wrongThings_b184 at hF
    refine lv_iconst (v := 1) hx hb dX1_wrongThings_184 (by decide) ?_
    refine lv_goto (tgt := 189) hx hb dX1_wrongThings_185 (by decide) ?_
    exact hB189 ih127 hi127 x1 1 y0 u ls (lv_sub hl [0, 1] rfl) hF _ _ hP hS
  have hB152 : ∀ (ih127 : Int32 → q_St → Option (Int32 × q_St)) (hi127 : ∀ (x1 : Int32) (u : q_St) (ls : Array Slot), lv_has ls 2 [(0, .ref (a 11)), (1, .int x1)] → ih127 x1 u = some (r0, σ0) → ∀ (H : Heap) (locs : List Loc), va_P D vwCl (ax_W a cI L u) H → va_S (ax_A a) s.heap H locs → W p l e (headSpec (Cond.code yX1_wrongThings cX1_wrongThings 2 (some .int) :: q_T) ({ frames := 6, cells := 0, slots := 0, locals := 144 } : Room)).room s m ([.ref (a 11)] : List Value).toArray below meth c H locs 0 0 (MQ below (q_Qi D vwCl (ax_W a cI L) (ax_A a) r0 σ0) ([.ref (a 11)] : List Value).toArray s 0 0 (ax_A a)) (F0 m 127 ls [])), ∀ (x1 : Int32) (y0 : Int32) (u : q_St) (ls : Array Slot), lv_has ls 2 [(0, .ref (a 11)), (1, .int x1)] → fX1_wrongThings_b152 L N ih127 x1 y0 u = some (r0, σ0) → ∀ (H : Heap) (locs : List Loc), va_P D vwCl (ax_W a cI L u) H → va_S (ax_A a) s.heap H locs → W p l e (headSpec (Cond.code yX1_wrongThings cX1_wrongThings 2 (some .int) :: q_T) ({ frames := 6, cells := 0, slots := 0, locals := 144 } : Room)).room s m ([.ref (a 11)] : List Value).toArray below meth c H locs 0 0 (MQ below (q_Qi D vwCl (ax_W a cI L) (ax_A a) r0 σ0) ([.ref (a 11)] : List Value).toArray s 0 0 (ax_A a)) (F0 m 152 ls [.int y0, .ref (a 11)]) := by
    intro ih127 hi127 x1 y0 u ls hl hF _ _ hP hS
    unfold fX1_wrongThings_b152 at hF
    obtain ⟨r12, u13, hc14, hF⟩ := q_bnd_some hF
    refine sx_cv (Wd := (ax_W a cI L)) (σ1 := u13) (q_runV (Wd := (ax_W a cI L)) (σ := u) (q0 := 11) (ci := 1) (T := TX1) (N := 8) (As := [.int y0]) (rest := []) hx hb hml hown hts hK hP (kt_X1_expect hD hc14) cw_X1_72 rfl rfl ⟨Nat.le_of_ble_eq_true rfl, Nat.le_of_ble_eq_true rfl⟩ rfl rfl rfl hl.1 rfl (Nat.le_of_ble_eq_true rfl) dX1_wrongThings_152) hS (fun H locs hP hS => ?_)
    refine lv_aload_n hx hb dX1_wrongThings_155 rfl (lv_at hl 0 rfl) ?_
    refine lv_aload_n hx hb dX1_wrongThings_156 rfl (lv_at hl 0 rfl) ?_
    refine gx_checker_space hx hb hts hown hK hP fl_X1_19 dX1_wrongThings_157 ?_
    refine lv_iload_n hx hb dX1_wrongThings_160 rfl (lv_at hl 1 rfl) ?_
    obtain ⟨r15, u16, hc17, hF⟩ := q_bnd_some hF
    refine sx_ci (Wd := (ax_W a cI L)) (σ1 := u16) (q_runV (Wd := (ax_W a cI L)) (σ := u13) (q0 := 4) (ci := 5) (T := TX5) (N := 6) (As := [.int x1]) (rest := [.ref (a 11)]) hx hb hml hown hts hK hP (kt_X5_isSet hD hc17) cw_X1_76 rfl rfl ⟨Nat.le_of_ble_eq_true rfl, Nat.le_of_ble_eq_true rfl⟩ rfl rfl rfl hl.1 rfl (Nat.le_of_ble_eq_true rfl) dX1_wrongThings_161) hS (fun H locs hP hS => ?_)
    refine lv_iload_n hx hb dX1_wrongThings_164 rfl (lv_at hl 1 rfl) ?_
    refine lv_aload_n hx hb dX1_wrongThings_165 rfl (lv_at hl 0 rfl) ?_
    refine gx_checker_space hx hb hts hown hK hP fl_X1_19 dX1_wrongThings_166 ?_
    refine gx_space_firstBlock hx hb hts hown hK hP fl_X1_81 dX1_wrongThings_169 ?_
    refine sx_icmp_lt (tgt := 184) hx hb hF dX1_wrongThings_172 (by decide) (fun hF => ?_) (fun hF => ?_)
    · exact hB184 ih127 hi127 x1 r15 u16 ls (lv_sub hl [0, 1] rfl) hF _ _ hP hS
    · refine lv_aload_n hx hb dX1_wrongThings_175 rfl (lv_at hl 0 rfl) ?_
      refine gx_checker_uses hx hb hts hown hK hP fl_X1_33 dX1_wrongThings_176 ?_
      refine lv_iload_n hx hb dX1_wrongThings_179 rfl (lv_at hl 1 rfl) ?_
      refine lx_checker_uses hx hb hK hP hF dX1_wrongThings_180 (fun v22 hF => ?_)
      refine sx_if_le (tgt := 188) hx hb hF dX1_wrongThings_181 (by decide) (fun hF => ?_) (fun hF => ?_)
      · refine lv_iconst (v := 0) hx hb dX1_wrongThings_188 (by decide) ?_
        exact hB189 ih127 hi127 x1 0 r15 u16 ls (lv_sub hl [0, 1] rfl) hF _ _ hP hS
      · exact hB184 ih127 hi127 x1 r15 u16 ls (lv_sub hl [0, 1] rfl) hF _ _ hP hS
  have hB127 : ∀ (n : Nat) (x1 : Int32) (u : q_St) (ls : Array Slot), lv_has ls 2 [(0, .ref (a 11)), (1, .int x1)] → q_lp (fX1_wrongThings_b127 L N) (fun _ _ => none) n x1 u = some (r0, σ0) → ∀ (H : Heap) (locs : List Loc), va_P D vwCl (ax_W a cI L u) H → va_S (ax_A a) s.heap H locs → W p l e (headSpec (Cond.code yX1_wrongThings cX1_wrongThings 2 (some .int) :: q_T) ({ frames := 6, cells := 0, slots := 0, locals := 144 } : Room)).room s m ([.ref (a 11)] : List Value).toArray below meth c H locs 0 0 (MQ below (q_Qi D vwCl (ax_W a cI L) (ax_A a) r0 σ0) ([.ref (a 11)] : List Value).toArray s 0 0 (ax_A a)) (F0 m 127 ls []) := by
    intro n
    induction n with
    | zero => intro x1 u ls hl hF; exact absurd (show (none : Option (Int32 × q_St)) = some _ from hF) (fun h => nomatch h)
    | succ n hi127 =>
      intro x1 u ls hl hF _ _ hP hS
      obtain ⟨ih127, hih⟩ : ∃ q, q = q_lp (fX1_wrongThings_b127 L N) (fun _ _ => none) n := ⟨_, rfl⟩
      rw [← hih] at hi127
      have hF : fX1_wrongThings_b127 L N (q_lp (fX1_wrongThings_b127 L N) (fun _ _ => none) n) x1 u = some (r0, σ0) := hF
      rw [← hih] at hF
      clear hih
      unfold fX1_wrongThings_b127 at hF
      refine lv_iload_n hx hb dX1_wrongThings_127 rfl (lv_at hl 1 rfl) ?_
      refine lv_aload_n hx hb dX1_wrongThings_128 rfl (lv_at hl 0 rfl) ?_
      refine gx_checker_uses hx hb hts hown hK hP fl_X1_33 dX1_wrongThings_129 ?_
      refine nx_checker_uses hx hb hK hP dX1_wrongThings_132 ?_
      refine sx_icmp_ge (tgt := 206) hx hb hF dX1_wrongThings_133 (by decide) (fun hF => ?_) (fun hF => ?_)
      · refine lv_aload_n hx hb dX1_wrongThings_206 rfl (lv_at hl 0 rfl) ?_
        refine gx_checker_wrong hx hb hts hown hK hP fl_X1_43 dX1_wrongThings_207 ?_
        exact sx_reti (Wd := (ax_W a cI L)) (σ := u) hx hb hr hF hP hS hlocks dX1_wrongThings_210
      · refine lv_aload_n hx hb dX1_wrongThings_136 rfl (lv_at hl 0 rfl) ?_
        refine lv_aload_n hx hb dX1_wrongThings_137 rfl (lv_at hl 0 rfl) ?_
        refine gx_checker_uses hx hb hts hown hK hP fl_X1_33 dX1_wrongThings_138 ?_
        refine lv_iload_n hx hb dX1_wrongThings_141 rfl (lv_at hl 1 rfl) ?_
        refine lx_checker_uses hx hb hK hP hF dX1_wrongThings_142 (fun v11 hF => ?_)
        refine lv_iconst (v := 1) hx hb dX1_wrongThings_143 (by decide) ?_
        refine sx_icmp_gt (tgt := 151) hx hb hF dX1_wrongThings_144 (by decide) (fun hF => ?_) (fun hF => ?_)
        · refine lv_iconst (v := 0) hx hb dX1_wrongThings_151 (by decide) ?_
          exact hB152 ih127 hi127 x1 0 u ls (lv_sub hl [0, 1] rfl) hF _ _ hP hS
        · refine lv_iconst (v := 1) hx hb dX1_wrongThings_147 (by decide) ?_
          refine lv_goto (tgt := 152) hx hb dX1_wrongThings_148 (by decide) ?_
          exact hB152 ih127 hi127 x1 1 u ls (lv_sub hl [0, 1] rfl) hF _ _ hP hS
  have hB104 : ∀ (n : Nat) (x1 : Int32) (u : q_St) (ls : Array Slot), lv_has ls 2 [(0, .ref (a 11)), (1, .int x1)] → q_lp (fX1_wrongThings_b104 L N) (fun _ _ => none) n x1 u = some (r0, σ0) → ∀ (H : Heap) (locs : List Loc), va_P D vwCl (ax_W a cI L u) H → va_S (ax_A a) s.heap H locs → W p l e (headSpec (Cond.code yX1_wrongThings cX1_wrongThings 2 (some .int) :: q_T) ({ frames := 6, cells := 0, slots := 0, locals := 144 } : Room)).room s m ([.ref (a 11)] : List Value).toArray below meth c H locs 0 0 (MQ below (q_Qi D vwCl (ax_W a cI L) (ax_A a) r0 σ0) ([.ref (a 11)] : List Value).toArray s 0 0 (ax_A a)) (F0 m 104 ls []) := by
    intro n
    induction n with
    | zero => intro x1 u ls hl hF; exact absurd (show (none : Option (Int32 × q_St)) = some _ from hF) (fun h => nomatch h)
    | succ n hi104 =>
      intro x1 u ls hl hF _ _ hP hS
      obtain ⟨ih104, hih⟩ : ∃ q, q = q_lp (fX1_wrongThings_b104 L N) (fun _ _ => none) n := ⟨_, rfl⟩
      rw [← hih] at hi104
      have hF : fX1_wrongThings_b104 L N (q_lp (fX1_wrongThings_b104 L N) (fun _ _ => none) n) x1 u = some (r0, σ0) := hF
      rw [← hih] at hF
      clear hih
      unfold fX1_wrongThings_b104 at hF
      refine lv_iload_n hx hb dX1_wrongThings_104 rfl (lv_at hl 1 rfl) ?_
      refine lv_bipush (v := 64) hx hb dX1_wrongThings_105 (by decide) ?_
      refine sx_icmp_ge (tgt := 125) hx hb hF dX1_wrongThings_107 (by decide) (fun hF => ?_) (fun hF => ?_)
      · refine lv_iconst (v := 0) hx hb dX1_wrongThings_125 (by decide) ?_
        refine lv_istore_n (lv' := [(1, .int 0), (0, .ref (a 11))]) hx hb dX1_wrongThings_126 rfl hl (by decide) rfl (fun ls hl => ?_)
        exact hB127 N 0 u ls (lv_sub hl [1, 0] rfl) hF _ _ hP hS
      · refine lv_aload_n hx hb dX1_wrongThings_110 rfl (lv_at hl 0 rfl) ?_
        refine lv_aload_n hx hb dX1_wrongThings_111 rfl (lv_at hl 0 rfl) ?_
        refine lv_iload_n hx hb dX1_wrongThings_112 rfl (lv_at hl 1 rfl) ?_
        obtain ⟨r23, u24, hc25, hF⟩ := q_bnd_some hF
        refine sx_ci (Wd := (ax_W a cI L)) (σ1 := u24) (q_runV (Wd := (ax_W a cI L)) (σ := u) (q0 := 11) (ci := 1) (T := TX1) (N := 8) (As := [.int x1]) (rest := [.ref (a 11)]) hx hb hml hown hts hK hP (kt_X1_isHeldRight hD hc25) cw_X1_68 rfl rfl ⟨Nat.le_of_ble_eq_true rfl, Nat.le_of_ble_eq_true rfl⟩ rfl rfl rfl hl.1 rfl (Nat.le_of_ble_eq_true rfl) dX1_wrongThings_113) hS (fun H locs hP hS => ?_)
        obtain ⟨r26, u27, hc28, hF⟩ := q_bnd_some hF
        refine sx_cv (Wd := (ax_W a cI L)) (σ1 := u27) (q_runV (Wd := (ax_W a cI L)) (σ := u24) (q0 := 11) (ci := 1) (T := TX1) (N := 8) (As := [.int r23]) (rest := []) hx hb hml hown hts hK hP (kt_X1_expect hD hc28) cw_X1_72 rfl rfl ⟨Nat.le_of_ble_eq_true rfl, Nat.le_of_ble_eq_true rfl⟩ rfl rfl rfl hl.1 rfl (Nat.le_of_ble_eq_true rfl) dX1_wrongThings_116) hS (fun H locs hP hS => ?_)
        refine sx_iinc (d := 1) (k := 1) (lv2 := [(0, .ref (a 11))]) hx hb hF dX1_wrongThings_119 hl rfl (by decide) (by decide) rfl (fun v29 hF ls hl => ?_)
        refine lv_goto (tgt := 104) hx hb dX1_wrongThings_122 (by decide) ?_
        exact hi104 v29 u27 ls (lv_sub hl [1, 0] rfl) hF _ _ hP hS
  have hB96 : ∀ (ih31 : Int32 → q_St → Option (Int32 × q_St)) (hi31 : ∀ (x1 : Int32) (u : q_St) (ls : Array Slot), lv_has ls 2 [(0, .ref (a 11)), (1, .int x1)] → ih31 x1 u = some (r0, σ0) → ∀ (H : Heap) (locs : List Loc), va_P D vwCl (ax_W a cI L u) H → va_S (ax_A a) s.heap H locs → W p l e (headSpec (Cond.code yX1_wrongThings cX1_wrongThings 2 (some .int) :: q_T) ({ frames := 6, cells := 0, slots := 0, locals := 144 } : Room)).room s m ([.ref (a 11)] : List Value).toArray below meth c H locs 0 0 (MQ below (q_Qi D vwCl (ax_W a cI L) (ax_A a) r0 σ0) ([.ref (a 11)] : List Value).toArray s 0 0 (ax_A a)) (F0 m 31 ls [])), ∀ (x1 : Int32) (u : q_St) (ls : Array Slot), lv_has ls 2 [(0, .ref (a 11)), (1, .int x1)] → fX1_wrongThings_b96 L N ih31 x1 u = some (r0, σ0) → ∀ (H : Heap) (locs : List Loc), va_P D vwCl (ax_W a cI L u) H → va_S (ax_A a) s.heap H locs → W p l e (headSpec (Cond.code yX1_wrongThings cX1_wrongThings 2 (some .int) :: q_T) ({ frames := 6, cells := 0, slots := 0, locals := 144 } : Room)).room s m ([.ref (a 11)] : List Value).toArray below meth c H locs 0 0 (MQ below (q_Qi D vwCl (ax_W a cI L) (ax_A a) r0 σ0) ([.ref (a 11)] : List Value).toArray s 0 0 (ax_A a)) (F0 m 96 ls []) := by
    intro ih31 hi31 x1 u ls hl hF _ _ hP hS
    unfold fX1_wrongThings_b96 at hF
    refine sx_iinc (d := 1) (k := 1) (lv2 := [(0, .ref (a 11))]) hx hb hF dX1_wrongThings_96 hl rfl (by decide) (by decide) rfl (fun v36 hF ls hl => ?_)
    refine lv_goto (tgt := 31) hx hb dX1_wrongThings_99 (by decide) ?_
    exact hi31 v36 u ls (lv_sub hl [1, 0] rfl) hF _ _ hP hS
  have hB31 : ∀ (n : Nat) (x1 : Int32) (u : q_St) (ls : Array Slot), lv_has ls 2 [(0, .ref (a 11)), (1, .int x1)] → q_lp (fX1_wrongThings_b31 L N) (fun _ _ => none) n x1 u = some (r0, σ0) → ∀ (H : Heap) (locs : List Loc), va_P D vwCl (ax_W a cI L u) H → va_S (ax_A a) s.heap H locs → W p l e (headSpec (Cond.code yX1_wrongThings cX1_wrongThings 2 (some .int) :: q_T) ({ frames := 6, cells := 0, slots := 0, locals := 144 } : Room)).room s m ([.ref (a 11)] : List Value).toArray below meth c H locs 0 0 (MQ below (q_Qi D vwCl (ax_W a cI L) (ax_A a) r0 σ0) ([.ref (a 11)] : List Value).toArray s 0 0 (ax_A a)) (F0 m 31 ls []) := by
    intro n
    induction n with
    | zero => intro x1 u ls hl hF; exact absurd (show (none : Option (Int32 × q_St)) = some _ from hF) (fun h => nomatch h)
    | succ n hi31 =>
      intro x1 u ls hl hF _ _ hP hS
      obtain ⟨ih31, hih⟩ : ∃ q, q = q_lp (fX1_wrongThings_b31 L N) (fun _ _ => none) n := ⟨_, rfl⟩
      rw [← hih] at hi31
      have hF : fX1_wrongThings_b31 L N (q_lp (fX1_wrongThings_b31 L N) (fun _ _ => none) n) x1 u = some (r0, σ0) := hF
      rw [← hih] at hF
      clear hih
      unfold fX1_wrongThings_b31 at hF
      refine lv_iload_n hx hb dX1_wrongThings_31 rfl (lv_at hl 1 rfl) ?_
      refine lv_bipush (v := 64) hx hb dX1_wrongThings_32 (by decide) ?_
      refine sx_icmp_ge (tgt := 102) hx hb hF dX1_wrongThings_34 (by decide) (fun hF => ?_) (fun hF => ?_)
      · refine lv_iconst (v := 0) hx hb dX1_wrongThings_102 (by decide) ?_
        refine lv_istore_n (lv' := [(1, .int 0), (0, .ref (a 11))]) hx hb dX1_wrongThings_103 rfl hl (by decide) rfl (fun ls hl => ?_)
        exact hB104 N 0 u ls (lv_sub hl [1, 0] rfl) hF _ _ hP hS
      · refine lv_aload_n hx hb dX1_wrongThings_37 rfl (lv_at hl 0 rfl) ?_
        refine gx_checker_nodes hx hb hts hown hK hP fl_X1_23 dX1_wrongThings_38 ?_
        refine lv_iload_n hx hb dX1_wrongThings_41 rfl (lv_at hl 1 rfl) ?_
        obtain ⟨r30, u31, hc32, hF⟩ := q_bnd_some hF
        refine sx_ci (Wd := (ax_W a cI L)) (σ1 := u31) (q_runV (Wd := (ax_W a cI L)) (σ := u) (q0 := 5) (ci := 4) (T := TX4) (N := 2) (As := [.int x1]) (rest := []) hx hb hml hown hts hK hP (kt_X4_kindOf hD hc32) cw_X1_52 rfl rfl ⟨Nat.le_of_ble_eq_true rfl, Nat.le_of_ble_eq_true rfl⟩ rfl rfl rfl hl.1 rfl (Nat.le_of_ble_eq_true rfl) dX1_wrongThings_42) hS (fun H locs hP hS => ?_)
        by_cases hq1 : r30 = 1
        · have hF := (if_pos hq1).symm.trans hF
          refine sx_tabIn hx hb 1 hq1 (off := 27) (tgt := 72) dX1_wrongThings_45 (by decide) (by decide) (by decide) (by decide) ?_
          refine lv_aload_n hx hb dX1_wrongThings_72 rfl (lv_at hl 0 rfl) ?_
          refine lv_iload_n hx hb dX1_wrongThings_73 rfl (lv_at hl 1 rfl) ?_
          obtain ⟨r33, u34, hc35, hF⟩ := q_bnd_some hF
          refine sx_cv (Wd := (ax_W a cI L)) (σ1 := u34) (q_runV (Wd := (ax_W a cI L)) (σ := u31) (q0 := 11) (ci := 1) (T := TX1) (N := 8) (As := [.int x1]) (rest := []) hx hb hml hown hts hK hP (kt_X1_useFile hD hc35) cw_X1_58 rfl rfl ⟨Nat.le_of_ble_eq_true rfl, Nat.le_of_ble_eq_true rfl⟩ rfl rfl rfl hl.1 rfl (Nat.le_of_ble_eq_true rfl) dX1_wrongThings_74) hS (fun H locs hP hS => ?_)
          refine lv_goto (tgt := 96) hx hb dX1_wrongThings_77 (by decide) ?_
          exact hB96 ih31 hi31 x1 u34 ls (lv_sub hl [0, 1] rfl) hF _ _ hP hS
        have hF := (if_neg hq1).symm.trans hF
        by_cases hq2 : r30 = 2
        · have hF := (if_pos hq2).symm.trans hF
          refine sx_tabIn hx hb 2 hq2 (off := 35) (tgt := 80) dX1_wrongThings_45 (by decide) (by decide) (by decide) (by decide) ?_
          refine lv_aload_n hx hb dX1_wrongThings_80 rfl (lv_at hl 0 rfl) ?_
          refine lv_iload_n hx hb dX1_wrongThings_81 rfl (lv_at hl 1 rfl) ?_
          obtain ⟨r37, u38, hc39, hF⟩ := q_bnd_some hF
          refine sx_cv (Wd := (ax_W a cI L)) (σ1 := u38) (q_runV (Wd := (ax_W a cI L)) (σ := u31) (q0 := 11) (ci := 1) (T := TX1) (N := 8) (As := [.int x1]) (rest := []) hx hb hml hown hts hK hP (kt_X1_useDirectory hD hc39) cw_X1_62 rfl rfl ⟨Nat.le_of_ble_eq_true rfl, Nat.le_of_ble_eq_true rfl⟩ rfl rfl rfl hl.1 rfl (Nat.le_of_ble_eq_true rfl) dX1_wrongThings_82) hS (fun H locs hP hS => ?_)
          refine lv_goto (tgt := 96) hx hb dX1_wrongThings_85 (by decide) ?_
          exact hB96 ih31 hi31 x1 u38 ls (lv_sub hl [0, 1] rfl) hF _ _ hP hS
        have hF := (if_neg hq2).symm.trans hF
        by_cases hq3 : r30 = 3
        · have hF := (if_pos hq3).symm.trans hF
          refine sx_tabIn hx hb 3 hq3 (off := 43) (tgt := 88) dX1_wrongThings_45 (by decide) (by decide) (by decide) (by decide) ?_
          refine lv_aload_n hx hb dX1_wrongThings_88 rfl (lv_at hl 0 rfl) ?_
          refine lv_iload_n hx hb dX1_wrongThings_89 rfl (lv_at hl 1 rfl) ?_
          obtain ⟨r40, u41, hc42, hF⟩ := q_bnd_some hF
          refine sx_cv (Wd := (ax_W a cI L)) (σ1 := u41) (q_runV (Wd := (ax_W a cI L)) (σ := u31) (q0 := 11) (ci := 1) (T := TX1) (N := 8) (As := [.int x1]) (rest := []) hx hb hml hown hts hK hP (kt_X1_useLaid hD hc42) cw_X1_65 rfl rfl ⟨Nat.le_of_ble_eq_true rfl, Nat.le_of_ble_eq_true rfl⟩ rfl rfl rfl hl.1 rfl (Nat.le_of_ble_eq_true rfl) dX1_wrongThings_90) hS (fun H locs hP hS => ?_)
          refine lv_goto (tgt := 96) hx hb dX1_wrongThings_93 (by decide) ?_
          exact hB96 ih31 hi31 x1 u41 ls (lv_sub hl [0, 1] rfl) hF _ _ hP hS
        have hF := (if_neg hq3).symm.trans hF
        by_cases hr1 : Int32.toInt r30 < 1 ∨ 3 < Int32.toInt r30
        · refine lv_tableOut (tgt := 96) hx hb dX1_wrongThings_45 hr1 (by decide) ?_
          exact hB96 ih31 hi31 x1 u31 ls (lv_sub hl [0, 1] rfl) hF _ _ hP hS
        · have hr2 : Int32.toInt r30 = 1 ∨ Int32.toInt r30 = 2 ∨ Int32.toInt r30 = 3 := by omega
          rcases hr2 with hr2 | hr2 | hr2
          · exact absurd (Int32.toInt_inj.mp (hr2.trans (by decide : (1 : Int) = Int32.toInt 1))) hq1
          · exact absurd (Int32.toInt_inj.mp (hr2.trans (by decide : (2 : Int) = Int32.toInt 2))) hq2
          · exact absurd (Int32.toInt_inj.mp (hr2.trans (by decide : (3 : Int) = Int32.toInt 3))) hq3
  unfold fX1_wrongThings at hF
  refine lv_aload_n hx hb dX1_wrongThings_0 rfl (lv_at hl 0 rfl) ?_
  refine lv_iconst (v := 0) hx hb dX1_wrongThings_1 (by decide) ?_
  refine px_checker_wrong hx hb hts hown hK hP fl_X1_43 hD hS hF dX1_wrongThings_2 (fun u1 H locs hF hP hS => ?_)
  refine lv_aload_n hx hb dX1_wrongThings_5 rfl (lv_at hl 0 rfl) ?_
  refine gx_checker_uses hx hb hts hown hK hP fl_X1_33 dX1_wrongThings_6 ?_
  refine lv_iconst (v := 0) hx hb dX1_wrongThings_9 (by decide) ?_
  obtain ⟨r2, u3, hc4, hF⟩ := q_bnd_some hF
  refine sx_cv (Wd := (ax_W a cI L)) (σ1 := u3) (q_runS (Wd := (ax_W a cI L)) (σ := u1) (As := [.ref (a 29), .int 0]) (rest := []) hx hb hml hown hts hK hP (kt_J7_fill_29 hD hc4) cw_X1_46 rfl rfl ⟨Nat.le_of_ble_eq_true rfl, Nat.le_of_ble_eq_true rfl⟩ rfl hl.1 rfl (Nat.le_of_ble_eq_true rfl) dX1_wrongThings_10) hS (fun H locs hP hS => ?_)
  refine lv_aload_n hx hb dX1_wrongThings_13 rfl (lv_at hl 0 rfl) ?_
  refine gx_checker_slotsOf hx hb hts hown hK hP fl_X1_37 dX1_wrongThings_14 ?_
  refine lv_iconst (v := 0) hx hb dX1_wrongThings_17 (by decide) ?_
  obtain ⟨r5, u6, hc7, hF⟩ := q_bnd_some hF
  refine sx_cv (Wd := (ax_W a cI L)) (σ1 := u6) (q_runS (Wd := (ax_W a cI L)) (σ := u3) (As := [.ref (a 30), .int 0]) (rest := []) hx hb hml hown hts hK hP (kt_J7_fill_30 hD hc7) cw_X1_46 rfl rfl ⟨Nat.le_of_ble_eq_true rfl, Nat.le_of_ble_eq_true rfl⟩ rfl hl.1 rfl (Nat.le_of_ble_eq_true rfl) dX1_wrongThings_18) hS (fun H locs hP hS => ?_)
  refine lv_aload_n hx hb dX1_wrongThings_21 rfl (lv_at hl 0 rfl) ?_
  refine gx_checker_foundIn hx hb hts hown hK hP fl_X1_40 dX1_wrongThings_22 ?_
  refine lv_iconst (v := (-1)) hx hb dX1_wrongThings_25 (by decide) ?_
  obtain ⟨r8, u9, hc10, hF⟩ := q_bnd_some hF
  refine sx_cv (Wd := (ax_W a cI L)) (σ1 := u9) (q_runS (Wd := (ax_W a cI L)) (σ := u6) (As := [.ref (a 31), .int (-1)]) (rest := []) hx hb hml hown hts hK hP (kt_J7_fill_31 hD hc10) cw_X1_46 rfl rfl ⟨Nat.le_of_ble_eq_true rfl, Nat.le_of_ble_eq_true rfl⟩ rfl hl.1 rfl (Nat.le_of_ble_eq_true rfl) dX1_wrongThings_26) hS (fun H locs hP hS => ?_)
  refine lv_iconst (v := 0) hx hb dX1_wrongThings_29 (by decide) ?_
  refine lv_istore_n (lv' := [(1, .int 0), (0, .ref (a 11))]) hx hb dX1_wrongThings_30 rfl hl (by decide) rfl (fun ls hl => ?_)
  exact hB31 N 0 u9 ls (lv_sub hl [1, 0] rfl) hF _ _ hP hS
set_option maxHeartbeats 4000000 in
set_option maxRecDepth 100000 in
theorem kt_X10_check {N : Nat} {l : Launch} {D : va_G} {a : Nat → Nat} {cI : Nat → ClassId} {L : Nat → Nat} (hD : ∀ σ, va_D (ax_A a) (ax_W a cI L σ))  {u σ0 : q_St} {r0 : Int32} (hF : fX10_check L N u = some (r0, σ0)) : Met l yX10_check (Cond.code yX10_check cX10_check 1 (some .int) :: q_T) ({ frames := 7, cells := 0, slots := 0, locals := 165 } : Room) (q_P D vwCl (ax_T cI) (ax_W a cI L) [.ref (a 0)] u) (q_Qi D vwCl (ax_W a cI L) (ax_A a) r0 σ0) 0 0 (ax_A a) := by
  refine Met.ofW (cc := cX10_check) (maxL := 1) (ret := (some .int)) (by decide) rfl ?_
  intro p e s m args below meth c s₁ B hml hv
  obtain ⟨rfl, hP, hK⟩ := hv
  have hx := B.exec
  have hb := B.bytes
  have hr := B.returns
  have hts := q_ts (atoms_spec (ws := Cond.code yX10_check cX10_check 1 (some .int) :: q_T) B.pre)
  have hown : s.vm.findClass RX10 = some m.cls := findClass_of_methodNamed B.named
  have hlocks := B.notSynchronized
  have hS : va_S (ax_A a) s.heap s.heap [] := va_S.rf
  have hl := lv_entry ([.ref (a 0)]) (n := 1) (Nat.le_of_ble_eq_true rfl)
  rw [lg_entry_eq]
  generalize (lg_sl ([.ref (a 0)]) ++ List.replicate (1 - (lg_sl ([.ref (a 0)])).length) Slot.unset).toArray = ls at hl ⊢
  have hl : lv_has ls 1 [(0, .ref (a 0))] := hl
  unfold fX10_check at hF
  refine lv_aload_n hx hb dX10_check_0 rfl (lv_at hl 0 rfl) ?_
  refine gx_h_disk hx hb hts hown hK hP fl_X10_53 dX10_check_1 ?_
  refine gx_disk_on hx hb hts hown hK hP fl_X10_122 dX10_check_4 ?_
  refine sx_if_eq (tgt := 20) hx hb hF dX10_check_7 (by decide) (fun hF => ?_) (fun hF => ?_)
  · refine lv_bipush (v := (-99)) hx hb dX10_check_20 (by decide) ?_
    exact sx_reti (Wd := (ax_W a cI L)) (σ := u) hx hb hr hF hP hS hlocks dX10_check_22
  · refine lv_aload_n hx hb dX10_check_10 rfl (lv_at hl 0 rfl) ?_
    refine gx_h_checker hx hb hts hown hK hP fl_X10_109 dX10_check_11 ?_
    obtain ⟨r1, u2, hc3, hF⟩ := q_bnd_some hF
    refine sx_ci (Wd := (ax_W a cI L)) (σ1 := u2) (q_runV (Wd := (ax_W a cI L)) (σ := u) (q0 := 11) (ci := 1) (T := TX1) (N := 8) (As := []) (rest := []) hx hb hml hown hts hK hP (kt_X1_wrongThings hD hc3) cw_X10_255 rfl rfl ⟨Nat.le_of_ble_eq_true rfl, Nat.le_of_ble_eq_true rfl⟩ rfl rfl rfl hl.1 rfl (Nat.le_of_ble_eq_true rfl) dX10_check_14) hS (fun H locs hP hS => ?_)
    refine lv_goto (tgt := 22) hx hb dX10_check_17 (by decide) ?_
    exact sx_reti (Wd := (ax_W a cI L)) (σ := u2) hx hb hr hF hP hS hlocks dX10_check_22
set_option maxHeartbeats 4000000 in
set_option maxRecDepth 100000 in
theorem kt_X10_scrub {N : Nat} {l : Launch} {D : va_G} {a : Nat → Nat} {cI : Nat → ClassId} {L : Nat → Nat} (hD : ∀ σ, va_D (ax_A a) (ax_W a cI L σ))  {u σ0 : q_St} {r0 : Int32} (hF : fX10_scrub L N u = some (r0, σ0)) : Met l yX10_scrub (Cond.code yX10_scrub cX10_scrub 3 (some .int) :: q_T) ({ frames := 4, cells := 0, slots := 0, locals := 88 } : Room) (q_P D vwCl (ax_T cI) (ax_W a cI L) [.ref (a 0)] u) (q_Qi D vwCl (ax_W a cI L) (ax_A a) r0 σ0) 0 0 (ax_A a) := by
  refine Met.ofW (cc := cX10_scrub) (maxL := 3) (ret := (some .int)) (by decide) rfl ?_
  intro p e s m args below meth c s₁ B hml hv
  obtain ⟨rfl, hP, hK⟩ := hv
  have hx := B.exec
  have hb := B.bytes
  have hr := B.returns
  have hts := q_ts (atoms_spec (ws := Cond.code yX10_scrub cX10_scrub 3 (some .int) :: q_T) B.pre)
  have hown : s.vm.findClass RX10 = some m.cls := findClass_of_methodNamed B.named
  have hlocks := B.notSynchronized
  have hS : va_S (ax_A a) s.heap s.heap [] := va_S.rf
  have hl := lv_entry ([.ref (a 0)]) (n := 3) (Nat.le_of_ble_eq_true rfl)
  rw [lg_entry_eq]
  generalize (lg_sl ([.ref (a 0)]) ++ List.replicate (3 - (lg_sl ([.ref (a 0)])).length) Slot.unset).toArray = ls at hl ⊢
  have hl : lv_has ls 3 [(0, .ref (a 0))] := hl
  have hB51 : ∀ (ih17 : Int32 → Int32 → q_St → Option (Int32 × q_St)) (hi17 : ∀ (x1 : Int32) (x2 : Int32) (u : q_St) (ls : Array Slot), lv_has ls 3 [(0, .ref (a 0)), (1, .int x1), (2, .int x2)] → ih17 x1 x2 u = some (r0, σ0) → ∀ (H : Heap) (locs : List Loc), va_P D vwCl (ax_W a cI L u) H → va_S (ax_A a) s.heap H locs → W p l e (headSpec (Cond.code yX10_scrub cX10_scrub 3 (some .int) :: q_T) ({ frames := 4, cells := 0, slots := 0, locals := 88 } : Room)).room s m ([.ref (a 0)] : List Value).toArray below meth c H locs 0 0 (MQ below (q_Qi D vwCl (ax_W a cI L) (ax_A a) r0 σ0) ([.ref (a 0)] : List Value).toArray s 0 0 (ax_A a)) (F0 m 17 ls [])), ∀ (x1 : Int32) (x2 : Int32) (u : q_St) (ls : Array Slot), lv_has ls 3 [(0, .ref (a 0)), (1, .int x1), (2, .int x2)] → fX10_scrub_b51 L N ih17 x1 x2 u = some (r0, σ0) → ∀ (H : Heap) (locs : List Loc), va_P D vwCl (ax_W a cI L u) H → va_S (ax_A a) s.heap H locs → W p l e (headSpec (Cond.code yX10_scrub cX10_scrub 3 (some .int) :: q_T) ({ frames := 4, cells := 0, slots := 0, locals := 88 } : Room)).room s m ([.ref (a 0)] : List Value).toArray below meth c H locs 0 0 (MQ below (q_Qi D vwCl (ax_W a cI L) (ax_A a) r0 σ0) ([.ref (a 0)] : List Value).toArray s 0 0 (ax_A a)) (F0 m 51 ls []) := by
    intro ih17 hi17 x1 x2 u ls hl hF _ _ hP hS
    unfold fX10_scrub_b51 at hF
    refine sx_iinc (d := 1) (k := 2) (lv2 := [(0, .ref (a 0)), (1, .int x1)]) hx hb hF dX10_scrub_51 hl rfl (by decide) (by decide) rfl (fun v4 hF ls hl => ?_)
    refine lv_goto (tgt := 17) hx hb dX10_scrub_54 (by decide) ?_
    exact hi17 x1 v4 u ls (lv_sub hl [1, 2, 0] rfl) hF _ _ hP hS
  have hB17 : ∀ (n : Nat) (x1 : Int32) (x2 : Int32) (u : q_St) (ls : Array Slot), lv_has ls 3 [(0, .ref (a 0)), (1, .int x1), (2, .int x2)] → q_lp (fX10_scrub_b17 L N) (fun _ _ _ => none) n x1 x2 u = some (r0, σ0) → ∀ (H : Heap) (locs : List Loc), va_P D vwCl (ax_W a cI L u) H → va_S (ax_A a) s.heap H locs → W p l e (headSpec (Cond.code yX10_scrub cX10_scrub 3 (some .int) :: q_T) ({ frames := 4, cells := 0, slots := 0, locals := 88 } : Room)).room s m ([.ref (a 0)] : List Value).toArray below meth c H locs 0 0 (MQ below (q_Qi D vwCl (ax_W a cI L) (ax_A a) r0 σ0) ([.ref (a 0)] : List Value).toArray s 0 0 (ax_A a)) (F0 m 17 ls []) := by
    intro n
    induction n with
    | zero => intro x1 x2 u ls hl hF; exact absurd (show (none : Option (Int32 × q_St)) = some _ from hF) (fun h => nomatch h)
    | succ n hi17 =>
      intro x1 x2 u ls hl hF _ _ hP hS
      obtain ⟨ih17, hih⟩ : ∃ q, q = q_lp (fX10_scrub_b17 L N) (fun _ _ _ => none) n := ⟨_, rfl⟩
      rw [← hih] at hi17
      have hF : fX10_scrub_b17 L N (q_lp (fX10_scrub_b17 L N) (fun _ _ _ => none) n) x1 x2 u = some (r0, σ0) := hF
      rw [← hih] at hF
      clear hih
      unfold fX10_scrub_b17 at hF
      refine lv_iload_n hx hb dX10_scrub_17 rfl (lv_at hl 2 rfl) ?_
      refine lv_aload_n hx hb dX10_scrub_18 rfl (lv_at hl 0 rfl) ?_
      refine gx_h_disk hx hb hts hown hK hP fl_X10_53 dX10_scrub_19 ?_
      refine gx_disk_sectors hx hb hts hown hK hP fl_X10_259 dX10_scrub_22 ?_
      refine sx_icmp_ge (tgt := 57) hx hb hF dX10_scrub_25 (by decide) (fun hF => ?_) (fun hF => ?_)
      · refine lv_iload_n hx hb dX10_scrub_57 rfl (lv_at hl 1 rfl) ?_
        exact sx_reti (Wd := (ax_W a cI L)) (σ := u) hx hb hr hF hP hS hlocks dX10_scrub_58
      · refine lv_aload_n hx hb dX10_scrub_28 rfl (lv_at hl 0 rfl) ?_
        refine gx_h_space hx hb hts hown hK hP fl_X10_67 dX10_scrub_29 ?_
        refine lv_iload_n hx hb dX10_scrub_32 rfl (lv_at hl 2 rfl) ?_
        obtain ⟨r1, u2, hc3, hF⟩ := q_bnd_some hF
        refine sx_ci (Wd := (ax_W a cI L)) (σ1 := u2) (q_runV (Wd := (ax_W a cI L)) (σ := u) (q0 := 4) (ci := 5) (T := TX5) (N := 6) (As := [.int x2]) (rest := []) hx hb hml hown hts hK hP (kt_X5_isFree hD hc3) cw_X10_262 rfl rfl ⟨Nat.le_of_ble_eq_true rfl, Nat.le_of_ble_eq_true rfl⟩ rfl rfl rfl hl.1 rfl (Nat.le_of_ble_eq_true rfl) dX10_scrub_33) hS (fun H locs hP hS => ?_)
        refine sx_if_ne (tgt := 51) hx hb hF dX10_scrub_36 (by decide) (fun hF => ?_) (fun hF => ?_)
        · exact hB51 ih17 hi17 x1 x2 u2 ls (lv_sub hl [0, 1, 2] rfl) hF _ _ hP hS
        · refine lv_aload_n hx hb dX10_scrub_39 rfl (lv_at hl 0 rfl) ?_
          refine gx_h_volume hx hb hts hown hK hP fl_X10_59 dX10_scrub_40 ?_
          refine lv_iload_n hx hb dX10_scrub_43 rfl (lv_at hl 2 rfl) ?_
          obtain ⟨r5, u6, hc7, hF⟩ := q_bnd_some hF
          refine sx_ci (Wd := (ax_W a cI L)) (σ1 := u6) (q_runV (Wd := (ax_W a cI L)) (σ := u2) (q0 := 2) (ci := 8) (T := TX8) (N := 15) (As := [.int x2]) (rest := []) hx hb hml hown hts hK hP (kt_X8_spot hD hc7) cw_X10_265 rfl rfl ⟨Nat.le_of_ble_eq_true rfl, Nat.le_of_ble_eq_true rfl⟩ rfl rfl rfl hl.1 rfl (Nat.le_of_ble_eq_true rfl) dX10_scrub_44) hS (fun H locs hP hS => ?_)
          refine lv_pop hx hb dX10_scrub_47 rfl ?_
          refine sx_iinc (d := 1) (k := 1) (lv2 := [(0, .ref (a 0)), (2, .int x2)]) hx hb hF dX10_scrub_48 hl rfl (by decide) (by decide) rfl (fun v8 hF ls hl => ?_)
          exact hB51 ih17 hi17 v8 x2 u6 ls (lv_sub hl [1, 0, 2] rfl) hF _ _ hP hS
  unfold fX10_scrub at hF
  refine lv_aload_n hx hb dX10_scrub_0 rfl (lv_at hl 0 rfl) ?_
  refine gx_h_disk hx hb hts hown hK hP fl_X10_53 dX10_scrub_1 ?_
  refine gx_disk_on hx hb hts hown hK hP fl_X10_122 dX10_scrub_4 ?_
  refine sx_if_ne (tgt := 13) hx hb hF dX10_scrub_7 (by decide) (fun hF => ?_) (fun hF => ?_)
  · refine lv_iconst (v := 0) hx hb dX10_scrub_13 (by decide) ?_
    refine lv_istore_n (lv' := [(1, .int 0), (0, .ref (a 0))]) hx hb dX10_scrub_14 rfl hl (by decide) rfl (fun ls hl => ?_)
    refine lv_iconst (v := 0) hx hb dX10_scrub_15 (by decide) ?_
    refine lv_istore_n (lv' := [(2, .int 0), (1, .int 0), (0, .ref (a 0))]) hx hb dX10_scrub_16 rfl hl (by decide) rfl (fun ls hl => ?_)
    exact hB17 N 0 0 u ls (lv_sub hl [2, 1, 0] rfl) hF _ _ hP hS
  · refine lv_bipush (v := (-99)) hx hb dX10_scrub_10 (by decide) ?_
    exact sx_reti (Wd := (ax_W a cI L)) (σ := u) hx hb hr hF hP hS hlocks dX10_scrub_12
set_option maxHeartbeats 4000000 in
set_option maxRecDepth 100000 in
theorem kt_X10_sync {N : Nat} {l : Launch} {D : va_G} {a : Nat → Nat} {cI : Nat → ClassId} {L : Nat → Nat} (hD : ∀ σ, va_D (ax_A a) (ax_W a cI L σ))  {u σ0 : q_St} {r0 : Int32} (hF : fX10_sync L N u = some (r0, σ0)) : Met l yX10_sync (Cond.code yX10_sync cX10_sync 2 (some .int) :: q_T) ({ frames := 7, cells := 0, slots := 0, locals := 172 } : Room) (q_P D vwCl (ax_T cI) (ax_W a cI L) [.ref (a 0)] u) (q_Qi D vwCl (ax_W a cI L) (ax_A a) r0 σ0) 0 0 (ax_A a) := by
  refine Met.ofW (cc := cX10_sync) (maxL := 2) (ret := (some .int)) (by decide) rfl ?_
  intro p e s m args below meth c s₁ B hml hv
  obtain ⟨rfl, hP, hK⟩ := hv
  have hx := B.exec
  have hb := B.bytes
  have hr := B.returns
  have hts := q_ts (atoms_spec (ws := Cond.code yX10_sync cX10_sync 2 (some .int) :: q_T) B.pre)
  have hown : s.vm.findClass RX10 = some m.cls := findClass_of_methodNamed B.named
  have hlocks := B.notSynchronized
  have hS : va_S (ax_A a) s.heap s.heap [] := va_S.rf
  have hl := lv_entry ([.ref (a 0)]) (n := 2) (Nat.le_of_ble_eq_true rfl)
  rw [lg_entry_eq]
  generalize (lg_sl ([.ref (a 0)]) ++ List.replicate (2 - (lg_sl ([.ref (a 0)])).length) Slot.unset).toArray = ls at hl ⊢
  have hl : lv_has ls 2 [(0, .ref (a 0))] := hl
  unfold fX10_sync at hF
  refine lv_aload_n hx hb dX10_sync_0 rfl (lv_at hl 0 rfl) ?_
  refine gx_h_store hx hb hts hown hK hP fl_X10_63 dX10_sync_1 ?_
  refine gx_store_dirtyCount hx hb hts hown hK hP fl_X10_268 dX10_sync_4 ?_
  refine sx_istore_n (lv2 := [(0, .ref (a 0))]) hx hb hF dX10_sync_7 rfl hl (by decide) rfl (fun v1 hF ls hl => ?_)
  refine lv_aload_n hx hb dX10_sync_8 rfl (lv_at hl 1 rfl) ?_
  refine gx_h_store hx hb hts hown hK hP fl_X10_63 dX10_sync_9 ?_
  refine lv_iconst (v := 0) hx hb dX10_sync_12 (by decide) ?_
  obtain ⟨r2, u3, hc4, hF⟩ := q_bnd_some hF
  refine sx_ci (Wd := (ax_W a cI L)) (σ1 := u3) (q_runV (Wd := (ax_W a cI L)) (σ := u) (q0 := 3) (ci := 6) (T := TX6) (N := 9) (As := [.int 0]) (rest := []) hx hb hml hown hts hK hP (kt_X6_commitOver hD hc4) cw_X10_126 rfl rfl ⟨Nat.le_of_ble_eq_true rfl, Nat.le_of_ble_eq_true rfl⟩ rfl rfl rfl hl.1 rfl (Nat.le_of_ble_eq_true rfl) dX10_sync_13) hS (fun H locs hP hS => ?_)
  refine sx_if_eq (tgt := 23) hx hb hF dX10_sync_16 (by decide) (fun hF => ?_) (fun hF => ?_)
  · refine lv_bipush (v := (-99)) hx hb dX10_sync_23 (by decide) ?_
    exact sx_reti (Wd := (ax_W a cI L)) (σ := u3) hx hb hr hF hP hS hlocks dX10_sync_25
  · refine lv_iload_n hx hb dX10_sync_19 rfl (lv_at hl 0 rfl) ?_
    refine lv_goto (tgt := 25) hx hb dX10_sync_20 (by decide) ?_
    exact sx_reti (Wd := (ax_W a cI L)) (σ := u3) hx hb hr hF hP hS hlocks dX10_sync_25
set_option maxHeartbeats 4000000 in
set_option maxRecDepth 100000 in
theorem kt_X10_clean {N : Nat} {l : Launch} {D : va_G} {a : Nat → Nat} {cI : Nat → ClassId} {L : Nat → Nat} (hD : ∀ σ, va_D (ax_A a) (ax_W a cI L σ))  {u σ0 : q_St} {r0 : Int32} (hF : fX10_clean L N u = some (r0, σ0)) : Met l yX10_clean (Cond.code yX10_clean cX10_clean 1 (some .int) :: q_T) ({ frames := 4, cells := 0, slots := 0, locals := 102 } : Room) (q_P D vwCl (ax_T cI) (ax_W a cI L) [.ref (a 0)] u) (q_Qi D vwCl (ax_W a cI L) (ax_A a) r0 σ0) 0 0 (ax_A a) := by
  refine Met.ofW (cc := cX10_clean) (maxL := 1) (ret := (some .int)) (by decide) rfl ?_
  intro p e s m args below meth c s₁ B hml hv
  obtain ⟨rfl, hP, hK⟩ := hv
  have hx := B.exec
  have hb := B.bytes
  have hr := B.returns
  have hts := q_ts (atoms_spec (ws := Cond.code yX10_clean cX10_clean 1 (some .int) :: q_T) B.pre)
  have hown : s.vm.findClass RX10 = some m.cls := findClass_of_methodNamed B.named
  have hlocks := B.notSynchronized
  have hS : va_S (ax_A a) s.heap s.heap [] := va_S.rf
  have hl := lv_entry ([.ref (a 0)]) (n := 1) (Nat.le_of_ble_eq_true rfl)
  rw [lg_entry_eq]
  generalize (lg_sl ([.ref (a 0)]) ++ List.replicate (1 - (lg_sl ([.ref (a 0)])).length) Slot.unset).toArray = ls at hl ⊢
  have hl : lv_has ls 1 [(0, .ref (a 0))] := hl
  unfold fX10_clean at hF
  refine lv_aload_n hx hb dX10_clean_0 rfl (lv_at hl 0 rfl) ?_
  refine gx_h_disk hx hb hts hown hK hP fl_X10_53 dX10_clean_1 ?_
  refine gx_disk_on hx hb hts hown hK hP fl_X10_122 dX10_clean_4 ?_
  refine sx_if_eq (tgt := 20) hx hb hF dX10_clean_7 (by decide) (fun hF => ?_) (fun hF => ?_)
  · refine lv_bipush (v := (-99)) hx hb dX10_clean_20 (by decide) ?_
    exact sx_reti (Wd := (ax_W a cI L)) (σ := u) hx hb hr hF hP hS hlocks dX10_clean_22
  · refine lv_aload_n hx hb dX10_clean_10 rfl (lv_at hl 0 rfl) ?_
    refine gx_h_volume hx hb hts hown hK hP fl_X10_59 dX10_clean_11 ?_
    obtain ⟨r1, u2, hc3, hF⟩ := q_bnd_some hF
    refine sx_ci (Wd := (ax_W a cI L)) (σ1 := u2) (q_runV (Wd := (ax_W a cI L)) (σ := u) (q0 := 2) (ci := 8) (T := TX8) (N := 15) (As := []) (rest := []) hx hb hml hown hts hK hP (kt_X8_step hD hc3) cw_X10_271 rfl rfl ⟨Nat.le_of_ble_eq_true rfl, Nat.le_of_ble_eq_true rfl⟩ rfl rfl rfl hl.1 rfl (Nat.le_of_ble_eq_true rfl) dX10_clean_14) hS (fun H locs hP hS => ?_)
    refine lv_goto (tgt := 22) hx hb dX10_clean_17 (by decide) ?_
    exact sx_reti (Wd := (ax_W a cI L)) (σ := u2) hx hb hr hF hP hS hlocks dX10_clean_22
set_option maxHeartbeats 4000000 in
set_option maxRecDepth 100000 in
theorem kt_X10_power {N : Nat} {l : Launch} {D : va_G} {a : Nat → Nat} {cI : Nat → ClassId} {L : Nat → Nat} (hD : ∀ σ, va_D (ax_A a) (ax_W a cI L σ)) {o1 : Int32} {u σ0 : q_St} {r0 : Int32} (hF : fX10_power L N o1 u = some (r0, σ0)) : Met l yX10_power (Cond.code yX10_power cX10_power 2 (some .boolean) :: q_T) ({ frames := 1, cells := 0, slots := 0, locals := 14 } : Room) (q_P D vwCl (ax_T cI) (ax_W a cI L) [.ref (a 0), .int o1] u) (q_Qi D vwCl (ax_W a cI L) (ax_A a) r0 σ0) 0 0 (ax_A a) := by
  refine Met.ofW (cc := cX10_power) (maxL := 2) (ret := (some .boolean)) (by decide) rfl ?_
  intro p e s m args below meth c s₁ B hml hv
  obtain ⟨rfl, hP, hK⟩ := hv
  have hx := B.exec
  have hb := B.bytes
  have hr := B.returns
  have hts := q_ts (atoms_spec (ws := Cond.code yX10_power cX10_power 2 (some .boolean) :: q_T) B.pre)
  have hown : s.vm.findClass RX10 = some m.cls := findClass_of_methodNamed B.named
  have hlocks := B.notSynchronized
  have hS : va_S (ax_A a) s.heap s.heap [] := va_S.rf
  have hl := lv_entry ([.ref (a 0), .int o1]) (n := 2) (Nat.le_of_ble_eq_true rfl)
  rw [lg_entry_eq]
  generalize (lg_sl ([.ref (a 0), .int o1]) ++ List.replicate (2 - (lg_sl ([.ref (a 0), .int o1])).length) Slot.unset).toArray = ls at hl ⊢
  have hl : lv_has ls 2 [(0, .ref (a 0)), (1, .int o1)] := hl
  unfold fX10_power at hF
  refine lv_aload_n hx hb dX10_power_0 rfl (lv_at hl 0 rfl) ?_
  refine gx_h_disk hx hb hts hown hK hP fl_X10_53 dX10_power_1 ?_
  refine lv_iload_n hx hb dX10_power_4 rfl (lv_at hl 1 rfl) ?_
  refine lv_iconst (v := (-1)) hx hb dX10_power_5 (by decide) ?_
  refine sx_max hx hb (hml.trans hl.1.symm) hown hts lw_X10_274 lb_max_s lb_math lb_max_c (Nat.le_of_ble_eq_true rfl) (Nat.le_of_ble_eq_true rfl) dX10_power_6 ?_
  refine px_disk_cut hx hb hts hown hK hP fl_X10_279 hD hS hF dX10_power_9 (fun u1 H locs hF hP hS => ?_)
  refine lv_aload_n hx hb dX10_power_12 rfl (lv_at hl 0 rfl) ?_
  refine gx_h_disk hx hb hts hown hK hP fl_X10_53 dX10_power_13 ?_
  refine gx_disk_on hx hb hts hown hK hP fl_X10_122 dX10_power_16 ?_
  exact sx_retzv (Wd := (ax_W a cI L)) (σ := u1) hx hb hr hF hP hS hlocks dX10_power_19
set_option maxHeartbeats 4000000 in
set_option maxRecDepth 100000 in
theorem kt_X2_writes {N : Nat} {l : Launch} {D : va_G} {a : Nat → Nat} {cI : Nat → ClassId} {L : Nat → Nat} (hD : ∀ σ, va_D (ax_A a) (ax_W a cI L σ))  {u σ0 : q_St} {r0 : Int32} (hF : fX2_writes L N u = some (r0, σ0)) : Met l yX2_writes (Cond.code yX2_writes cX2_writes 1 (some .int) :: q_T) ({ frames := 0, cells := 0, slots := 0, locals := 0 } : Room) (q_P D vwCl (ax_T cI) (ax_W a cI L) [.ref (a 1)] u) (q_Qi D vwCl (ax_W a cI L) (ax_A a) r0 σ0) 0 0 (ax_A a) := by
  refine Met.ofW (cc := cX2_writes) (maxL := 1) (ret := (some .int)) (by decide) rfl ?_
  intro p e s m args below meth c s₁ B hml hv
  obtain ⟨rfl, hP, hK⟩ := hv
  have hx := B.exec
  have hb := B.bytes
  have hr := B.returns
  have hts := q_ts (atoms_spec (ws := Cond.code yX2_writes cX2_writes 1 (some .int) :: q_T) B.pre)
  have hown : s.vm.findClass RX2 = some m.cls := findClass_of_methodNamed B.named
  have hlocks := B.notSynchronized
  have hS : va_S (ax_A a) s.heap s.heap [] := va_S.rf
  have hl := lv_entry ([.ref (a 1)]) (n := 1) (Nat.le_of_ble_eq_true rfl)
  rw [lg_entry_eq]
  generalize (lg_sl ([.ref (a 1)]) ++ List.replicate (1 - (lg_sl ([.ref (a 1)])).length) Slot.unset).toArray = ls at hl ⊢
  have hl : lv_has ls 1 [(0, .ref (a 1))] := hl
  unfold fX2_writes at hF
  refine lv_aload_n hx hb dX2_writes_0 rfl (lv_at hl 0 rfl) ?_
  refine gx_disk_entryWrites hx hb hts hown hK hP fl_X2_56 dX2_writes_1 ?_
  refine lv_aload_n hx hb dX2_writes_4 rfl (lv_at hl 0 rfl) ?_
  refine gx_disk_bandWrites hx hb hts hown hK hP fl_X2_59 dX2_writes_5 ?_
  refine lv_iadd hx hb dX2_writes_8 ?_
  refine lv_aload_n hx hb dX2_writes_9 rfl (lv_at hl 0 rfl) ?_
  refine gx_disk_scratchWrites hx hb hts hown hK hP fl_X2_62 dX2_writes_10 ?_
  refine lv_iadd hx hb dX2_writes_13 ?_
  refine lv_aload_n hx hb dX2_writes_14 rfl (lv_at hl 0 rfl) ?_
  refine gx_disk_recordWrites hx hb hts hown hK hP fl_X2_65 dX2_writes_15 ?_
  refine lv_iadd hx hb dX2_writes_18 ?_
  exact sx_reti (Wd := (ax_W a cI L)) (σ := u) hx hb hr hF hP hS hlocks dX2_writes_19
set_option maxHeartbeats 4000000 in
set_option maxRecDepth 100000 in
theorem kt_X7_byteOf_9 {N : Nat} {l : Launch} {D : va_G} {a : Nat → Nat} {cI : Nat → ClassId} {L : Nat → Nat} (hD : ∀ σ, va_D (ax_A a) (ax_W a cI L σ)) {o1 : Int32} {u σ0 : q_St} {r0 : Int32} (hF : fX7_byteOf_9 L N o1 u = some (r0, σ0)) : Met l yX7_byteOf (Cond.code yX7_byteOf cX7_byteOf 2 (some .int) :: q_T) ({ frames := 0, cells := 0, slots := 0, locals := 0 } : Room) (q_P D vwCl (ax_T cI) (ax_W a cI L) [.ref (a 9), .int o1] u) (q_Qi D vwCl (ax_W a cI L) (ax_A a) r0 σ0) 0 0 (ax_A a) := by
  refine Met.ofW (cc := cX7_byteOf) (maxL := 2) (ret := (some .int)) (by decide) rfl ?_
  intro p e s m args below meth c s₁ B hml hv
  obtain ⟨rfl, hP, hK⟩ := hv
  have hx := B.exec
  have hb := B.bytes
  have hr := B.returns
  have hts := q_ts (atoms_spec (ws := Cond.code yX7_byteOf cX7_byteOf 2 (some .int) :: q_T) B.pre)
  have hown : s.vm.findClass RX7 = some m.cls := findClass_of_methodNamed B.named
  have hlocks := B.notSynchronized
  have hS : va_S (ax_A a) s.heap s.heap [] := va_S.rf
  have hl := lv_entry ([.ref (a 9), .int o1]) (n := 2) (Nat.le_of_ble_eq_true rfl)
  rw [lg_entry_eq]
  generalize (lg_sl ([.ref (a 9), .int o1]) ++ List.replicate (2 - (lg_sl ([.ref (a 9), .int o1])).length) Slot.unset).toArray = ls at hl ⊢
  have hl : lv_has ls 2 [(0, .ref (a 9)), (1, .int o1)] := hl
  unfold fX7_byteOf_9 at hF
  refine lv_iload_n hx hb dX7_byteOf_0 rfl (lv_at hl 1 rfl) ?_
  refine sx_if_lt (tgt := 30) hx hb hF dX7_byteOf_1 (by decide) (fun hF => ?_) (fun hF => ?_)
  · refine lv_iconst (v := 0) hx hb dX7_byteOf_30 (by decide) ?_
    exact sx_reti (Wd := (ax_W a cI L)) (σ := u) hx hb hr hF hP hS hlocks dX7_byteOf_31
  · refine lv_iload_n hx hb dX7_byteOf_4 rfl (lv_at hl 1 rfl) ?_
    refine lv_aload_n hx hb dX7_byteOf_5 rfl (lv_at hl 0 rfl) ?_
    refine gx_zeros_length hx hb hts hown hK hP fl_X7_13 dX7_byteOf_6 ?_
    refine sx_icmp_ge (tgt := 30) hx hb hF dX7_byteOf_9 (by decide) (fun hF => ?_) (fun hF => ?_)
    · refine lv_iconst (v := 0) hx hb dX7_byteOf_30 (by decide) ?_
      exact sx_reti (Wd := (ax_W a cI L)) (σ := u) hx hb hr hF hP hS hlocks dX7_byteOf_31
    · refine lv_iload_n hx hb dX7_byteOf_12 rfl (lv_at hl 1 rfl) ?_
      refine lv_aload_n hx hb dX7_byteOf_13 rfl (lv_at hl 0 rfl) ?_
      refine gx_zeros_bytes hx hb hts hown hK hP fl_X7_7 dX7_byteOf_14 ?_
      refine nx_zeros_bytes hx hb hK hP dX7_byteOf_17 ?_
      refine sx_icmp_ge (tgt := 30) hx hb hF dX7_byteOf_18 (by decide) (fun hF => ?_) (fun hF => ?_)
      · refine lv_iconst (v := 0) hx hb dX7_byteOf_30 (by decide) ?_
        exact sx_reti (Wd := (ax_W a cI L)) (σ := u) hx hb hr hF hP hS hlocks dX7_byteOf_31
      · refine lv_aload_n hx hb dX7_byteOf_21 rfl (lv_at hl 0 rfl) ?_
        refine gx_zeros_bytes hx hb hts hown hK hP fl_X7_7 dX7_byteOf_22 ?_
        refine lv_iload_n hx hb dX7_byteOf_25 rfl (lv_at hl 1 rfl) ?_
        refine lx_zeros_bytes hx hb hK hP hF dX7_byteOf_26 (fun v1 hF => ?_)
        refine lv_goto (tgt := 31) hx hb dX7_byteOf_27 (by decide) ?_
        exact sx_reti (Wd := (ax_W a cI L)) (σ := u) hx hb hr hF hP hS hlocks dX7_byteOf_31
set_option maxHeartbeats 4000000 in
set_option maxRecDepth 100000 in
theorem kt_X8_fill_9 {N : Nat} {l : Launch} {D : va_G} {a : Nat → Nat} {cI : Nat → ClassId} {L : Nat → Nat} (hD : ∀ σ, va_D (ax_A a) (ax_W a cI L σ))  {u σ0 : q_St} {r0 : Int32} (hF : fX8_fill_9 L N u = some (r0, σ0)) : Met l yX8_fill (Cond.code yX8_fill cX8_fill 8 (some .boolean) :: q_T) ({ frames := 2, cells := 0, slots := 0, locals := 57 } : Room) (q_P D vwCl (ax_T cI) (ax_W a cI L) [.ref (a 2), .ref (a 9)] u) (q_Qi D vwCl (ax_W a cI L) (ax_A a) r0 σ0) 0 0 (ax_A a) := by
  refine Met.ofW (cc := cX8_fill) (maxL := 8) (ret := (some .boolean)) (by decide) rfl ?_
  intro p e s m args below meth c s₁ B hml hv
  obtain ⟨rfl, hP, hK⟩ := hv
  have hx := B.exec
  have hb := B.bytes
  have hr := B.returns
  have hts := q_ts (atoms_spec (ws := Cond.code yX8_fill cX8_fill 8 (some .boolean) :: q_T) B.pre)
  have hown : s.vm.findClass RX8 = some m.cls := findClass_of_methodNamed B.named
  have hlocks := B.notSynchronized
  have hS : va_S (ax_A a) s.heap s.heap [] := va_S.rf
  have hl := lv_entry ([.ref (a 2), .ref (a 9)]) (n := 8) (Nat.le_of_ble_eq_true rfl)
  rw [lg_entry_eq]
  generalize (lg_sl ([.ref (a 2), .ref (a 9)]) ++ List.replicate (8 - (lg_sl ([.ref (a 2), .ref (a 9)])).length) Slot.unset).toArray = ls at hl ⊢
  have hl : lv_has ls 8 [(0, .ref (a 2)), (1, .ref (a 9))] := hl
  have hB72 : ∀ (ih4 : Int32 → Int32 → q_St → Option (Int32 × q_St)) (hi4 : ∀ (x2 : Int32) (x3 : Int32) (u : q_St) (ls : Array Slot), lv_has ls 8 [(0, .ref (a 2)), (1, .ref (a 9)), (2, .int x2), (3, .int x3)] → ih4 x2 x3 u = some (r0, σ0) → ∀ (H : Heap) (locs : List Loc), va_P D vwCl (ax_W a cI L u) H → va_S (ax_A a) s.heap H locs → W p l e (headSpec (Cond.code yX8_fill cX8_fill 8 (some .boolean) :: q_T) ({ frames := 2, cells := 0, slots := 0, locals := 57 } : Room)).room s m ([.ref (a 2), .ref (a 9)] : List Value).toArray below meth c H locs 0 0 (MQ below (q_Qi D vwCl (ax_W a cI L) (ax_A a) r0 σ0) ([.ref (a 2), .ref (a 9)] : List Value).toArray s 0 0 (ax_A a)) (F0 m 4 ls [])), ∀ (ih18 : Int32 → Int32 → Int32 → q_St → Option (Int32 × q_St)) (hi18 : ∀ (x2 : Int32) (x3 : Int32) (x4 : Int32) (u : q_St) (ls : Array Slot), lv_has ls 8 [(0, .ref (a 2)), (1, .ref (a 9)), (2, .int x2), (3, .int x3), (4, .int x4)] → ih18 x2 x3 x4 u = some (r0, σ0) → ∀ (H : Heap) (locs : List Loc), va_P D vwCl (ax_W a cI L u) H → va_S (ax_A a) s.heap H locs → W p l e (headSpec (Cond.code yX8_fill cX8_fill 8 (some .boolean) :: q_T) ({ frames := 2, cells := 0, slots := 0, locals := 57 } : Room)).room s m ([.ref (a 2), .ref (a 9)] : List Value).toArray below meth c H locs 0 0 (MQ below (q_Qi D vwCl (ax_W a cI L) (ax_A a) r0 σ0) ([.ref (a 2), .ref (a 9)] : List Value).toArray s 0 0 (ax_A a)) (F0 m 18 ls [])), ∀ (ih31 : Int32 → Int32 → Int32 → Int64 → Int32 → q_St → Option (Int32 × q_St)) (hi31 : ∀ (x2 : Int32) (x3 : Int32) (x4 : Int32) (x5 : Int64) (x7 : Int32) (u : q_St) (ls : Array Slot), lv_has ls 8 [(0, .ref (a 2)), (1, .ref (a 9)), (2, .int x2), (3, .int x3), (4, .int x4), (5, .long x5), (7, .int x7)] → ih31 x2 x3 x4 x5 x7 u = some (r0, σ0) → ∀ (H : Heap) (locs : List Loc), va_P D vwCl (ax_W a cI L u) H → va_S (ax_A a) s.heap H locs → W p l e (headSpec (Cond.code yX8_fill cX8_fill 8 (some .boolean) :: q_T) ({ frames := 2, cells := 0, slots := 0, locals := 57 } : Room)).room s m ([.ref (a 2), .ref (a 9)] : List Value).toArray below meth c H locs 0 0 (MQ below (q_Qi D vwCl (ax_W a cI L) (ax_A a) r0 σ0) ([.ref (a 2), .ref (a 9)] : List Value).toArray s 0 0 (ax_A a)) (F0 m 31 ls [])), ∀ (x3 : Int32) (x4 : Int32) (x5 : Int64) (x7 : Int32) (y0 : Int32) (u : q_St) (ls : Array Slot), lv_has ls 8 [(0, .ref (a 2)), (1, .ref (a 9)), (3, .int x3), (4, .int x4), (5, .long x5), (7, .int x7)] → fX8_fill_9_b72 L N ih4 ih18 ih31 x3 x4 x5 x7 y0 u = some (r0, σ0) → ∀ (H : Heap) (locs : List Loc), va_P D vwCl (ax_W a cI L u) H → va_S (ax_A a) s.heap H locs → W p l e (headSpec (Cond.code yX8_fill cX8_fill 8 (some .boolean) :: q_T) ({ frames := 2, cells := 0, slots := 0, locals := 57 } : Room)).room s m ([.ref (a 2), .ref (a 9)] : List Value).toArray below meth c H locs 0 0 (MQ below (q_Qi D vwCl (ax_W a cI L) (ax_A a) r0 σ0) ([.ref (a 2), .ref (a 9)] : List Value).toArray s 0 0 (ax_A a)) (F0 m 72 ls [.int y0]) := by
    intro ih4 hi4 ih18 hi18 ih31 hi31 x3 x4 x5 x7 y0 u ls hl hF _ _ hP hS
    unfold fX8_fill_9_b72 at hF
    refine lv_istore_n (lv' := [(2, .int y0), (0, .ref (a 2)), (1, .ref (a 9)), (3, .int x3), (4, .int x4), (5, .long x5), (7, .int x7)]) hx hb dX8_fill_72 rfl hl (by decide) rfl (fun ls hl => ?_)
    refine sx_iinc (d := 1) (k := 6) (lv2 := [(2, .int y0), (0, .ref (a 2)), (1, .ref (a 9)), (3, .int x3), (4, .int x4), (5, .long x5)]) hx hb hF dX8_fill_73 hl rfl (by decide) (by decide) rfl (fun v11 hF ls hl => ?_)
    refine lv_goto (tgt := 31) hx hb dX8_fill_76 (by decide) ?_
    exact hi31 y0 x3 x4 x5 v11 u ls (lv_sub hl [2, 3, 1, 4, 5, 6, 0] rfl) hF _ _ hP hS
  have hB31 : ∀ (ih4 : Int32 → Int32 → q_St → Option (Int32 × q_St)) (hi4 : ∀ (x2 : Int32) (x3 : Int32) (u : q_St) (ls : Array Slot), lv_has ls 8 [(0, .ref (a 2)), (1, .ref (a 9)), (2, .int x2), (3, .int x3)] → ih4 x2 x3 u = some (r0, σ0) → ∀ (H : Heap) (locs : List Loc), va_P D vwCl (ax_W a cI L u) H → va_S (ax_A a) s.heap H locs → W p l e (headSpec (Cond.code yX8_fill cX8_fill 8 (some .boolean) :: q_T) ({ frames := 2, cells := 0, slots := 0, locals := 57 } : Room)).room s m ([.ref (a 2), .ref (a 9)] : List Value).toArray below meth c H locs 0 0 (MQ below (q_Qi D vwCl (ax_W a cI L) (ax_A a) r0 σ0) ([.ref (a 2), .ref (a 9)] : List Value).toArray s 0 0 (ax_A a)) (F0 m 4 ls [])), ∀ (ih18 : Int32 → Int32 → Int32 → q_St → Option (Int32 × q_St)) (hi18 : ∀ (x2 : Int32) (x3 : Int32) (x4 : Int32) (u : q_St) (ls : Array Slot), lv_has ls 8 [(0, .ref (a 2)), (1, .ref (a 9)), (2, .int x2), (3, .int x3), (4, .int x4)] → ih18 x2 x3 x4 u = some (r0, σ0) → ∀ (H : Heap) (locs : List Loc), va_P D vwCl (ax_W a cI L u) H → va_S (ax_A a) s.heap H locs → W p l e (headSpec (Cond.code yX8_fill cX8_fill 8 (some .boolean) :: q_T) ({ frames := 2, cells := 0, slots := 0, locals := 57 } : Room)).room s m ([.ref (a 2), .ref (a 9)] : List Value).toArray below meth c H locs 0 0 (MQ below (q_Qi D vwCl (ax_W a cI L) (ax_A a) r0 σ0) ([.ref (a 2), .ref (a 9)] : List Value).toArray s 0 0 (ax_A a)) (F0 m 18 ls [])), ∀ (n : Nat) (x2 : Int32) (x3 : Int32) (x4 : Int32) (x5 : Int64) (x7 : Int32) (u : q_St) (ls : Array Slot), lv_has ls 8 [(0, .ref (a 2)), (1, .ref (a 9)), (2, .int x2), (3, .int x3), (4, .int x4), (5, .long x5), (7, .int x7)] → q_lp (fX8_fill_9_b31 L N ih4 ih18) (fun _ _ _ _ _ _ => none) n x2 x3 x4 x5 x7 u = some (r0, σ0) → ∀ (H : Heap) (locs : List Loc), va_P D vwCl (ax_W a cI L u) H → va_S (ax_A a) s.heap H locs → W p l e (headSpec (Cond.code yX8_fill cX8_fill 8 (some .boolean) :: q_T) ({ frames := 2, cells := 0, slots := 0, locals := 57 } : Room)).room s m ([.ref (a 2), .ref (a 9)] : List Value).toArray below meth c H locs 0 0 (MQ below (q_Qi D vwCl (ax_W a cI L) (ax_A a) r0 σ0) ([.ref (a 2), .ref (a 9)] : List Value).toArray s 0 0 (ax_A a)) (F0 m 31 ls []) := by
    intro ih4 hi4 ih18 hi18 n
    induction n with
    | zero => intro x2 x3 x4 x5 x7 u ls hl hF; exact absurd (show (none : Option (Int32 × q_St)) = some _ from hF) (fun h => nomatch h)
    | succ n hi31 =>
      intro x2 x3 x4 x5 x7 u ls hl hF _ _ hP hS
      obtain ⟨ih31, hih⟩ : ∃ q, q = q_lp (fX8_fill_9_b31 L N ih4 ih18) (fun _ _ _ _ _ _ => none) n := ⟨_, rfl⟩
      rw [← hih] at hi31
      have hF : fX8_fill_9_b31 L N ih4 ih18 (q_lp (fX8_fill_9_b31 L N ih4 ih18) (fun _ _ _ _ _ _ => none) n) x2 x3 x4 x5 x7 u = some (r0, σ0) := hF
      rw [← hih] at hF
      clear hih
      unfold fX8_fill_9_b31 at hF
      refine lv_iload hx hb dX8_fill_31 (lv_at hl 6 rfl) ?_
      refine lv_bipush (v := 8) hx hb dX8_fill_33 (by decide) ?_
      refine sx_icmp_ge (tgt := 79) hx hb hF dX8_fill_35 (by decide) (fun hF => ?_) (fun hF => ?_)
      · refine lv_aload_n hx hb dX8_fill_79 rfl (lv_at hl 0 rfl) ?_
        refine gx_vol_page hx hb hts hown hK hP fl_X8_40 dX8_fill_80 ?_
        refine lv_iload hx hb dX8_fill_83 (lv_at hl 4 rfl) ?_
        refine lv_lload hx hb dX8_fill_85 (lv_at hl 5 rfl) ?_
        refine ux_vol_page hx hb hK hP hD hS hF dX8_fill_87 (fun u5 H locs hF hP hS => ?_)
        refine sx_iinc (d := 1) (k := 4) (lv2 := [(0, .ref (a 2)), (1, .ref (a 9)), (2, .int x2), (3, .int x3), (5, .long x5), (7, .int x7)]) hx hb hF dX8_fill_88 hl rfl (by decide) (by decide) rfl (fun v6 hF ls hl => ?_)
        refine lv_goto (tgt := 18) hx hb dX8_fill_91 (by decide) ?_
        exact hi18 x2 x3 v6 u5 ls (lv_sub hl [1, 2, 3, 4, 0] rfl) hF _ _ hP hS
      · refine lv_lload hx hb dX8_fill_38 (lv_at hl 5 rfl) ?_
        refine lv_aload_n hx hb dX8_fill_40 rfl (lv_at hl 1 rfl) ?_
        refine lv_iload_n hx hb dX8_fill_41 rfl (lv_at hl 2 rfl) ?_
        obtain ⟨r7, u8, hc9, hF⟩ := q_bnd_some hF
        refine sx_ci (Wd := (ax_W a cI L)) (σ1 := u8) (q_runV (Wd := (ax_W a cI L)) (σ := u) (q0 := 9) (ci := 7) (T := TX7) (N := 2) (As := [.int x2]) (rest := [.long x5]) hx hb hml hown hts hK hP (kt_X7_byteOf_9 hD hc9) cw_X8_156 rfl rfl ⟨Nat.le_of_ble_eq_true rfl, Nat.le_of_ble_eq_true rfl⟩ rfl rfl rfl hl.1 rfl (Nat.le_of_ble_eq_true rfl) dX8_fill_42) hS (fun H locs hP hS => ?_)
        refine lv_i2l (v := Int32.toInt64 r7) hx hb dX8_fill_45 rfl ?_
        refine lv_bipush (v := 8) hx hb dX8_fill_46 (by decide) ?_
        refine lv_iload hx hb dX8_fill_48 (lv_at hl 6 rfl) ?_
        refine lv_imul hx hb dX8_fill_50 ?_
        refine lv_lshl (v := q_lshl (Int32.toInt64 r7) (8 * x7)) hx hb dX8_fill_51 rfl ?_
        refine lv_lor hx hb dX8_fill_52 ?_
        refine sx_lstore (lv2 := [(0, .ref (a 2)), (1, .ref (a 9)), (2, .int x2), (3, .int x3), (4, .int x4), (7, .int x7)]) hx hb hF dX8_fill_53 hl (by decide) rfl (fun v10 hF ls hl => ?_)
        refine lv_iload_n hx hb dX8_fill_55 rfl (lv_at hl 3 rfl) ?_
        refine lv_iconst (v := 1) hx hb dX8_fill_56 (by decide) ?_
        refine lv_iadd hx hb dX8_fill_57 ?_
        refine lv_aload_n hx hb dX8_fill_58 rfl (lv_at hl 2 rfl) ?_
        refine gx_zeros_length hx hb hts hown hK hP fl_X8_159 dX8_fill_59 ?_
        refine sx_icmp_ge (tgt := 71) hx hb hF dX8_fill_62 (by decide) (fun hF => ?_) (fun hF => ?_)
        · refine lv_iconst (v := 0) hx hb dX8_fill_71 (by decide) ?_
          exact hB72 ih4 hi4 ih18 hi18 ih31 hi31 x3 x4 v10 x7 0 u8 ls (lv_sub hl [1, 2, 4, 5, 0, 6] rfl) hF _ _ hP hS
        · refine lv_iload_n hx hb dX8_fill_65 rfl (lv_at hl 3 rfl) ?_
          refine lv_iconst (v := 1) hx hb dX8_fill_66 (by decide) ?_
          refine lv_iadd hx hb dX8_fill_67 ?_
          refine lv_goto (tgt := 72) hx hb dX8_fill_68 (by decide) ?_
          exact hB72 ih4 hi4 ih18 hi18 ih31 hi31 x3 x4 v10 x7 (x2 + 1) u8 ls (lv_sub hl [1, 2, 4, 5, 0, 6] rfl) hF _ _ hP hS
  have hB18 : ∀ (ih4 : Int32 → Int32 → q_St → Option (Int32 × q_St)) (hi4 : ∀ (x2 : Int32) (x3 : Int32) (u : q_St) (ls : Array Slot), lv_has ls 8 [(0, .ref (a 2)), (1, .ref (a 9)), (2, .int x2), (3, .int x3)] → ih4 x2 x3 u = some (r0, σ0) → ∀ (H : Heap) (locs : List Loc), va_P D vwCl (ax_W a cI L u) H → va_S (ax_A a) s.heap H locs → W p l e (headSpec (Cond.code yX8_fill cX8_fill 8 (some .boolean) :: q_T) ({ frames := 2, cells := 0, slots := 0, locals := 57 } : Room)).room s m ([.ref (a 2), .ref (a 9)] : List Value).toArray below meth c H locs 0 0 (MQ below (q_Qi D vwCl (ax_W a cI L) (ax_A a) r0 σ0) ([.ref (a 2), .ref (a 9)] : List Value).toArray s 0 0 (ax_A a)) (F0 m 4 ls [])), ∀ (n : Nat) (x2 : Int32) (x3 : Int32) (x4 : Int32) (u : q_St) (ls : Array Slot), lv_has ls 8 [(0, .ref (a 2)), (1, .ref (a 9)), (2, .int x2), (3, .int x3), (4, .int x4)] → q_lp (fX8_fill_9_b18 L N ih4) (fun _ _ _ _ => none) n x2 x3 x4 u = some (r0, σ0) → ∀ (H : Heap) (locs : List Loc), va_P D vwCl (ax_W a cI L u) H → va_S (ax_A a) s.heap H locs → W p l e (headSpec (Cond.code yX8_fill cX8_fill 8 (some .boolean) :: q_T) ({ frames := 2, cells := 0, slots := 0, locals := 57 } : Room)).room s m ([.ref (a 2), .ref (a 9)] : List Value).toArray below meth c H locs 0 0 (MQ below (q_Qi D vwCl (ax_W a cI L) (ax_A a) r0 σ0) ([.ref (a 2), .ref (a 9)] : List Value).toArray s 0 0 (ax_A a)) (F0 m 18 ls []) := by
    intro ih4 hi4 n
    induction n with
    | zero => intro x2 x3 x4 u ls hl hF; exact absurd (show (none : Option (Int32 × q_St)) = some _ from hF) (fun h => nomatch h)
    | succ n hi18 =>
      intro x2 x3 x4 u ls hl hF _ _ hP hS
      obtain ⟨ih18, hih⟩ : ∃ q, q = q_lp (fX8_fill_9_b18 L N ih4) (fun _ _ _ _ => none) n := ⟨_, rfl⟩
      rw [← hih] at hi18
      have hF : fX8_fill_9_b18 L N ih4 (q_lp (fX8_fill_9_b18 L N ih4) (fun _ _ _ _ => none) n) x2 x3 x4 u = some (r0, σ0) := hF
      rw [← hih] at hF
      clear hih
      unfold fX8_fill_9_b18 at hF
      refine lv_iload hx hb dX8_fill_18 (lv_at hl 4 rfl) ?_
      refine lv_bipush (v := 8) hx hb dX8_fill_20 (by decide) ?_
      refine sx_icmp_ge (tgt := 94) hx hb hF dX8_fill_22 (by decide) (fun hF => ?_) (fun hF => ?_)
      · refine lv_aload_n hx hb dX8_fill_94 rfl (lv_at hl 0 rfl) ?_
        refine gx_vol_disk hx hb hts hown hK hP fl_X8_9 dX8_fill_95 ?_
        refine lv_aload_n hx hb dX8_fill_98 rfl (lv_at hl 0 rfl) ?_
        refine gx_vol_streamed hx hb hts hown hK hP fl_X8_62 dX8_fill_99 ?_
        refine lv_aload_n hx hb dX8_fill_102 rfl (lv_at hl 0 rfl) ?_
        refine gx_vol_disk hx hb hts hown hK hP fl_X8_9 dX8_fill_103 ?_
        refine gx_disk_bandSize hx hb hts hown hK hP fl_X8_71 dX8_fill_106 ?_
        refine lv_imul hx hb dX8_fill_109 ?_
        refine lv_iload_n hx hb dX8_fill_110 rfl (lv_at hl 3 rfl) ?_
        refine lv_iadd hx hb dX8_fill_111 ?_
        refine lv_aload_n hx hb dX8_fill_112 rfl (lv_at hl 0 rfl) ?_
        refine gx_vol_page hx hb hts hown hK hP fl_X8_40 dX8_fill_113 ?_
        refine lv_iconst (v := 0) hx hb dX8_fill_116 (by decide) ?_
        obtain ⟨r1, u2, hc3, hF⟩ := q_bnd_some hF
        refine sx_ci (Wd := (ax_W a cI L)) (σ1 := u2) (q_runV (Wd := (ax_W a cI L)) (σ := u) (q0 := 1) (ci := 2) (T := TX2) (N := 15) (As := [.int (((q_i u 20) * (q_i u 4)) + x3), .ref (a 18), .int 0]) (rest := []) hx hb hml hown hts hK hP (kt_X2_writeShingle_18 hD hc3) cw_X8_144 rfl rfl ⟨Nat.le_of_ble_eq_true rfl, Nat.le_of_ble_eq_true rfl⟩ rfl rfl rfl hl.1 rfl (Nat.le_of_ble_eq_true rfl) dX8_fill_117) hS (fun H locs hP hS => ?_)
        refine sx_if_ne (tgt := 125) hx hb hF dX8_fill_120 (by decide) (fun hF => ?_) (fun hF => ?_)
        · refine sx_iinc (d := 1) (k := 3) (lv2 := [(0, .ref (a 2)), (1, .ref (a 9)), (2, .int x2), (4, .int x4)]) hx hb hF dX8_fill_125 hl rfl (by decide) (by decide) rfl (fun v4 hF ls hl => ?_)
          refine lv_goto (tgt := 4) hx hb dX8_fill_128 (by decide) ?_
          exact hi4 x2 v4 u2 ls (lv_sub hl [1, 2, 3, 0] rfl) hF _ _ hP hS
        · refine lv_iconst (v := 0) hx hb dX8_fill_123 (by decide) ?_
          exact sx_retz (Wd := (ax_W a cI L)) (σ := u2) hx hb hr (by decide) hF hP hS hlocks dX8_fill_124
      · refine lv_lconst (v := 0) hx hb dX8_fill_25 (by decide) ?_
        refine lv_lstore (lv' := [(5, .long 0), (0, .ref (a 2)), (1, .ref (a 9)), (2, .int x2), (3, .int x3), (4, .int x4)]) hx hb dX8_fill_26 hl (by decide) rfl (fun ls hl => ?_)
        refine lv_iconst (v := 0) hx hb dX8_fill_28 (by decide) ?_
        refine lv_istore (lv' := [(7, .int 0), (5, .long 0), (0, .ref (a 2)), (1, .ref (a 9)), (2, .int x2), (3, .int x3), (4, .int x4)]) hx hb dX8_fill_29 hl (by decide) rfl (fun ls hl => ?_)
        exact hB31 ih4 hi4 ih18 hi18 N x2 x3 x4 0 0 u ls (lv_sub hl [2, 3, 4, 5, 6, 1, 0] rfl) hF _ _ hP hS
  have hB4 : ∀ (n : Nat) (x2 : Int32) (x3 : Int32) (u : q_St) (ls : Array Slot), lv_has ls 8 [(0, .ref (a 2)), (1, .ref (a 9)), (2, .int x2), (3, .int x3)] → q_lp (fX8_fill_9_b4 L N) (fun _ _ _ => none) n x2 x3 u = some (r0, σ0) → ∀ (H : Heap) (locs : List Loc), va_P D vwCl (ax_W a cI L u) H → va_S (ax_A a) s.heap H locs → W p l e (headSpec (Cond.code yX8_fill cX8_fill 8 (some .boolean) :: q_T) ({ frames := 2, cells := 0, slots := 0, locals := 57 } : Room)).room s m ([.ref (a 2), .ref (a 9)] : List Value).toArray below meth c H locs 0 0 (MQ below (q_Qi D vwCl (ax_W a cI L) (ax_A a) r0 σ0) ([.ref (a 2), .ref (a 9)] : List Value).toArray s 0 0 (ax_A a)) (F0 m 4 ls []) := by
    intro n
    induction n with
    | zero => intro x2 x3 u ls hl hF; exact absurd (show (none : Option (Int32 × q_St)) = some _ from hF) (fun h => nomatch h)
    | succ n hi4 =>
      intro x2 x3 u ls hl hF _ _ hP hS
      obtain ⟨ih4, hih⟩ : ∃ q, q = q_lp (fX8_fill_9_b4 L N) (fun _ _ _ => none) n := ⟨_, rfl⟩
      rw [← hih] at hi4
      have hF : fX8_fill_9_b4 L N (q_lp (fX8_fill_9_b4 L N) (fun _ _ _ => none) n) x2 x3 u = some (r0, σ0) := hF
      rw [← hih] at hF
      clear hih
      unfold fX8_fill_9_b4 at hF
      refine lv_iload_n hx hb dX8_fill_4 rfl (lv_at hl 3 rfl) ?_
      refine lv_aload_n hx hb dX8_fill_5 rfl (lv_at hl 0 rfl) ?_
      refine gx_vol_disk hx hb hts hown hK hP fl_X8_9 dX8_fill_6 ?_
      refine gx_disk_bandSize hx hb hts hown hK hP fl_X8_71 dX8_fill_9 ?_
      refine sx_icmp_ge (tgt := 131) hx hb hF dX8_fill_12 (by decide) (fun hF => ?_) (fun hF => ?_)
      · refine lv_iconst (v := 1) hx hb dX8_fill_131 (by decide) ?_
        exact sx_retz (Wd := (ax_W a cI L)) (σ := u) hx hb hr (by decide) hF hP hS hlocks dX8_fill_132
      · refine lv_iconst (v := 0) hx hb dX8_fill_15 (by decide) ?_
        refine lv_istore (lv' := [(4, .int 0), (0, .ref (a 2)), (1, .ref (a 9)), (2, .int x2), (3, .int x3)]) hx hb dX8_fill_16 hl (by decide) rfl (fun ls hl => ?_)
        exact hB18 ih4 hi4 N x2 x3 0 u ls (lv_sub hl [1, 2, 3, 4, 0] rfl) hF _ _ hP hS
  unfold fX8_fill_9 at hF
  refine lv_iconst (v := 0) hx hb dX8_fill_0 (by decide) ?_
  refine lv_istore_n (lv' := [(2, .int 0), (0, .ref (a 2)), (1, .ref (a 9))]) hx hb dX8_fill_1 rfl hl (by decide) rfl (fun ls hl => ?_)
  refine lv_iconst (v := 0) hx hb dX8_fill_2 (by decide) ?_
  refine lv_istore_n (lv' := [(3, .int 0), (2, .int 0), (0, .ref (a 2)), (1, .ref (a 9))]) hx hb dX8_fill_3 rfl hl (by decide) rfl (fun ls hl => ?_)
  exact hB4 N 0 0 u ls (lv_sub hl [2, 3, 1, 0] rfl) hF _ _ hP hS
set_option maxHeartbeats 4000000 in
set_option maxRecDepth 100000 in
theorem kt_X8_recover {N : Nat} {l : Launch} {D : va_G} {a : Nat → Nat} {cI : Nat → ClassId} {L : Nat → Nat} (hD : ∀ σ, va_D (ax_A a) (ax_W a cI L σ))  {u σ0 : q_St} {r0 : Int32} (hF : fX8_recover L N u = some (r0, σ0)) : Met l yX8_recover (Cond.code yX8_recover cX8_recover 2 (some .boolean) :: q_T) ({ frames := 3, cells := 0, slots := 0, locals := 84 } : Room) (q_P D vwCl (ax_T cI) (ax_W a cI L) [.ref (a 2)] u) (q_Qi D vwCl (ax_W a cI L) (ax_A a) r0 σ0) 0 0 (ax_A a) := by
  refine Met.ofW (cc := cX8_recover) (maxL := 2) (ret := (some .boolean)) (by decide) rfl ?_
  intro p e s m args below meth c s₁ B hml hv
  obtain ⟨rfl, hP, hK⟩ := hv
  have hx := B.exec
  have hb := B.bytes
  have hr := B.returns
  have hts := q_ts (atoms_spec (ws := Cond.code yX8_recover cX8_recover 2 (some .boolean) :: q_T) B.pre)
  have hown : s.vm.findClass RX8 = some m.cls := findClass_of_methodNamed B.named
  have hlocks := B.notSynchronized
  have hS : va_S (ax_A a) s.heap s.heap [] := va_S.rf
  have hl := lv_entry ([.ref (a 2)]) (n := 2) (Nat.le_of_ble_eq_true rfl)
  rw [lg_entry_eq]
  generalize (lg_sl ([.ref (a 2)]) ++ List.replicate (2 - (lg_sl ([.ref (a 2)])).length) Slot.unset).toArray = ls at hl ⊢
  have hl : lv_has ls 2 [(0, .ref (a 2))] := hl
  have hB88 : ∀ (u : q_St) (ls : Array Slot), lv_has ls 2 [] → fX8_recover_b88 L N u = some (r0, σ0) → ∀ (H : Heap) (locs : List Loc), va_P D vwCl (ax_W a cI L u) H → va_S (ax_A a) s.heap H locs → W p l e (headSpec (Cond.code yX8_recover cX8_recover 2 (some .boolean) :: q_T) ({ frames := 3, cells := 0, slots := 0, locals := 84 } : Room)).room s m ([.ref (a 2)] : List Value).toArray below meth c H locs 0 0 (MQ below (q_Qi D vwCl (ax_W a cI L) (ax_A a) r0 σ0) ([.ref (a 2)] : List Value).toArray s 0 0 (ax_A a)) (F0 m 88 ls []) := by
    intro u ls hl hF _ _ hP hS
    unfold fX8_recover_b88 at hF
    refine lv_iconst (v := 1) hx hb dX8_recover_88 (by decide) ?_
    refine lv_goto (tgt := 93) hx hb dX8_recover_89 (by decide) ?_
    exact sx_retz (Wd := (ax_W a cI L)) (σ := u) hx hb hr (by decide) hF hP hS hlocks dX8_recover_93
  have hB62 : ∀ (u : q_St) (ls : Array Slot), lv_has ls 2 [(0, .ref (a 2))] → fX8_recover_b62 L N u = some (r0, σ0) → ∀ (H : Heap) (locs : List Loc), va_P D vwCl (ax_W a cI L u) H → va_S (ax_A a) s.heap H locs → W p l e (headSpec (Cond.code yX8_recover cX8_recover 2 (some .boolean) :: q_T) ({ frames := 3, cells := 0, slots := 0, locals := 84 } : Room)).room s m ([.ref (a 2)] : List Value).toArray below meth c H locs 0 0 (MQ below (q_Qi D vwCl (ax_W a cI L) (ax_A a) r0 σ0) ([.ref (a 2)] : List Value).toArray s 0 0 (ax_A a)) (F0 m 62 ls []) := by
    intro u ls hl hF _ _ hP hS
    unfold fX8_recover_b62 at hF
    refine lv_aload_n hx hb dX8_recover_62 rfl (lv_at hl 0 rfl) ?_
    refine gx_vol_streamed hx hb hts hown hK hP fl_X8_62 dX8_recover_63 ?_
    refine lv_iconst (v := (-1)) hx hb dX8_recover_66 (by decide) ?_
    refine sx_icmp_eq (tgt := 88) hx hb hF dX8_recover_67 (by decide) (fun hF => ?_) (fun hF => ?_)
    · exact hB88 u ls (lv_sub hl [] rfl) hF _ _ hP hS
    · refine lv_aload_n hx hb dX8_recover_70 rfl (lv_at hl 0 rfl) ?_
      refine lv_aload_n hx hb dX8_recover_71 rfl (lv_at hl 0 rfl) ?_
      refine gx_vol_zeros hx hb hts hown hK hP fl_X8_49 dX8_recover_72 ?_
      obtain ⟨r2, u3, hc4, hF⟩ := q_bnd_some hF
      refine sx_ci (Wd := (ax_W a cI L)) (σ1 := u3) (q_runV (Wd := (ax_W a cI L)) (σ := u) (q0 := 2) (ci := 8) (T := TX8) (N := 15) (As := [.ref (a 9)]) (rest := []) hx hb hml hown hts hK hP (kt_X8_fill_9 hD hc4) cw_X8_150 rfl rfl ⟨Nat.le_of_ble_eq_true rfl, Nat.le_of_ble_eq_true rfl⟩ rfl rfl rfl hl.1 rfl (Nat.le_of_ble_eq_true rfl) dX8_recover_75) hS (fun H locs hP hS => ?_)
      refine sx_if_eq (tgt := 92) hx hb hF dX8_recover_78 (by decide) (fun hF => ?_) (fun hF => ?_)
      · refine lv_iconst (v := 0) hx hb dX8_recover_92 (by decide) ?_
        exact sx_retz (Wd := (ax_W a cI L)) (σ := u3) hx hb hr (by decide) hF hP hS hlocks dX8_recover_93
      · refine lv_aload_n hx hb dX8_recover_81 rfl (lv_at hl 0 rfl) ?_
        obtain ⟨r5, u6, hc7, hF⟩ := q_bnd_some hF
        refine sx_ci (Wd := (ax_W a cI L)) (σ1 := u6) (q_runV (Wd := (ax_W a cI L)) (σ := u3) (q0 := 2) (ci := 8) (T := TX8) (N := 15) (As := []) (rest := []) hx hb hml hown hts hK hP (kt_X8_endStream hD hc7) cw_X8_153 rfl rfl ⟨Nat.le_of_ble_eq_true rfl, Nat.le_of_ble_eq_true rfl⟩ rfl rfl rfl hl.1 rfl (Nat.le_of_ble_eq_true rfl) dX8_recover_82) hS (fun H locs hP hS => ?_)
        refine sx_if_eq (tgt := 92) hx hb hF dX8_recover_85 (by decide) (fun hF => ?_) (fun hF => ?_)
        · refine lv_iconst (v := 0) hx hb dX8_recover_92 (by decide) ?_
          exact sx_retz (Wd := (ax_W a cI L)) (σ := u6) hx hb hr (by decide) hF hP hS hlocks dX8_recover_93
        · exact hB88 u6 ls (lv_sub hl [] rfl) hF _ _ hP hS
  have hB27 : ∀ (n : Nat) (x1 : Int32) (u : q_St) (ls : Array Slot), lv_has ls 2 [(0, .ref (a 2)), (1, .int x1)] → q_lp (fX8_recover_b27 L N) (fun _ _ => none) n x1 u = some (r0, σ0) → ∀ (H : Heap) (locs : List Loc), va_P D vwCl (ax_W a cI L u) H → va_S (ax_A a) s.heap H locs → W p l e (headSpec (Cond.code yX8_recover cX8_recover 2 (some .boolean) :: q_T) ({ frames := 3, cells := 0, slots := 0, locals := 84 } : Room)).room s m ([.ref (a 2)] : List Value).toArray below meth c H locs 0 0 (MQ below (q_Qi D vwCl (ax_W a cI L) (ax_A a) r0 σ0) ([.ref (a 2)] : List Value).toArray s 0 0 (ax_A a)) (F0 m 27 ls []) := by
    intro n
    induction n with
    | zero => intro x1 u ls hl hF; exact absurd (show (none : Option (Int32 × q_St)) = some _ from hF) (fun h => nomatch h)
    | succ n hi27 =>
      intro x1 u ls hl hF _ _ hP hS
      obtain ⟨ih27, hih⟩ : ∃ q, q = q_lp (fX8_recover_b27 L N) (fun _ _ => none) n := ⟨_, rfl⟩
      rw [← hih] at hi27
      have hF : fX8_recover_b27 L N (q_lp (fX8_recover_b27 L N) (fun _ _ => none) n) x1 u = some (r0, σ0) := hF
      rw [← hih] at hF
      clear hih
      unfold fX8_recover_b27 at hF
      refine lv_iload_n hx hb dX8_recover_27 rfl (lv_at hl 1 rfl) ?_
      refine lv_aload_n hx hb dX8_recover_28 rfl (lv_at hl 0 rfl) ?_
      refine gx_vol_disk hx hb hts hown hK hP fl_X8_9 dX8_recover_29 ?_
      refine gx_disk_tracks hx hb hts hown hK hP fl_X8_106 dX8_recover_32 ?_
      refine sx_icmp_ge (tgt := 53) hx hb hF dX8_recover_35 (by decide) (fun hF => ?_) (fun hF => ?_)
      · refine lv_aload_n hx hb dX8_recover_53 rfl (lv_at hl 0 rfl) ?_
        obtain ⟨r8, u9, hc10, hF⟩ := q_bnd_some hF
        refine sx_ci (Wd := (ax_W a cI L)) (σ1 := u9) (q_runV (Wd := (ax_W a cI L)) (σ := u) (q0 := 2) (ci := 8) (T := TX8) (N := 15) (As := []) (rest := []) hx hb hml hown hts hK hP (kt_X8_finish hD hc10) cw_X8_128 rfl rfl ⟨Nat.le_of_ble_eq_true rfl, Nat.le_of_ble_eq_true rfl⟩ rfl rfl rfl hl.1 rfl (Nat.le_of_ble_eq_true rfl) dX8_recover_54) hS (fun H locs hP hS => ?_)
        refine sx_if_ne (tgt := 62) hx hb hF dX8_recover_57 (by decide) (fun hF => ?_) (fun hF => ?_)
        · exact hB62 u9 ls (lv_sub hl [0] rfl) hF _ _ hP hS
        · refine lv_iconst (v := 0) hx hb dX8_recover_60 (by decide) ?_
          exact sx_retz (Wd := (ax_W a cI L)) (σ := u9) hx hb hr (by decide) hF hP hS hlocks dX8_recover_61
      · refine lv_aload_n hx hb dX8_recover_38 rfl (lv_at hl 0 rfl) ?_
        obtain ⟨r11, u12, hc13, hF⟩ := q_bnd_some hF
        refine sx_ci (Wd := (ax_W a cI L)) (σ1 := u12) (q_runV (Wd := (ax_W a cI L)) (σ := u) (q0 := 2) (ci := 8) (T := TX8) (N := 15) (As := []) (rest := []) hx hb hml hown hts hK hP (kt_X8_bringBack hD hc13) cw_X8_125 rfl rfl ⟨Nat.le_of_ble_eq_true rfl, Nat.le_of_ble_eq_true rfl⟩ rfl rfl rfl hl.1 rfl (Nat.le_of_ble_eq_true rfl) dX8_recover_39) hS (fun H locs hP hS => ?_)
        refine sx_if_ne (tgt := 47) hx hb hF dX8_recover_42 (by decide) (fun hF => ?_) (fun hF => ?_)
        · refine sx_iinc (d := 1) (k := 1) (lv2 := [(0, .ref (a 2))]) hx hb hF dX8_recover_47 hl rfl (by decide) (by decide) rfl (fun v14 hF ls hl => ?_)
          refine lv_goto (tgt := 27) hx hb dX8_recover_50 (by decide) ?_
          exact hi27 v14 u12 ls (lv_sub hl [1, 0] rfl) hF _ _ hP hS
        · refine lv_iconst (v := 0) hx hb dX8_recover_45 (by decide) ?_
          exact sx_retz (Wd := (ax_W a cI L)) (σ := u12) hx hb hr (by decide) hF hP hS hlocks dX8_recover_46
  have hB17 : ∀ (u : q_St) (ls : Array Slot), lv_has ls 2 [(0, .ref (a 2))] → fX8_recover_b17 L N u = some (r0, σ0) → ∀ (H : Heap) (locs : List Loc), va_P D vwCl (ax_W a cI L u) H → va_S (ax_A a) s.heap H locs → W p l e (headSpec (Cond.code yX8_recover cX8_recover 2 (some .boolean) :: q_T) ({ frames := 3, cells := 0, slots := 0, locals := 84 } : Room)).room s m ([.ref (a 2)] : List Value).toArray below meth c H locs 0 0 (MQ below (q_Qi D vwCl (ax_W a cI L) (ax_A a) r0 σ0) ([.ref (a 2)] : List Value).toArray s 0 0 (ax_A a)) (F0 m 17 ls []) := by
    intro u ls hl hF _ _ hP hS
    unfold fX8_recover_b17 at hF
    refine lv_aload_n hx hb dX8_recover_17 rfl (lv_at hl 0 rfl) ?_
    refine gx_vol_cleanBand hx hb hts hown hK hP fl_X8_59 dX8_recover_18 ?_
    refine lv_iconst (v := (-1)) hx hb dX8_recover_21 (by decide) ?_
    refine sx_icmp_eq (tgt := 62) hx hb hF dX8_recover_22 (by decide) (fun hF => ?_) (fun hF => ?_)
    · exact hB62 u ls (lv_sub hl [0] rfl) hF _ _ hP hS
    · refine lv_iconst (v := 0) hx hb dX8_recover_25 (by decide) ?_
      refine lv_istore_n (lv' := [(1, .int 0), (0, .ref (a 2))]) hx hb dX8_recover_26 rfl hl (by decide) rfl (fun ls hl => ?_)
      exact hB27 N 0 u ls (lv_sub hl [1, 0] rfl) hF _ _ hP hS
  unfold fX8_recover at hF
  refine lv_aload_n hx hb dX8_recover_0 rfl (lv_at hl 0 rfl) ?_
  refine lv_iconst (v := 0) hx hb dX8_recover_1 (by decide) ?_
  refine px_vol_track hx hb hts hown hK hP fl_X8_103 hD hS hF dX8_recover_2 (fun u1 H locs hF hP hS => ?_)
  refine lv_aload_n hx hb dX8_recover_5 rfl (lv_at hl 0 rfl) ?_
  refine gx_vol_safe hx hb hts hown hK hP fl_X8_82 dX8_recover_6 ?_
  refine sx_if_ne (tgt := 17) hx hb hF dX8_recover_9 (by decide) (fun hF => ?_) (fun hF => ?_)
  · exact hB17 u1 ls (lv_sub hl [0] rfl) hF _ _ hP hS
  · refine lv_aload_n hx hb dX8_recover_12 rfl (lv_at hl 0 rfl) ?_
    refine lv_iconst (v := (-1)) hx hb dX8_recover_13 (by decide) ?_
    refine px_vol_cleanBand hx hb hts hown hK hP fl_X8_59 hD hS hF dX8_recover_14 (fun u15 H locs hF hP hS => ?_)
    exact hB17 u15 ls (lv_sub hl [0] rfl) hF _ _ hP hS
