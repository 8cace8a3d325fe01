set_option maxHeartbeats 4000000 in
set_option maxRecDepth 100000 in
theorem kt_X11_tape {N : Nat} {l : Launch} {D : va_G} {a : Nat → Nat} {cI : Nat → ClassId} (hD : ∀ σ, va_D (am_A a) (am_W a cI σ)) {o1 : Int32} {u σ0 : q_St} {r0 : Unit} (hF : fX11_tape N o1 u = some (r0, σ0)) : Met l yX11_tape (Cond.code yX11_tape cX11_tape 3 none :: q_T) ({ frames := 0, cells := 0, slots := 0, locals := 0 } : Room) (q_P D vwCl (am_T cI) (am_W a cI) [.ref (a 0), .int o1] u) (q_Qv D vwCl (am_W a cI) (am_A a) σ0) 0 0 (am_A a) := by
  refine Met.ofW (cc := cX11_tape) (maxL := 3) (ret := none) (by decide) rfl ?_
  intro p e s m args below meth c s₁ B hml hv
  obtain ⟨rfl, hP, hK⟩ := hv
  have hx := B.exec
  have hb := B.bytes
  have hr := B.returns
  have hts := q_ts (atoms_spec (ws := Cond.code yX11_tape cX11_tape 3 none :: q_T) B.pre)
  have hown : s.vm.findClass RX11 = some m.cls := findClass_of_methodNamed B.named
  have hlocks := B.notSynchronized
  have hS : va_S (am_A a) s.heap s.heap [] := va_S.rf
  have hl := lv_entry ([.ref (a 0), .int o1]) (n := 3) (Nat.le_of_ble_eq_true rfl)
  rw [lg_entry_eq]
  generalize (lg_sl ([.ref (a 0), .int o1]) ++ List.replicate (3 - (lg_sl ([.ref (a 0), .int o1])).length) Slot.unset).toArray = ls at hl ⊢
  have hl : lv_has ls 3 [(0, .ref (a 0)), (1, .int o1)] := hl
  have hB3 : ∀ (n : Nat) (x1 : Int32) (x2 : Int32) (u : q_St) (ls : Array Slot), lv_has ls 3 [(0, .ref (a 0)), (1, .int x1), (2, .int x2)] → q_lp (fX11_tape_b3 N) (fun _ _ _ => none) n x1 x2 u = some (r0, σ0) → ∀ (H : Heap) (locs : List Loc), va_P D vwCl (am_W a cI u) H → va_S (am_A a) s.heap H locs → W p l e (headSpec (Cond.code yX11_tape cX11_tape 3 none :: q_T) ({ frames := 0, cells := 0, slots := 0, locals := 0 } : Room)).room s m ([.ref (a 0), .int o1] : List Value).toArray below meth c H locs 0 0 (MQ below (q_Qv D vwCl (am_W a cI) (am_A a) σ0) ([.ref (a 0), .int o1] : List Value).toArray s 0 0 (am_A a)) (F0 m 3 ls []) := by
    intro n
    induction n with
    | zero => intro x1 x2 u ls hl hF; exact absurd (show (none : Option (Unit × q_St)) = some _ from hF) (fun h => nomatch h)
    | succ n hi3 =>
      intro x1 x2 u ls hl hF _ _ hP hS
      obtain ⟨ih3, hih⟩ : ∃ q, q = q_lp (fX11_tape_b3 N) (fun _ _ _ => none) n := ⟨_, rfl⟩
      rw [← hih] at hi3
      have hF : fX11_tape_b3 N (q_lp (fX11_tape_b3 N) (fun _ _ _ => none) n) x1 x2 u = some (r0, σ0) := hF
      rw [← hih] at hF
      clear hih
      unfold fX11_tape_b3 at hF
      refine lv_iload_n hx hb dX11_tape_3 rfl (lv_at hl 2 rfl) ?_
      refine sx_if_lt (tgt := 36) hx hb hF dX11_tape_4 (by decide) (fun hF => ?_) (fun hF => ?_)
      · exact sx_retv (Wd := (am_W a cI)) (σ := u) hx hb hr hF hP hS hlocks dX11_tape_36
      · refine lv_aload_n hx hb dX11_tape_7 rfl (lv_at hl 0 rfl) ?_
        refine gm_m_tape hx hb hts hown hK hP fl_X11_140 dX11_tape_8 ?_
        refine lv_aload_n hx hb dX11_tape_11 rfl (lv_at hl 0 rfl) ?_
        refine gm_m_length hx hb hts hown hK hP fl_X11_180 dX11_tape_12 ?_
        refine lv_iload_n hx hb dX11_tape_15 rfl (lv_at hl 1 rfl) ?_
        refine lv_iload_n hx hb dX11_tape_16 rfl (lv_at hl 2 rfl) ?_
        refine lv_ishr hx hb dX11_tape_17 ?_
        refine lv_i2b (v := Int8.toInt32 (Int32.toInt8 (x1 >>> (x2 &&& 31)))) hx hb dX11_tape_18 rfl ?_
        refine um_m_tape hx hb hK hP hD hS hF dX11_tape_19 (fun u1 H locs hF hP hS => ?_)
        refine lv_aload_n hx hb dX11_tape_20 rfl (lv_at hl 0 rfl) ?_
        refine lv_dup hx hb dX11_tape_21 rfl ?_
        refine gm_m_length hx hb hts hown hK hP fl_X11_180 dX11_tape_22 ?_
        refine lv_iconst (v := 1) hx hb dX11_tape_25 (by decide) ?_
        refine lv_iadd hx hb dX11_tape_26 ?_
        refine pm_m_length hx hb hts hown hK hP fl_X11_180 hD hS hF dX11_tape_27 (fun u2 H locs hF hP hS => ?_)
        refine sx_iinc (d := (-8)) (k := 2) (lv2 := [(0, .ref (a 0)), (1, .int x1)]) hx hb hF dX11_tape_30 hl rfl (by decide) (by decide) rfl (fun v3 hF ls hl => ?_)
        refine lv_goto (tgt := 3) hx hb dX11_tape_33 (by decide) ?_
        exact hi3 x1 v3 u2 ls (lv_sub hl [1, 2, 0] rfl) hF _ _ hP hS
  unfold fX11_tape at hF
  refine lv_bipush (v := 24) hx hb dX11_tape_0 (by decide) ?_
  refine lv_istore_n (lv' := [(2, .int 24), (0, .ref (a 0)), (1, .int o1)]) hx hb dX11_tape_2 rfl hl (by decide) rfl (fun ls hl => ?_)
  exact hB3 N o1 24 u ls (lv_sub hl [1, 2, 0] rfl) hF _ _ hP hS
set_option maxHeartbeats 4000000 in
set_option maxRecDepth 100000 in
theorem kt_X11_feed {N : Nat} {l : Launch} {D : va_G} {a : Nat → Nat} {cI : Nat → ClassId} (hD : ∀ σ, va_D (am_A a) (am_W a cI σ)) {o1 : Int32} {o2 : Int32} {o3 : Int32} {o4 : Int32} {o5 : Int32} {u σ0 : q_St} {r0 : Int32} (hF : fX11_feed N o1 o2 o3 o4 o5 u = some (r0, σ0)) : Met l yX11_feed (Cond.code yX11_feed cX11_feed 6 (some .boolean) :: q_T) ({ frames := 1, cells := 0, slots := 0, locals := 22 } : Room) (q_P D vwCl (am_T cI) (am_W a cI) [.ref (a 0), .int o1, .int o2, .int o3, .int o4, .int o5] u) (q_Qi D vwCl (am_W a cI) (am_A a) r0 σ0) 0 0 (am_A a) := by
  refine Met.ofW (cc := cX11_feed) (maxL := 6) (ret := (some .boolean)) (by decide) rfl ?_
  intro p e s m args below meth c s₁ B hml hv
  obtain ⟨rfl, hP, hK⟩ := hv
  have hx := B.exec
  have hb := B.bytes
  have hr := B.returns
  have hts := q_ts (atoms_spec (ws := Cond.code yX11_feed cX11_feed 6 (some .boolean) :: q_T) B.pre)
  have hown : s.vm.findClass RX11 = some m.cls := findClass_of_methodNamed B.named
  have hlocks := B.notSynchronized
  have hS : va_S (am_A a) s.heap s.heap [] := va_S.rf
  have hl := lv_entry ([.ref (a 0), .int o1, .int o2, .int o3, .int o4, .int o5]) (n := 6) (Nat.le_of_ble_eq_true rfl)
  rw [lg_entry_eq]
  generalize (lg_sl ([.ref (a 0), .int o1, .int o2, .int o3, .int o4, .int o5]) ++ List.replicate (6 - (lg_sl ([.ref (a 0), .int o1, .int o2, .int o3, .int o4, .int o5])).length) Slot.unset).toArray = ls at hl ⊢
  have hl : lv_has ls 6 [(0, .ref (a 0)), (1, .int o1), (2, .int o2), (3, .int o3), (4, .int o4), (5, .int o5)] := hl
  unfold fX11_feed at hF
  refine lv_aload_n hx hb dX11_feed_0 rfl (lv_at hl 0 rfl) ?_
  refine gm_m_length hx hb hts hown hK hP fl_X11_180 dX11_feed_1 ?_
  refine lv_sipush (v := 1260) hx hb dX11_feed_4 (by decide) ?_
  refine sx_icmp_le (tgt := 12) hx hb hF dX11_feed_7 (by decide) (fun hF => ?_) (fun hF => ?_)
  · refine lv_aload_n hx hb dX11_feed_12 rfl (lv_at hl 0 rfl) ?_
    refine lv_iload_n hx hb dX11_feed_13 rfl (lv_at hl 1 rfl) ?_
    obtain ⟨r1, u2, hc3, hF⟩ := q_bnd_some hF
    refine sx_cv (Wd := (am_W a cI)) (σ1 := u2) (q_runV (Wd := (am_W a cI)) (σ := u) (q0 := 0) (ci := 11) (T := TX11) (N := 72) (As := [.int o1]) (rest := []) hx hb hml hown hts hK hP (kt_X11_tape hD hc3) cw_X11_183 rfl rfl ⟨Nat.le_of_ble_eq_true rfl, Nat.le_of_ble_eq_true rfl⟩ rfl rfl rfl hl.1 rfl (Nat.le_of_ble_eq_true rfl) dX11_feed_14) hS (fun H locs hP hS => ?_)
    refine lv_aload_n hx hb dX11_feed_17 rfl (lv_at hl 0 rfl) ?_
    refine lv_iload_n hx hb dX11_feed_18 rfl (lv_at hl 2 rfl) ?_
    obtain ⟨r4, u5, hc6, hF⟩ := q_bnd_some hF
    refine sx_cv (Wd := (am_W a cI)) (σ1 := u5) (q_runV (Wd := (am_W a cI)) (σ := u2) (q0 := 0) (ci := 11) (T := TX11) (N := 72) (As := [.int o2]) (rest := []) hx hb hml hown hts hK hP (kt_X11_tape hD hc6) cw_X11_183 rfl rfl ⟨Nat.le_of_ble_eq_true rfl, Nat.le_of_ble_eq_true rfl⟩ rfl rfl rfl hl.1 rfl (Nat.le_of_ble_eq_true rfl) dX11_feed_19) hS (fun H locs hP hS => ?_)
    refine lv_aload_n hx hb dX11_feed_22 rfl (lv_at hl 0 rfl) ?_
    refine lv_iload_n hx hb dX11_feed_23 rfl (lv_at hl 3 rfl) ?_
    obtain ⟨r7, u8, hc9, hF⟩ := q_bnd_some hF
    refine sx_cv (Wd := (am_W a cI)) (σ1 := u8) (q_runV (Wd := (am_W a cI)) (σ := u5) (q0 := 0) (ci := 11) (T := TX11) (N := 72) (As := [.int o3]) (rest := []) hx hb hml hown hts hK hP (kt_X11_tape hD hc9) cw_X11_183 rfl rfl ⟨Nat.le_of_ble_eq_true rfl, Nat.le_of_ble_eq_true rfl⟩ rfl rfl rfl hl.1 rfl (Nat.le_of_ble_eq_true rfl) dX11_feed_24) hS (fun H locs hP hS => ?_)
    refine lv_aload_n hx hb dX11_feed_27 rfl (lv_at hl 0 rfl) ?_
    refine lv_iload hx hb dX11_feed_28 (lv_at hl 4 rfl) ?_
    obtain ⟨r10, u11, hc12, hF⟩ := q_bnd_some hF
    refine sx_cv (Wd := (am_W a cI)) (σ1 := u11) (q_runV (Wd := (am_W a cI)) (σ := u8) (q0 := 0) (ci := 11) (T := TX11) (N := 72) (As := [.int o4]) (rest := []) hx hb hml hown hts hK hP (kt_X11_tape hD hc12) cw_X11_183 rfl rfl ⟨Nat.le_of_ble_eq_true rfl, Nat.le_of_ble_eq_true rfl⟩ rfl rfl rfl hl.1 rfl (Nat.le_of_ble_eq_true rfl) dX11_feed_30) hS (fun H locs hP hS => ?_)
    refine lv_aload_n hx hb dX11_feed_33 rfl (lv_at hl 0 rfl) ?_
    refine lv_iload hx hb dX11_feed_34 (lv_at hl 5 rfl) ?_
    obtain ⟨r13, u14, hc15, hF⟩ := q_bnd_some hF
    refine sx_cv (Wd := (am_W a cI)) (σ1 := u14) (q_runV (Wd := (am_W a cI)) (σ := u11) (q0 := 0) (ci := 11) (T := TX11) (N := 72) (As := [.int o5]) (rest := []) hx hb hml hown hts hK hP (kt_X11_tape hD hc15) cw_X11_183 rfl rfl ⟨Nat.le_of_ble_eq_true rfl, Nat.le_of_ble_eq_true rfl⟩ rfl rfl rfl hl.1 rfl (Nat.le_of_ble_eq_true rfl) dX11_feed_36) hS (fun H locs hP hS => ?_)
    refine lv_iconst (v := 1) hx hb dX11_feed_39 (by decide) ?_
    exact sx_retz (Wd := (am_W a cI)) (σ := u14) hx hb hr (by decide) hF hP hS hlocks dX11_feed_40
  · refine lv_iconst (v := 0) hx hb dX11_feed_10 (by decide) ?_
    exact sx_retz (Wd := (am_W a cI)) (σ := u) hx hb hr (by decide) hF hP hS hlocks dX11_feed_11
set_option maxHeartbeats 4000000 in
set_option maxRecDepth 100000 in
theorem kt_X11_end {N : Nat} {l : Launch} {D : va_G} {a : Nat → Nat} {cI : Nat → ClassId} (hD : ∀ σ, va_D (am_A a) (am_W a cI σ)) {o1 : Int32} {u σ0 : q_St} {r0 : Int32} (hF : fX11_end N o1 u = some (r0, σ0)) : Met l yX11_end (Cond.code yX11_end cX11_end 2 (some .boolean) :: q_T) ({ frames := 0, cells := 0, slots := 0, locals := 0 } : Room) (q_P D vwCl (am_T cI) (am_W a cI) [.ref (a 0), .int o1] u) (q_Qi D vwCl (am_W a cI) (am_A a) r0 σ0) 0 0 (am_A a) := by
  refine Met.ofW (cc := cX11_end) (maxL := 2) (ret := (some .boolean)) (by decide) rfl ?_
  intro p e s m args below meth c s₁ B hml hv
  obtain ⟨rfl, hP, hK⟩ := hv
  have hx := B.exec
  have hb := B.bytes
  have hr := B.returns
  have hts := q_ts (atoms_spec (ws := Cond.code yX11_end cX11_end 2 (some .boolean) :: q_T) B.pre)
  have hown : s.vm.findClass RX11 = some m.cls := findClass_of_methodNamed B.named
  have hlocks := B.notSynchronized
  have hS : va_S (am_A a) s.heap s.heap [] := va_S.rf
  have hl := lv_entry ([.ref (a 0), .int o1]) (n := 2) (Nat.le_of_ble_eq_true rfl)
  rw [lg_entry_eq]
  generalize (lg_sl ([.ref (a 0), .int o1]) ++ List.replicate (2 - (lg_sl ([.ref (a 0), .int o1])).length) Slot.unset).toArray = ls at hl ⊢
  have hl : lv_has ls 2 [(0, .ref (a 0)), (1, .int o1)] := hl
  unfold fX11_end at hF
  refine lv_iload_n hx hb dX11_end_0 rfl (lv_at hl 1 rfl) ?_
  refine sx_if_lt (tgt := 12) hx hb hF dX11_end_1 (by decide) (fun hF => ?_) (fun hF => ?_)
  · refine lv_iconst (v := 0) hx hb dX11_end_12 (by decide) ?_
    exact sx_retz (Wd := (am_W a cI)) (σ := u) hx hb hr (by decide) hF hP hS hlocks dX11_end_13
  · refine lv_iload_n hx hb dX11_end_4 rfl (lv_at hl 1 rfl) ?_
    refine lv_aload_n hx hb dX11_end_5 rfl (lv_at hl 0 rfl) ?_
    refine gm_m_length hx hb hts hown hK hP fl_X11_180 dX11_end_6 ?_
    refine sx_icmp_le (tgt := 14) hx hb hF dX11_end_9 (by decide) (fun hF => ?_) (fun hF => ?_)
    · refine lv_aload_n hx hb dX11_end_14 rfl (lv_at hl 0 rfl) ?_
      refine lv_iload_n hx hb dX11_end_15 rfl (lv_at hl 1 rfl) ?_
      refine pm_m_length hx hb hts hown hK hP fl_X11_180 hD hS hF dX11_end_16 (fun u1 H locs hF hP hS => ?_)
      refine lv_iconst (v := 1) hx hb dX11_end_19 (by decide) ?_
      exact sx_retz (Wd := (am_W a cI)) (σ := u1) hx hb hr (by decide) hF hP hS hlocks dX11_end_20
    · refine lv_iconst (v := 0) hx hb dX11_end_12 (by decide) ?_
      exact sx_retz (Wd := (am_W a cI)) (σ := u) hx hb hr (by decide) hF hP hS hlocks dX11_end_13
set_option maxHeartbeats 4000000 in
set_option maxRecDepth 100000 in
theorem kt_X11_keep {N : Nat} {l : Launch} {D : va_G} {a : Nat → Nat} {cI : Nat → ClassId} (hD : ∀ σ, va_D (am_A a) (am_W a cI σ))  {u σ0 : q_St} {r0 : Unit} (hF : fX11_keep N u = some (r0, σ0)) : Met l yX11_keep (Cond.code yX11_keep cX11_keep 3 none :: q_T) ({ frames := 0, cells := 0, slots := 0, locals := 0 } : Room) (q_P D vwCl (am_T cI) (am_W a cI) [.ref (a 0)] u) (q_Qv D vwCl (am_W a cI) (am_A a) σ0) 0 0 (am_A a) := by
  refine Met.ofW (cc := cX11_keep) (maxL := 3) (ret := none) (by decide) rfl ?_
  intro p e s m args below meth c s₁ B hml hv
  obtain ⟨rfl, hP, hK⟩ := hv
  have hx := B.exec
  have hb := B.bytes
  have hr := B.returns
  have hts := q_ts (atoms_spec (ws := Cond.code yX11_keep cX11_keep 3 none :: q_T) B.pre)
  have hown : s.vm.findClass RX11 = some m.cls := findClass_of_methodNamed B.named
  have hlocks := B.notSynchronized
  have hS : va_S (am_A a) s.heap s.heap [] := va_S.rf
  have hl := lv_entry ([.ref (a 0)]) (n := 3) (Nat.le_of_ble_eq_true rfl)
  rw [lg_entry_eq]
  generalize (lg_sl ([.ref (a 0)]) ++ List.replicate (3 - (lg_sl ([.ref (a 0)])).length) Slot.unset).toArray = ls at hl ⊢
  have hl : lv_has ls 3 [(0, .ref (a 0))] := hl
  have hB309 : ∀ (ih246 : Int32 → q_St → Option (Unit × q_St)) (hi246 : ∀ (x1 : Int32) (u : q_St) (ls : Array Slot), lv_has ls 3 [(0, .ref (a 0)), (1, .int x1)] → ih246 x1 u = some (r0, σ0) → ∀ (H : Heap) (locs : List Loc), va_P D vwCl (am_W a cI u) H → va_S (am_A a) s.heap H locs → W p l e (headSpec (Cond.code yX11_keep cX11_keep 3 none :: q_T) ({ frames := 0, cells := 0, slots := 0, locals := 0 } : Room)).room s m ([.ref (a 0)] : List Value).toArray below meth c H locs 0 0 (MQ below (q_Qv D vwCl (am_W a cI) (am_A a) σ0) ([.ref (a 0)] : List Value).toArray s 0 0 (am_A a)) (F0 m 246 ls [])), ∀ (x1 : Int32) (u : q_St) (ls : Array Slot), lv_has ls 3 [(0, .ref (a 0)), (1, .int x1)] → fX11_keep_b309 N ih246 x1 u = some (r0, σ0) → ∀ (H : Heap) (locs : List Loc), va_P D vwCl (am_W a cI u) H → va_S (am_A a) s.heap H locs → W p l e (headSpec (Cond.code yX11_keep cX11_keep 3 none :: q_T) ({ frames := 0, cells := 0, slots := 0, locals := 0 } : Room)).room s m ([.ref (a 0)] : List Value).toArray below meth c H locs 0 0 (MQ below (q_Qv D vwCl (am_W a cI) (am_A a) σ0) ([.ref (a 0)] : List Value).toArray s 0 0 (am_A a)) (F0 m 309 ls []) := by
    intro ih246 hi246 x1 u ls hl hF _ _ hP hS
    unfold fX11_keep_b309 at hF
    refine sx_iinc (d := 1) (k := 1) (lv2 := [(0, .ref (a 0))]) hx hb hF dX11_keep_309 hl rfl (by decide) (by decide) rfl (fun v4 hF ls hl => ?_)
    refine lv_goto (tgt := 246) hx hb dX11_keep_312 (by decide) ?_
    exact hi246 v4 u ls (lv_sub hl [1, 0] rfl) hF _ _ hP hS
  have hB271 : ∀ (ih246 : Int32 → q_St → Option (Unit × q_St)) (hi246 : ∀ (x1 : Int32) (u : q_St) (ls : Array Slot), lv_has ls 3 [(0, .ref (a 0)), (1, .int x1)] → ih246 x1 u = some (r0, σ0) → ∀ (H : Heap) (locs : List Loc), va_P D vwCl (am_W a cI u) H → va_S (am_A a) s.heap H locs → W p l e (headSpec (Cond.code yX11_keep cX11_keep 3 none :: q_T) ({ frames := 0, cells := 0, slots := 0, locals := 0 } : Room)).room s m ([.ref (a 0)] : List Value).toArray below meth c H locs 0 0 (MQ below (q_Qv D vwCl (am_W a cI) (am_A a) σ0) ([.ref (a 0)] : List Value).toArray s 0 0 (am_A a)) (F0 m 246 ls [])), ∀ (n : Nat) (x1 : Int32) (x2 : Int32) (u : q_St) (ls : Array Slot), lv_has ls 3 [(0, .ref (a 0)), (1, .int x1), (2, .int x2)] → q_lp (fX11_keep_b271 N ih246) (fun _ _ _ => none) n x1 x2 u = some (r0, σ0) → ∀ (H : Heap) (locs : List Loc), va_P D vwCl (am_W a cI u) H → va_S (am_A a) s.heap H locs → W p l e (headSpec (Cond.code yX11_keep cX11_keep 3 none :: q_T) ({ frames := 0, cells := 0, slots := 0, locals := 0 } : Room)).room s m ([.ref (a 0)] : List Value).toArray below meth c H locs 0 0 (MQ below (q_Qv D vwCl (am_W a cI) (am_A a) σ0) ([.ref (a 0)] : List Value).toArray s 0 0 (am_A a)) (F0 m 271 ls []) := by
    intro ih246 hi246 n
    induction n with
    | zero => intro x1 x2 u ls hl hF; exact absurd (show (none : Option (Unit × q_St)) = some _ from hF) (fun h => nomatch h)
    | succ n hi271 =>
      intro x1 x2 u ls hl hF _ _ hP hS
      obtain ⟨ih271, hih⟩ : ∃ q, q = q_lp (fX11_keep_b271 N ih246) (fun _ _ _ => none) n := ⟨_, rfl⟩
      rw [← hih] at hi271
      have hF : fX11_keep_b271 N ih246 (q_lp (fX11_keep_b271 N ih246) (fun _ _ _ => none) n) x1 x2 u = some (r0, σ0) := hF
      rw [← hih] at hF
      clear hih
      unfold fX11_keep_b271 at hF
      refine lv_iload_n hx hb dX11_keep_271 rfl (lv_at hl 2 rfl) ?_
      refine lv_bipush (v := 64) hx hb dX11_keep_272 (by decide) ?_
      refine lv_iload_n hx hb dX11_keep_274 rfl (lv_at hl 1 rfl) ?_
      refine lv_imul hx hb dX11_keep_275 ?_
      refine lv_bipush (v := 64) hx hb dX11_keep_276 (by decide) ?_
      refine lv_iadd hx hb dX11_keep_278 ?_
      refine sx_icmp_ge (tgt := 309) hx hb hF dX11_keep_279 (by decide) (fun hF => ?_) (fun hF => ?_)
      · exact hB309 ih246 hi246 x1 u ls (lv_sub hl [0, 1] rfl) hF _ _ hP hS
      · refine lv_aload_n hx hb dX11_keep_282 rfl (lv_at hl 0 rfl) ?_
        refine gm_m_isDirty hx hb hts hown hK hP fl_X11_134 dX11_keep_283 ?_
        refine lv_iload_n hx hb dX11_keep_286 rfl (lv_at hl 1 rfl) ?_
        refine lm_m_isDirty hx hb hK hP hF dX11_keep_287 (fun v5 hF => ?_)
        refine sx_if_eq (tgt := 309) hx hb hF dX11_keep_288 (by decide) (fun hF => ?_) (fun hF => ?_)
        · exact hB309 ih246 hi246 x1 u ls (lv_sub hl [0, 1] rfl) hF _ _ hP hS
        · refine lv_aload_n hx hb dX11_keep_291 rfl (lv_at hl 0 rfl) ?_
          refine gm_m_keptBytes hx hb hts hown hK hP fl_X11_131 dX11_keep_292 ?_
          refine lv_iload_n hx hb dX11_keep_295 rfl (lv_at hl 2 rfl) ?_
          refine lv_aload_n hx hb dX11_keep_296 rfl (lv_at hl 0 rfl) ?_
          refine gm_m_bytes hx hb hts hown hK hP fl_X11_86 dX11_keep_297 ?_
          refine lv_iload_n hx hb dX11_keep_300 rfl (lv_at hl 2 rfl) ?_
          refine lm_m_bytes hx hb hK hP hF dX11_keep_301 (fun v6 hF => ?_)
          refine um_m_keptBytes hx hb hK hP hD hS hF dX11_keep_302 (fun u7 H locs hF hP hS => ?_)
          refine sx_iinc (d := 1) (k := 2) (lv2 := [(0, .ref (a 0)), (1, .int x1)]) hx hb hF dX11_keep_303 hl rfl (by decide) (by decide) rfl (fun v8 hF ls hl => ?_)
          refine lv_goto (tgt := 271) hx hb dX11_keep_306 (by decide) ?_
          exact hi271 x1 v8 u7 ls (lv_sub hl [1, 2, 0] rfl) hF _ _ hP hS
  have hB246 : ∀ (n : Nat) (x1 : Int32) (u : q_St) (ls : Array Slot), lv_has ls 3 [(0, .ref (a 0)), (1, .int x1)] → q_lp (fX11_keep_b246 N) (fun _ _ => none) n x1 u = some (r0, σ0) → ∀ (H : Heap) (locs : List Loc), va_P D vwCl (am_W a cI u) H → va_S (am_A a) s.heap H locs → W p l e (headSpec (Cond.code yX11_keep cX11_keep 3 none :: q_T) ({ frames := 0, cells := 0, slots := 0, locals := 0 } : Room)).room s m ([.ref (a 0)] : List Value).toArray below meth c H locs 0 0 (MQ below (q_Qv D vwCl (am_W a cI) (am_A a) σ0) ([.ref (a 0)] : List Value).toArray s 0 0 (am_A a)) (F0 m 246 ls []) := by
    intro n
    induction n with
    | zero => intro x1 u ls hl hF; exact absurd (show (none : Option (Unit × q_St)) = some _ from hF) (fun h => nomatch h)
    | succ n hi246 =>
      intro x1 u ls hl hF _ _ hP hS
      obtain ⟨ih246, hih⟩ : ∃ q, q = q_lp (fX11_keep_b246 N) (fun _ _ => none) n := ⟨_, rfl⟩
      rw [← hih] at hi246
      have hF : fX11_keep_b246 N (q_lp (fX11_keep_b246 N) (fun _ _ => none) n) x1 u = some (r0, σ0) := hF
      rw [← hih] at hF
      clear hih
      unfold fX11_keep_b246 at hF
      refine lv_iload_n hx hb dX11_keep_246 rfl (lv_at hl 1 rfl) ?_
      refine lv_aload_n hx hb dX11_keep_247 rfl (lv_at hl 0 rfl) ?_
      refine gm_m_all hx hb hts hown hK hP fl_X11_168 dX11_keep_248 ?_
      refine sx_icmp_ge (tgt := 315) hx hb hF dX11_keep_251 (by decide) (fun hF => ?_) (fun hF => ?_)
      · exact sx_retv (Wd := (am_W a cI)) (σ := u) hx hb hr hF hP hS hlocks dX11_keep_315
      · refine lv_aload_n hx hb dX11_keep_254 rfl (lv_at hl 0 rfl) ?_
        refine gm_m_isKeptUsed hx hb hts hown hK hP fl_X11_128 dX11_keep_255 ?_
        refine lv_iload_n hx hb dX11_keep_258 rfl (lv_at hl 1 rfl) ?_
        refine lv_aload_n hx hb dX11_keep_259 rfl (lv_at hl 0 rfl) ?_
        refine gm_m_isUsed hx hb hts hown hK hP fl_X11_82 dX11_keep_260 ?_
        refine lv_iload_n hx hb dX11_keep_263 rfl (lv_at hl 1 rfl) ?_
        refine lm_m_isUsed hx hb hK hP hF dX11_keep_264 (fun v1 hF => ?_)
        refine um_m_isKeptUsed hx hb hK hP hD hS hF dX11_keep_265 (fun u2 H locs hF hP hS => ?_)
        refine lv_bipush (v := 64) hx hb dX11_keep_266 (by decide) ?_
        refine lv_iload_n hx hb dX11_keep_268 rfl (lv_at hl 1 rfl) ?_
        refine lv_imul hx hb dX11_keep_269 ?_
        refine sx_istore_n (lv2 := [(0, .ref (a 0)), (1, .int x1)]) hx hb hF dX11_keep_270 rfl hl (by decide) rfl (fun v3 hF ls hl => ?_)
        exact hB271 ih246 hi246 N x1 v3 u2 ls (lv_sub hl [1, 2, 0] rfl) hF _ _ hP hS
  have hB207 : ∀ (n : Nat) (x1 : Int32) (u : q_St) (ls : Array Slot), lv_has ls 3 [(0, .ref (a 0)), (1, .int x1)] → q_lp (fX11_keep_b207 N) (fun _ _ => none) n x1 u = some (r0, σ0) → ∀ (H : Heap) (locs : List Loc), va_P D vwCl (am_W a cI u) H → va_S (am_A a) s.heap H locs → W p l e (headSpec (Cond.code yX11_keep cX11_keep 3 none :: q_T) ({ frames := 0, cells := 0, slots := 0, locals := 0 } : Room)).room s m ([.ref (a 0)] : List Value).toArray below meth c H locs 0 0 (MQ below (q_Qv D vwCl (am_W a cI) (am_A a) σ0) ([.ref (a 0)] : List Value).toArray s 0 0 (am_A a)) (F0 m 207 ls []) := by
    intro n
    induction n with
    | zero => intro x1 u ls hl hF; exact absurd (show (none : Option (Unit × q_St)) = some _ from hF) (fun h => nomatch h)
    | succ n hi207 =>
      intro x1 u ls hl hF _ _ hP hS
      obtain ⟨ih207, hih⟩ : ∃ q, q = q_lp (fX11_keep_b207 N) (fun _ _ => none) n := ⟨_, rfl⟩
      rw [← hih] at hi207
      have hF : fX11_keep_b207 N (q_lp (fX11_keep_b207 N) (fun _ _ => none) n) x1 u = some (r0, σ0) := hF
      rw [← hih] at hF
      clear hih
      unfold fX11_keep_b207 at hF
      refine lv_iload_n hx hb dX11_keep_207 rfl (lv_at hl 1 rfl) ?_
      refine lv_sipush (v := 3072) hx hb dX11_keep_208 (by decide) ?_
      refine sx_icmp_ge (tgt := 244) hx hb hF dX11_keep_211 (by decide) (fun hF => ?_) (fun hF => ?_)
      · refine lv_iconst (v := 0) hx hb dX11_keep_244 (by decide) ?_
        refine lv_istore_n (lv' := [(1, .int 0), (0, .ref (a 0))]) hx hb dX11_keep_245 rfl hl (by decide) rfl (fun ls hl => ?_)
        exact hB246 N 0 u ls (lv_sub hl [1, 0] rfl) hF _ _ hP hS
      · refine lv_aload_n hx hb dX11_keep_214 rfl (lv_at hl 0 rfl) ?_
        refine gm_m_keptSlotNode hx hb hts hown hK hP fl_X11_116 dX11_keep_215 ?_
        refine lv_iload_n hx hb dX11_keep_218 rfl (lv_at hl 1 rfl) ?_
        refine lv_aload_n hx hb dX11_keep_219 rfl (lv_at hl 0 rfl) ?_
        refine gm_m_slotNode hx hb hts hown hK hP fl_X11_68 dX11_keep_220 ?_
        refine lv_iload_n hx hb dX11_keep_223 rfl (lv_at hl 1 rfl) ?_
        refine lm_m_slotNode hx hb hK hP hF dX11_keep_224 (fun v9 hF => ?_)
        refine um_m_keptSlotNode hx hb hK hP hD hS hF dX11_keep_225 (fun u10 H locs hF hP hS => ?_)
        refine lv_aload_n hx hb dX11_keep_226 rfl (lv_at hl 0 rfl) ?_
        refine gm_m_keptSlotName hx hb hts hown hK hP fl_X11_119 dX11_keep_227 ?_
        refine lv_iload_n hx hb dX11_keep_230 rfl (lv_at hl 1 rfl) ?_
        refine lv_aload_n hx hb dX11_keep_231 rfl (lv_at hl 0 rfl) ?_
        refine gm_m_slotName hx hb hts hown hK hP fl_X11_71 dX11_keep_232 ?_
        refine lv_iload_n hx hb dX11_keep_235 rfl (lv_at hl 1 rfl) ?_
        refine lm_m_slotName hx hb hK hP hF dX11_keep_236 (fun v11 hF => ?_)
        refine um_m_keptSlotName hx hb hK hP hD hS hF dX11_keep_237 (fun u12 H locs hF hP hS => ?_)
        refine sx_iinc (d := 1) (k := 1) (lv2 := [(0, .ref (a 0))]) hx hb hF dX11_keep_238 hl rfl (by decide) (by decide) rfl (fun v13 hF ls hl => ?_)
        refine lv_goto (tgt := 207) hx hb dX11_keep_241 (by decide) ?_
        exact hi207 v13 u12 ls (lv_sub hl [1, 0] rfl) hF _ _ hP hS
  have hB180 : ∀ (n : Nat) (x1 : Int32) (u : q_St) (ls : Array Slot), lv_has ls 3 [(0, .ref (a 0)), (1, .int x1)] → q_lp (fX11_keep_b180 N) (fun _ _ => none) n x1 u = some (r0, σ0) → ∀ (H : Heap) (locs : List Loc), va_P D vwCl (am_W a cI u) H → va_S (am_A a) s.heap H locs → W p l e (headSpec (Cond.code yX11_keep cX11_keep 3 none :: q_T) ({ frames := 0, cells := 0, slots := 0, locals := 0 } : Room)).room s m ([.ref (a 0)] : List Value).toArray below meth c H locs 0 0 (MQ below (q_Qv D vwCl (am_W a cI) (am_A a) σ0) ([.ref (a 0)] : List Value).toArray s 0 0 (am_A a)) (F0 m 180 ls []) := by
    intro n
    induction n with
    | zero => intro x1 u ls hl hF; exact absurd (show (none : Option (Unit × q_St)) = some _ from hF) (fun h => nomatch h)
    | succ n hi180 =>
      intro x1 u ls hl hF _ _ hP hS
      obtain ⟨ih180, hih⟩ : ∃ q, q = q_lp (fX11_keep_b180 N) (fun _ _ => none) n := ⟨_, rfl⟩
      rw [← hih] at hi180
      have hF : fX11_keep_b180 N (q_lp (fX11_keep_b180 N) (fun _ _ => none) n) x1 u = some (r0, σ0) := hF
      rw [← hih] at hF
      clear hih
      unfold fX11_keep_b180 at hF
      refine lv_iload_n hx hb dX11_keep_180 rfl (lv_at hl 1 rfl) ?_
      refine lv_sipush (v := 768) hx hb dX11_keep_181 (by decide) ?_
      refine sx_icmp_ge (tgt := 205) hx hb hF dX11_keep_184 (by decide) (fun hF => ?_) (fun hF => ?_)
      · refine lv_iconst (v := 0) hx hb dX11_keep_205 (by decide) ?_
        refine lv_istore_n (lv' := [(1, .int 0), (0, .ref (a 0))]) hx hb dX11_keep_206 rfl hl (by decide) rfl (fun ls hl => ?_)
        exact hB207 N 0 u ls (lv_sub hl [1, 0] rfl) hF _ _ hP hS
      · refine lv_aload_n hx hb dX11_keep_187 rfl (lv_at hl 0 rfl) ?_
        refine gm_m_keptBlock hx hb hts hown hK hP fl_X11_113 dX11_keep_188 ?_
        refine lv_iload_n hx hb dX11_keep_191 rfl (lv_at hl 1 rfl) ?_
        refine lv_aload_n hx hb dX11_keep_192 rfl (lv_at hl 0 rfl) ?_
        refine gm_m_block hx hb hts hown hK hP fl_X11_65 dX11_keep_193 ?_
        refine lv_iload_n hx hb dX11_keep_196 rfl (lv_at hl 1 rfl) ?_
        refine lm_m_block hx hb hK hP hF dX11_keep_197 (fun v14 hF => ?_)
        refine um_m_keptBlock hx hb hK hP hD hS hF dX11_keep_198 (fun u15 H locs hF hP hS => ?_)
        refine sx_iinc (d := 1) (k := 1) (lv2 := [(0, .ref (a 0))]) hx hb hF dX11_keep_199 hl rfl (by decide) (by decide) rfl (fun v16 hF ls hl => ?_)
        refine lv_goto (tgt := 180) hx hb dX11_keep_202 (by decide) ?_
        exact hi180 v16 u15 ls (lv_sub hl [1, 0] rfl) hF _ _ hP hS
  have hB153 : ∀ (n : Nat) (x1 : Int32) (u : q_St) (ls : Array Slot), lv_has ls 3 [(0, .ref (a 0)), (1, .int x1)] → q_lp (fX11_keep_b153 N) (fun _ _ => none) n x1 u = some (r0, σ0) → ∀ (H : Heap) (locs : List Loc), va_P D vwCl (am_W a cI u) H → va_S (am_A a) s.heap H locs → W p l e (headSpec (Cond.code yX11_keep cX11_keep 3 none :: q_T) ({ frames := 0, cells := 0, slots := 0, locals := 0 } : Room)).room s m ([.ref (a 0)] : List Value).toArray below meth c H locs 0 0 (MQ below (q_Qv D vwCl (am_W a cI) (am_A a) σ0) ([.ref (a 0)] : List Value).toArray s 0 0 (am_A a)) (F0 m 153 ls []) := by
    intro n
    induction n with
    | zero => intro x1 u ls hl hF; exact absurd (show (none : Option (Unit × q_St)) = some _ from hF) (fun h => nomatch h)
    | succ n hi153 =>
      intro x1 u ls hl hF _ _ hP hS
      obtain ⟨ih153, hih⟩ : ∃ q, q = q_lp (fX11_keep_b153 N) (fun _ _ => none) n := ⟨_, rfl⟩
      rw [← hih] at hi153
      have hF : fX11_keep_b153 N (q_lp (fX11_keep_b153 N) (fun _ _ => none) n) x1 u = some (r0, σ0) := hF
      rw [← hih] at hF
      clear hih
      unfold fX11_keep_b153 at hF
      refine lv_iload_n hx hb dX11_keep_153 rfl (lv_at hl 1 rfl) ?_
      refine lv_sipush (v := 2560) hx hb dX11_keep_154 (by decide) ?_
      refine sx_icmp_ge (tgt := 178) hx hb hF dX11_keep_157 (by decide) (fun hF => ?_) (fun hF => ?_)
      · refine lv_iconst (v := 0) hx hb dX11_keep_178 (by decide) ?_
        refine lv_istore_n (lv' := [(1, .int 0), (0, .ref (a 0))]) hx hb dX11_keep_179 rfl hl (by decide) rfl (fun ls hl => ?_)
        exact hB180 N 0 u ls (lv_sub hl [1, 0] rfl) hF _ _ hP hS
      · refine lv_aload_n hx hb dX11_keep_160 rfl (lv_at hl 0 rfl) ?_
        refine gm_m_keptText hx hb hts hown hK hP fl_X11_125 dX11_keep_161 ?_
        refine lv_iload_n hx hb dX11_keep_164 rfl (lv_at hl 1 rfl) ?_
        refine lv_aload_n hx hb dX11_keep_165 rfl (lv_at hl 0 rfl) ?_
        refine gm_m_text hx hb hts hown hK hP fl_X11_78 dX11_keep_166 ?_
        refine lv_iload_n hx hb dX11_keep_169 rfl (lv_at hl 1 rfl) ?_
        refine lm_m_text hx hb hK hP hF dX11_keep_170 (fun v17 hF => ?_)
        refine um_m_keptText hx hb hK hP hD hS hF dX11_keep_171 (fun u18 H locs hF hP hS => ?_)
        refine sx_iinc (d := 1) (k := 1) (lv2 := [(0, .ref (a 0))]) hx hb hF dX11_keep_172 hl rfl (by decide) (by decide) rfl (fun v19 hF ls hl => ?_)
        refine lv_goto (tgt := 153) hx hb dX11_keep_175 (by decide) ?_
        exact hi153 v19 u18 ls (lv_sub hl [1, 0] rfl) hF _ _ hP hS
  have hB127 : ∀ (n : Nat) (x1 : Int32) (u : q_St) (ls : Array Slot), lv_has ls 3 [(0, .ref (a 0)), (1, .int x1)] → q_lp (fX11_keep_b127 N) (fun _ _ => none) n x1 u = some (r0, σ0) → ∀ (H : Heap) (locs : List Loc), va_P D vwCl (am_W a cI u) H → va_S (am_A a) s.heap H locs → W p l e (headSpec (Cond.code yX11_keep cX11_keep 3 none :: q_T) ({ frames := 0, cells := 0, slots := 0, locals := 0 } : Room)).room s m ([.ref (a 0)] : List Value).toArray below meth c H locs 0 0 (MQ below (q_Qv D vwCl (am_W a cI) (am_A a) σ0) ([.ref (a 0)] : List Value).toArray s 0 0 (am_A a)) (F0 m 127 ls []) := by
    intro n
    induction n with
    | zero => intro x1 u ls hl hF; exact absurd (show (none : Option (Unit × q_St)) = some _ from hF) (fun h => nomatch h)
    | succ n hi127 =>
      intro x1 u ls hl hF _ _ hP hS
      obtain ⟨ih127, hih⟩ : ∃ q, q = q_lp (fX11_keep_b127 N) (fun _ _ => none) n := ⟨_, rfl⟩
      rw [← hih] at hi127
      have hF : fX11_keep_b127 N (q_lp (fX11_keep_b127 N) (fun _ _ => none) n) x1 u = some (r0, σ0) := hF
      rw [← hih] at hF
      clear hih
      unfold fX11_keep_b127 at hF
      refine lv_iload_n hx hb dX11_keep_127 rfl (lv_at hl 1 rfl) ?_
      refine lv_ldc (v := 68352) hx hb hown (hts _ kc_X11_52) dX11_keep_128 ?_
      refine sx_icmp_ge (tgt := 151) hx hb hF dX11_keep_130 (by decide) (fun hF => ?_) (fun hF => ?_)
      · refine lv_iconst (v := 0) hx hb dX11_keep_151 (by decide) ?_
        refine lv_istore_n (lv' := [(1, .int 0), (0, .ref (a 0))]) hx hb dX11_keep_152 rfl hl (by decide) rfl (fun ls hl => ?_)
        exact hB153 N 0 u ls (lv_sub hl [1, 0] rfl) hF _ _ hP hS
      · refine lv_aload_n hx hb dX11_keep_133 rfl (lv_at hl 0 rfl) ?_
        refine gm_m_keptPiece hx hb hts hown hK hP fl_X11_101 dX11_keep_134 ?_
        refine lv_iload_n hx hb dX11_keep_137 rfl (lv_at hl 1 rfl) ?_
        refine lv_aload_n hx hb dX11_keep_138 rfl (lv_at hl 0 rfl) ?_
        refine gm_m_piece hx hb hts hown hK hP fl_X11_53 dX11_keep_139 ?_
        refine lv_iload_n hx hb dX11_keep_142 rfl (lv_at hl 1 rfl) ?_
        refine lm_m_piece hx hb hK hP hF dX11_keep_143 (fun v20 hF => ?_)
        refine um_m_keptPiece hx hb hK hP hD hS hF dX11_keep_144 (fun u21 H locs hF hP hS => ?_)
        refine sx_iinc (d := 1) (k := 1) (lv2 := [(0, .ref (a 0))]) hx hb hF dX11_keep_145 hl rfl (by decide) (by decide) rfl (fun v22 hF ls hl => ?_)
        refine lv_goto (tgt := 127) hx hb dX11_keep_148 (by decide) ?_
        exact hi127 v22 u21 ls (lv_sub hl [1, 0] rfl) hF _ _ hP hS
  have hB100 : ∀ (n : Nat) (x1 : Int32) (u : q_St) (ls : Array Slot), lv_has ls 3 [(0, .ref (a 0)), (1, .int x1)] → q_lp (fX11_keep_b100 N) (fun _ _ => none) n x1 u = some (r0, σ0) → ∀ (H : Heap) (locs : List Loc), va_P D vwCl (am_W a cI u) H → va_S (am_A a) s.heap H locs → W p l e (headSpec (Cond.code yX11_keep cX11_keep 3 none :: q_T) ({ frames := 0, cells := 0, slots := 0, locals := 0 } : Room)).room s m ([.ref (a 0)] : List Value).toArray below meth c H locs 0 0 (MQ below (q_Qv D vwCl (am_W a cI) (am_A a) σ0) ([.ref (a 0)] : List Value).toArray s 0 0 (am_A a)) (F0 m 100 ls []) := by
    intro n
    induction n with
    | zero => intro x1 u ls hl hF; exact absurd (show (none : Option (Unit × q_St)) = some _ from hF) (fun h => nomatch h)
    | succ n hi100 =>
      intro x1 u ls hl hF _ _ hP hS
      obtain ⟨ih100, hih⟩ : ∃ q, q = q_lp (fX11_keep_b100 N) (fun _ _ => none) n := ⟨_, rfl⟩
      rw [← hih] at hi100
      have hF : fX11_keep_b100 N (q_lp (fX11_keep_b100 N) (fun _ _ => none) n) x1 u = some (r0, σ0) := hF
      rw [← hih] at hF
      clear hih
      unfold fX11_keep_b100 at hF
      refine lv_iload_n hx hb dX11_keep_100 rfl (lv_at hl 1 rfl) ?_
      refine lv_sipush (v := 2176) hx hb dX11_keep_101 (by decide) ?_
      refine sx_icmp_ge (tgt := 125) hx hb hF dX11_keep_104 (by decide) (fun hF => ?_) (fun hF => ?_)
      · refine lv_iconst (v := 0) hx hb dX11_keep_125 (by decide) ?_
        refine lv_istore_n (lv' := [(1, .int 0), (0, .ref (a 0))]) hx hb dX11_keep_126 rfl hl (by decide) rfl (fun ls hl => ?_)
        exact hB127 N 0 u ls (lv_sub hl [1, 0] rfl) hF _ _ hP hS
      · refine lv_aload_n hx hb dX11_keep_107 rfl (lv_at hl 0 rfl) ?_
        refine gm_m_keptIndex hx hb hts hown hK hP fl_X11_104 dX11_keep_108 ?_
        refine lv_iload_n hx hb dX11_keep_111 rfl (lv_at hl 1 rfl) ?_
        refine lv_aload_n hx hb dX11_keep_112 rfl (lv_at hl 0 rfl) ?_
        refine gm_m_index hx hb hts hown hK hP fl_X11_56 dX11_keep_113 ?_
        refine lv_iload_n hx hb dX11_keep_116 rfl (lv_at hl 1 rfl) ?_
        refine lm_m_index hx hb hK hP hF dX11_keep_117 (fun v23 hF => ?_)
        refine um_m_keptIndex hx hb hK hP hD hS hF dX11_keep_118 (fun u24 H locs hF hP hS => ?_)
        refine sx_iinc (d := 1) (k := 1) (lv2 := [(0, .ref (a 0))]) hx hb hF dX11_keep_119 hl rfl (by decide) (by decide) rfl (fun v25 hF ls hl => ?_)
        refine lv_goto (tgt := 100) hx hb dX11_keep_122 (by decide) ?_
        exact hi100 v25 u24 ls (lv_sub hl [1, 0] rfl) hF _ _ hP hS
  have hB2 : ∀ (n : Nat) (x1 : Int32) (u : q_St) (ls : Array Slot), lv_has ls 3 [(0, .ref (a 0)), (1, .int x1)] → q_lp (fX11_keep_b2 N) (fun _ _ => none) n x1 u = some (r0, σ0) → ∀ (H : Heap) (locs : List Loc), va_P D vwCl (am_W a cI u) H → va_S (am_A a) s.heap H locs → W p l e (headSpec (Cond.code yX11_keep cX11_keep 3 none :: q_T) ({ frames := 0, cells := 0, slots := 0, locals := 0 } : Room)).room s m ([.ref (a 0)] : List Value).toArray below meth c H locs 0 0 (MQ below (q_Qv D vwCl (am_W a cI) (am_A a) σ0) ([.ref (a 0)] : List Value).toArray s 0 0 (am_A a)) (F0 m 2 ls []) := by
    intro n
    induction n with
    | zero => intro x1 u ls hl hF; exact absurd (show (none : Option (Unit × q_St)) = some _ from hF) (fun h => nomatch h)
    | succ n hi2 =>
      intro x1 u ls hl hF _ _ hP hS
      obtain ⟨ih2, hih⟩ : ∃ q, q = q_lp (fX11_keep_b2 N) (fun _ _ => none) n := ⟨_, rfl⟩
      rw [← hih] at hi2
      have hF : fX11_keep_b2 N (q_lp (fX11_keep_b2 N) (fun _ _ => none) n) x1 u = some (r0, σ0) := hF
      rw [← hih] at hF
      clear hih
      unfold fX11_keep_b2 at hF
      refine lv_iload_n hx hb dX11_keep_2 rfl (lv_at hl 1 rfl) ?_
      refine lv_bipush (v := 64) hx hb dX11_keep_3 (by decide) ?_
      refine sx_icmp_ge (tgt := 98) hx hb hF dX11_keep_5 (by decide) (fun hF => ?_) (fun hF => ?_)
      · refine lv_iconst (v := 0) hx hb dX11_keep_98 (by decide) ?_
        refine lv_istore_n (lv' := [(1, .int 0), (0, .ref (a 0))]) hx hb dX11_keep_99 rfl hl (by decide) rfl (fun ls hl => ?_)
        exact hB100 N 0 u ls (lv_sub hl [1, 0] rfl) hF _ _ hP hS
      · refine lv_aload_n hx hb dX11_keep_8 rfl (lv_at hl 0 rfl) ?_
        refine gm_m_keptKind hx hb hts hown hK hP fl_X11_89 dX11_keep_9 ?_
        refine lv_iload_n hx hb dX11_keep_12 rfl (lv_at hl 1 rfl) ?_
        refine lv_aload_n hx hb dX11_keep_13 rfl (lv_at hl 0 rfl) ?_
        refine gm_m_kind hx hb hts hown hK hP fl_X11_40 dX11_keep_14 ?_
        refine lv_iload_n hx hb dX11_keep_17 rfl (lv_at hl 1 rfl) ?_
        refine lm_m_kind hx hb hK hP hF dX11_keep_18 (fun v26 hF => ?_)
        refine um_m_keptKind hx hb hK hP hD hS hF dX11_keep_19 (fun u27 H locs hF hP hS => ?_)
        refine lv_aload_n hx hb dX11_keep_20 rfl (lv_at hl 0 rfl) ?_
        refine gm_m_keptSize hx hb hts hown hK hP fl_X11_92 dX11_keep_21 ?_
        refine lv_iload_n hx hb dX11_keep_24 rfl (lv_at hl 1 rfl) ?_
        refine lv_aload_n hx hb dX11_keep_25 rfl (lv_at hl 0 rfl) ?_
        refine gm_m_size hx hb hts hown hK hP fl_X11_43 dX11_keep_26 ?_
        refine lv_iload_n hx hb dX11_keep_29 rfl (lv_at hl 1 rfl) ?_
        refine lm_m_size hx hb hK hP hF dX11_keep_30 (fun v28 hF => ?_)
        refine um_m_keptSize hx hb hK hP hD hS hF dX11_keep_31 (fun u29 H locs hF hP hS => ?_)
        refine lv_aload_n hx hb dX11_keep_32 rfl (lv_at hl 0 rfl) ?_
        refine gm_m_keptParent hx hb hts hown hK hP fl_X11_95 dX11_keep_33 ?_
        refine lv_iload_n hx hb dX11_keep_36 rfl (lv_at hl 1 rfl) ?_
        refine lv_aload_n hx hb dX11_keep_37 rfl (lv_at hl 0 rfl) ?_
        refine gm_m_parent hx hb hts hown hK hP fl_X11_46 dX11_keep_38 ?_
        refine lv_iload_n hx hb dX11_keep_41 rfl (lv_at hl 1 rfl) ?_
        refine lm_m_parent hx hb hK hP hF dX11_keep_42 (fun v30 hF => ?_)
        refine um_m_keptParent hx hb hK hP hD hS hF dX11_keep_43 (fun u31 H locs hF hP hS => ?_)
        refine lv_aload_n hx hb dX11_keep_44 rfl (lv_at hl 0 rfl) ?_
        refine gm_m_keptMany hx hb hts hown hK hP fl_X11_98 dX11_keep_45 ?_
        refine lv_iload_n hx hb dX11_keep_48 rfl (lv_at hl 1 rfl) ?_
        refine lv_aload_n hx hb dX11_keep_49 rfl (lv_at hl 0 rfl) ?_
        refine gm_m_many hx hb hts hown hK hP fl_X11_49 dX11_keep_50 ?_
        refine lv_iload_n hx hb dX11_keep_53 rfl (lv_at hl 1 rfl) ?_
        refine lm_m_many hx hb hK hP hF dX11_keep_54 (fun v32 hF => ?_)
        refine um_m_keptMany hx hb hK hP hD hS hF dX11_keep_55 (fun u33 H locs hF hP hS => ?_)
        refine lv_aload_n hx hb dX11_keep_56 rfl (lv_at hl 0 rfl) ?_
        refine gm_m_keptOwner hx hb hts hown hK hP fl_X11_107 dX11_keep_57 ?_
        refine lv_iload_n hx hb dX11_keep_60 rfl (lv_at hl 1 rfl) ?_
        refine lv_aload_n hx hb dX11_keep_61 rfl (lv_at hl 0 rfl) ?_
        refine gm_m_owner hx hb hts hown hK hP fl_X11_59 dX11_keep_62 ?_
        refine lv_iload_n hx hb dX11_keep_65 rfl (lv_at hl 1 rfl) ?_
        refine lm_m_owner hx hb hK hP hF dX11_keep_66 (fun v34 hF => ?_)
        refine um_m_keptOwner hx hb hK hP hD hS hF dX11_keep_67 (fun u35 H locs hF hP hS => ?_)
        refine lv_aload_n hx hb dX11_keep_68 rfl (lv_at hl 0 rfl) ?_
        refine gm_m_keptBits hx hb hts hown hK hP fl_X11_110 dX11_keep_69 ?_
        refine lv_iload_n hx hb dX11_keep_72 rfl (lv_at hl 1 rfl) ?_
        refine lv_aload_n hx hb dX11_keep_73 rfl (lv_at hl 0 rfl) ?_
        refine gm_m_bits hx hb hts hown hK hP fl_X11_62 dX11_keep_74 ?_
        refine lv_iload_n hx hb dX11_keep_77 rfl (lv_at hl 1 rfl) ?_
        refine lm_m_bits hx hb hK hP hF dX11_keep_78 (fun v36 hF => ?_)
        refine um_m_keptBits hx hb hK hP hD hS hF dX11_keep_79 (fun u37 H locs hF hP hS => ?_)
        refine lv_aload_n hx hb dX11_keep_80 rfl (lv_at hl 0 rfl) ?_
        refine gm_m_keptLinks hx hb hts hown hK hP fl_X11_122 dX11_keep_81 ?_
        refine lv_iload_n hx hb dX11_keep_84 rfl (lv_at hl 1 rfl) ?_
        refine lv_aload_n hx hb dX11_keep_85 rfl (lv_at hl 0 rfl) ?_
        refine gm_m_links hx hb hts hown hK hP fl_X11_75 dX11_keep_86 ?_
        refine lv_iload_n hx hb dX11_keep_89 rfl (lv_at hl 1 rfl) ?_
        refine lm_m_links hx hb hK hP hF dX11_keep_90 (fun v38 hF => ?_)
        refine um_m_keptLinks hx hb hK hP hD hS hF dX11_keep_91 (fun u39 H locs hF hP hS => ?_)
        refine sx_iinc (d := 1) (k := 1) (lv2 := [(0, .ref (a 0))]) hx hb hF dX11_keep_92 hl rfl (by decide) (by decide) rfl (fun v40 hF ls hl => ?_)
        refine lv_goto (tgt := 2) hx hb dX11_keep_95 (by decide) ?_
        exact hi2 v40 u39 ls (lv_sub hl [1, 0] rfl) hF _ _ hP hS
  unfold fX11_keep at hF
  refine lv_iconst (v := 0) hx hb dX11_keep_0 (by decide) ?_
  refine lv_istore_n (lv' := [(1, .int 0), (0, .ref (a 0))]) hx hb dX11_keep_1 rfl hl (by decide) rfl (fun ls hl => ?_)
  exact hB2 N 0 u ls (lv_sub hl [1, 0] rfl) hF _ _ hP hS
set_option maxHeartbeats 4000000 in
set_option maxRecDepth 100000 in
theorem kt_X11_free {N : Nat} {l : Launch} {D : va_G} {a : Nat → Nat} {cI : Nat → ClassId} (hD : ∀ σ, va_D (am_A a) (am_W a cI σ))  {u σ0 : q_St} {r0 : Int32} (hF : fX11_free N u = some (r0, σ0)) : Met l yX11_free (Cond.code yX11_free cX11_free 1 (some .int) :: q_T) ({ frames := 0, cells := 0, slots := 0, locals := 0 } : Room) (q_P D vwCl (am_T cI) (am_W a cI) [.ref (a 0)] u) (q_Qi D vwCl (am_W a cI) (am_A a) r0 σ0) 0 0 (am_A a) := by
  refine Met.ofW (cc := cX11_free) (maxL := 1) (ret := (some .int)) (by decide) rfl ?_
  intro p e s m args below meth c s₁ B hml hv
  obtain ⟨rfl, hP, hK⟩ := hv
  have hx := B.exec
  have hb := B.bytes
  have hr := B.returns
  have hts := q_ts (atoms_spec (ws := Cond.code yX11_free cX11_free 1 (some .int) :: q_T) B.pre)
  have hown : s.vm.findClass RX11 = some m.cls := findClass_of_methodNamed B.named
  have hlocks := B.notSynchronized
  have hS : va_S (am_A a) s.heap s.heap [] := va_S.rf
  have hl := lv_entry ([.ref (a 0)]) (n := 1) (Nat.le_of_ble_eq_true rfl)
  rw [lg_entry_eq]
  generalize (lg_sl ([.ref (a 0)]) ++ List.replicate (1 - (lg_sl ([.ref (a 0)])).length) Slot.unset).toArray = ls at hl ⊢
  have hl : lv_has ls 1 [(0, .ref (a 0))] := hl
  unfold fX11_free at hF
  refine lv_aload_n hx hb dX11_free_0 rfl (lv_at hl 0 rfl) ?_
  refine gm_m_cache hx hb hts hown hK hP fl_X11_162 dX11_free_1 ?_
  refine lv_aload_n hx hb dX11_free_4 rfl (lv_at hl 0 rfl) ?_
  refine gm_m_head hx hb hts hown hK hP fl_X11_199 dX11_free_5 ?_
  refine lv_aload_n hx hb dX11_free_8 rfl (lv_at hl 0 rfl) ?_
  refine gm_m_tail hx hb hts hown hK hP fl_X11_202 dX11_free_9 ?_
  refine lv_isub hx hb dX11_free_12 ?_
  refine lv_isub hx hb dX11_free_13 ?_
  exact sx_reti (Wd := (am_W a cI)) (σ := u) hx hb hr hF hP hS hlocks dX11_free_14
set_option maxHeartbeats 4000000 in
set_option maxRecDepth 100000 in
theorem kt_X11_lasts {N : Nat} {l : Launch} {D : va_G} {a : Nat → Nat} {cI : Nat → ClassId} (hD : ∀ σ, va_D (am_A a) (am_W a cI σ))  {u σ0 : q_St} {r0 : Int32} (hF : fX11_lasts N u = some (r0, σ0)) : Met l yX11_lasts (Cond.code yX11_lasts cX11_lasts 1 (some .boolean) :: q_T) ({ frames := 0, cells := 0, slots := 0, locals := 0 } : Room) (q_P D vwCl (am_T cI) (am_W a cI) [.ref (a 0)] u) (q_Qi D vwCl (am_W a cI) (am_A a) r0 σ0) 0 0 (am_A a) := by
  refine Met.ofW (cc := cX11_lasts) (maxL := 1) (ret := (some .boolean)) (by decide) rfl ?_
  intro p e s m args below meth c s₁ B hml hv
  obtain ⟨rfl, hP, hK⟩ := hv
  have hx := B.exec
  have hb := B.bytes
  have hr := B.returns
  have hts := q_ts (atoms_spec (ws := Cond.code yX11_lasts cX11_lasts 1 (some .boolean) :: q_T) B.pre)
  have hown : s.vm.findClass RX11 = some m.cls := findClass_of_methodNamed B.named
  have hlocks := B.notSynchronized
  have hS : va_S (am_A a) s.heap s.heap [] := va_S.rf
  have hl := lv_entry ([.ref (a 0)]) (n := 1) (Nat.le_of_ble_eq_true rfl)
  rw [lg_entry_eq]
  generalize (lg_sl ([.ref (a 0)]) ++ List.replicate (1 - (lg_sl ([.ref (a 0)])).length) Slot.unset).toArray = ls at hl ⊢
  have hl : lv_has ls 1 [(0, .ref (a 0))] := hl
  have hB40 : ∀ (y0 : Int32) (u : q_St) (ls : Array Slot), lv_has ls 1 [] → fX11_lasts_b40 N y0 u = some (r0, σ0) → ∀ (H : Heap) (locs : List Loc), va_P D vwCl (am_W a cI u) H → va_S (am_A a) s.heap H locs → W p l e (headSpec (Cond.code yX11_lasts cX11_lasts 1 (some .boolean) :: q_T) ({ frames := 0, cells := 0, slots := 0, locals := 0 } : Room)).room s m ([.ref (a 0)] : List Value).toArray below meth c H locs 0 0 (MQ below (q_Qi D vwCl (am_W a cI) (am_A a) r0 σ0) ([.ref (a 0)] : List Value).toArray s 0 0 (am_A a)) (F0 m 40 ls [.int y0, .ref (a 0)]) := by
    intro y0 u ls hl hF _ _ hP hS
    unfold fX11_lasts_b40 at hF
    refine pm_m_cut hx hb hts hown hK hP fl_X11_13 hD hS hF dX11_lasts_40 (fun u1 H locs hF hP hS => ?_)
    refine lv_iconst (v := 1) hx hb dX11_lasts_43 (by decide) ?_
    exact sx_retz (Wd := (am_W a cI)) (σ := u1) hx hb hr (by decide) hF hP hS hlocks dX11_lasts_44
  unfold fX11_lasts at hF
  refine lv_aload_n hx hb dX11_lasts_0 rfl (lv_at hl 0 rfl) ?_
  refine gm_m_cut hx hb hts hown hK hP fl_X11_13 dX11_lasts_1 ?_
  refine sx_if_ne (tgt := 19) hx hb hF dX11_lasts_4 (by decide) (fun hF => ?_) (fun hF => ?_)
  · refine lv_aload_n hx hb dX11_lasts_19 rfl (lv_at hl 0 rfl) ?_
    refine lv_aload_n hx hb dX11_lasts_20 rfl (lv_at hl 0 rfl) ?_
    refine gm_m_cut hx hb hts hown hK hP fl_X11_13 dX11_lasts_21 ?_
    refine sx_if_ge (tgt := 34) hx hb hF dX11_lasts_24 (by decide) (fun hF => ?_) (fun hF => ?_)
    · refine lv_aload_n hx hb dX11_lasts_34 rfl (lv_at hl 0 rfl) ?_
      refine gm_m_cut hx hb hts hown hK hP fl_X11_13 dX11_lasts_35 ?_
      refine lv_iconst (v := 1) hx hb dX11_lasts_38 (by decide) ?_
      refine lv_isub hx hb dX11_lasts_39 ?_
      exact hB40 ((q_i u 10) - 1) u ls (lv_sub hl [] rfl) hF _ _ hP hS
    · refine lv_aload_n hx hb dX11_lasts_27 rfl (lv_at hl 0 rfl) ?_
      refine gm_m_cut hx hb hts hown hK hP fl_X11_13 dX11_lasts_28 ?_
      refine lv_goto (tgt := 40) hx hb dX11_lasts_31 (by decide) ?_
      exact hB40 (q_i u 10) u ls (lv_sub hl [] rfl) hF _ _ hP hS
  · refine lv_aload_n hx hb dX11_lasts_7 rfl (lv_at hl 0 rfl) ?_
    refine lv_iconst (v := (-1)) hx hb dX11_lasts_8 (by decide) ?_
    refine pm_m_cut hx hb hts hown hK hP fl_X11_13 hD hS hF dX11_lasts_9 (fun u2 H locs hF hP hS => ?_)
    refine lv_aload_n hx hb dX11_lasts_12 rfl (lv_at hl 0 rfl) ?_
    refine lv_iconst (v := 0) hx hb dX11_lasts_13 (by decide) ?_
    refine pm_m_isOn_0 hx hb hts hown hK hP fl_X11_7 hD hS hF dX11_lasts_14 (fun u3 H locs hF hP hS => ?_)
    refine lv_iconst (v := 0) hx hb dX11_lasts_17 (by decide) ?_
    exact sx_retz (Wd := (am_W a cI)) (σ := u3) hx hb hr (by decide) hF hP hS hlocks dX11_lasts_18
set_option maxHeartbeats 4000000 in
set_option maxRecDepth 100000 in
theorem kt_X11_isLive {N : Nat} {l : Launch} {D : va_G} {a : Nat → Nat} {cI : Nat → ClassId} (hD : ∀ σ, va_D (am_A a) (am_W a cI σ)) {o1 : Int32} {u σ0 : q_St} {r0 : Int32} (hF : fX11_isLive N o1 u = some (r0, σ0)) : Met l yX11_isLive (Cond.code yX11_isLive cX11_isLive 3 (some .boolean) :: q_T) ({ frames := 0, cells := 0, slots := 0, locals := 0 } : Room) (q_P D vwCl (am_T cI) (am_W a cI) [.ref (a 0), .int o1] u) (q_Qi D vwCl (am_W a cI) (am_A a) r0 σ0) 0 0 (am_A a) := by
  refine Met.ofW (cc := cX11_isLive) (maxL := 3) (ret := (some .boolean)) (by decide) rfl ?_
  intro p e s m args below meth c s₁ B hml hv
  obtain ⟨rfl, hP, hK⟩ := hv
  have hx := B.exec
  have hb := B.bytes
  have hr := B.returns
  have hts := q_ts (atoms_spec (ws := Cond.code yX11_isLive cX11_isLive 3 (some .boolean) :: q_T) B.pre)
  have hown : s.vm.findClass RX11 = some m.cls := findClass_of_methodNamed B.named
  have hlocks := B.notSynchronized
  have hS : va_S (am_A a) s.heap s.heap [] := va_S.rf
  have hl := lv_entry ([.ref (a 0), .int o1]) (n := 3) (Nat.le_of_ble_eq_true rfl)
  rw [lg_entry_eq]
  generalize (lg_sl ([.ref (a 0), .int o1]) ++ List.replicate (3 - (lg_sl ([.ref (a 0), .int o1])).length) Slot.unset).toArray = ls at hl ⊢
  have hl : lv_has ls 3 [(0, .ref (a 0)), (1, .int o1)] := hl
  unfold fX11_isLive at hF
  refine lv_aload_n hx hb dX11_isLive_0 rfl (lv_at hl 0 rfl) ?_
  refine gm_m_entry hx hb hts hown hK hP fl_X11_24 dX11_isLive_1 ?_
  refine lv_iload_n hx hb dX11_isLive_4 rfl (lv_at hl 1 rfl) ?_
  refine lv_aload_n hx hb dX11_isLive_5 rfl (lv_at hl 0 rfl) ?_
  refine gm_m_cache hx hb hts hown hK hP fl_X11_162 dX11_isLive_6 ?_
  refine sx_irem hx hb hF dX11_isLive_9 (fun hF => ?_)
  refine lm_m_entry hx hb hK hP hF dX11_isLive_10 (fun v1 hF => ?_)
  refine lv_istore_n (lv' := [(2, .int v1), (0, .ref (a 0)), (1, .int o1)]) hx hb dX11_isLive_11 rfl hl (by decide) rfl (fun ls hl => ?_)
  refine lv_iload_n hx hb dX11_isLive_12 rfl (lv_at hl 2 rfl) ?_
  refine lv_aload_n hx hb dX11_isLive_13 rfl (lv_at hl 1 rfl) ?_
  refine gm_m_tail hx hb hts hown hK hP fl_X11_202 dX11_isLive_14 ?_
  refine sx_icmp_lt (tgt := 57) hx hb hF dX11_isLive_17 (by decide) (fun hF => ?_) (fun hF => ?_)
  · refine lv_iconst (v := 0) hx hb dX11_isLive_57 (by decide) ?_
    exact sx_retz (Wd := (am_W a cI)) (σ := u) hx hb hr (by decide) hF hP hS hlocks dX11_isLive_58
  · refine lv_iload_n hx hb dX11_isLive_20 rfl (lv_at hl 2 rfl) ?_
    refine lv_aload_n hx hb dX11_isLive_21 rfl (lv_at hl 1 rfl) ?_
    refine gm_m_head hx hb hts hown hK hP fl_X11_199 dX11_isLive_22 ?_
    refine sx_icmp_ge (tgt := 57) hx hb hF dX11_isLive_25 (by decide) (fun hF => ?_) (fun hF => ?_)
    · refine lv_iconst (v := 0) hx hb dX11_isLive_57 (by decide) ?_
      exact sx_retz (Wd := (am_W a cI)) (σ := u) hx hb hr (by decide) hF hP hS hlocks dX11_isLive_58
    · refine lv_aload_n hx hb dX11_isLive_28 rfl (lv_at hl 1 rfl) ?_
      refine gm_m_latest hx hb hts hown hK hP fl_X11_28 dX11_isLive_29 ?_
      refine lv_iload_n hx hb dX11_isLive_32 rfl (lv_at hl 0 rfl) ?_
      refine lm_m_latest hx hb hK hP hF dX11_isLive_33 (fun v2 hF => ?_)
      refine lv_iload_n hx hb dX11_isLive_34 rfl (lv_at hl 2 rfl) ?_
      refine sx_icmp_ne (tgt := 57) hx hb hF dX11_isLive_35 (by decide) (fun hF => ?_) (fun hF => ?_)
      · refine lv_iconst (v := 0) hx hb dX11_isLive_57 (by decide) ?_
        exact sx_retz (Wd := (am_W a cI)) (σ := u) hx hb hr (by decide) hF hP hS hlocks dX11_isLive_58
      · refine lv_iload_n hx hb dX11_isLive_38 rfl (lv_at hl 2 rfl) ?_
        refine lv_aload_n hx hb dX11_isLive_39 rfl (lv_at hl 1 rfl) ?_
        refine gm_m_marks hx hb hts hown hK hP fl_X11_31 dX11_isLive_40 ?_
        refine lv_iload_n hx hb dX11_isLive_43 rfl (lv_at hl 0 rfl) ?_
        refine lv_aload_n hx hb dX11_isLive_44 rfl (lv_at hl 1 rfl) ?_
        refine gm_m_wide hx hb hts hown hK hP fl_X11_165 dX11_isLive_45 ?_
        refine sx_idiv hx hb hF dX11_isLive_48 (fun hF => ?_)
        refine lm_m_marks hx hb hK hP hF dX11_isLive_49 (fun v3 hF => ?_)
        refine sx_icmp_lt (tgt := 57) hx hb hF dX11_isLive_50 (by decide) (fun hF => ?_) (fun hF => ?_)
        · refine lv_iconst (v := 0) hx hb dX11_isLive_57 (by decide) ?_
          exact sx_retz (Wd := (am_W a cI)) (σ := u) hx hb hr (by decide) hF hP hS hlocks dX11_isLive_58
        · refine lv_iconst (v := 1) hx hb dX11_isLive_53 (by decide) ?_
          refine lv_goto (tgt := 58) hx hb dX11_isLive_54 (by decide) ?_
          exact sx_retz (Wd := (am_W a cI)) (σ := u) hx hb hr (by decide) hF hP hS hlocks dX11_isLive_58
set_option maxHeartbeats 4000000 in
set_option maxRecDepth 100000 in
theorem kt_X11_oldest {N : Nat} {l : Launch} {D : va_G} {a : Nat → Nat} {cI : Nat → ClassId} (hD : ∀ σ, va_D (am_A a) (am_W a cI σ))  {u σ0 : q_St} {r0 : Int32} (hF : fX11_oldest N u = some (r0, σ0)) : Met l yX11_oldest (Cond.code yX11_oldest cX11_oldest 2 (some .int) :: q_T) ({ frames := 1, cells := 0, slots := 0, locals := 22 } : Room) (q_P D vwCl (am_T cI) (am_W a cI) [.ref (a 0)] u) (q_Qi D vwCl (am_W a cI) (am_A a) r0 σ0) 0 0 (am_A a) := by
  refine Met.ofW (cc := cX11_oldest) (maxL := 2) (ret := (some .int)) (by decide) rfl ?_
  intro p e s m args below meth c s₁ B hml hv
  obtain ⟨rfl, hP, hK⟩ := hv
  have hx := B.exec
  have hb := B.bytes
  have hr := B.returns
  have hts := q_ts (atoms_spec (ws := Cond.code yX11_oldest cX11_oldest 2 (some .int) :: q_T) B.pre)
  have hown : s.vm.findClass RX11 = some m.cls := findClass_of_methodNamed B.named
  have hlocks := B.notSynchronized
  have hS : va_S (am_A a) s.heap s.heap [] := va_S.rf
  have hl := lv_entry ([.ref (a 0)]) (n := 2) (Nat.le_of_ble_eq_true rfl)
  rw [lg_entry_eq]
  generalize (lg_sl ([.ref (a 0)]) ++ List.replicate (2 - (lg_sl ([.ref (a 0)])).length) Slot.unset).toArray = ls at hl ⊢
  have hl : lv_has ls 2 [(0, .ref (a 0))] := hl
  have hB5 : ∀ (n : Nat) (x1 : Int32) (u : q_St) (ls : Array Slot), lv_has ls 2 [(0, .ref (a 0)), (1, .int x1)] → q_lp (fX11_oldest_b5 N) (fun _ _ => none) n x1 u = some (r0, σ0) → ∀ (H : Heap) (locs : List Loc), va_P D vwCl (am_W a cI u) H → va_S (am_A a) s.heap H locs → W p l e (headSpec (Cond.code yX11_oldest cX11_oldest 2 (some .int) :: q_T) ({ frames := 1, cells := 0, slots := 0, locals := 22 } : Room)).room s m ([.ref (a 0)] : List Value).toArray below meth c H locs 0 0 (MQ below (q_Qi D vwCl (am_W a cI) (am_A a) r0 σ0) ([.ref (a 0)] : List Value).toArray s 0 0 (am_A a)) (F0 m 5 ls []) := by
    intro n
    induction n with
    | zero => intro x1 u ls hl hF; exact absurd (show (none : Option (Int32 × q_St)) = some _ from hF) (fun h => nomatch h)
    | succ n hi5 =>
      intro x1 u ls hl hF _ _ hP hS
      obtain ⟨ih5, hih⟩ : ∃ q, q = q_lp (fX11_oldest_b5 N) (fun _ _ => none) n := ⟨_, rfl⟩
      rw [← hih] at hi5
      have hF : fX11_oldest_b5 N (q_lp (fX11_oldest_b5 N) (fun _ _ => none) n) x1 u = some (r0, σ0) := hF
      rw [← hih] at hF
      clear hih
      unfold fX11_oldest_b5 at hF
      refine lv_iload_n hx hb dX11_oldest_5 rfl (lv_at hl 1 rfl) ?_
      refine lv_aload_n hx hb dX11_oldest_6 rfl (lv_at hl 0 rfl) ?_
      refine gm_m_head hx hb hts hown hK hP fl_X11_199 dX11_oldest_7 ?_
      refine sx_icmp_ge (tgt := 27) hx hb hF dX11_oldest_10 (by decide) (fun hF => ?_) (fun hF => ?_)
      · refine lv_iload_n hx hb dX11_oldest_27 rfl (lv_at hl 1 rfl) ?_
        exact sx_reti (Wd := (am_W a cI)) (σ := u) hx hb hr hF hP hS hlocks dX11_oldest_28
      · refine lv_aload_n hx hb dX11_oldest_13 rfl (lv_at hl 0 rfl) ?_
        refine lv_iload_n hx hb dX11_oldest_14 rfl (lv_at hl 1 rfl) ?_
        obtain ⟨r2, u3, hc4, hF⟩ := q_bnd_some hF
        refine sx_ci (Wd := (am_W a cI)) (σ1 := u3) (q_runV (Wd := (am_W a cI)) (σ := u) (q0 := 0) (ci := 11) (T := TX11) (N := 72) (As := [.int x1]) (rest := []) hx hb hml hown hts hK hP (kt_X11_isLive hD hc4) cw_X11_205 rfl rfl ⟨Nat.le_of_ble_eq_true rfl, Nat.le_of_ble_eq_true rfl⟩ rfl rfl rfl hl.1 rfl (Nat.le_of_ble_eq_true rfl) dX11_oldest_15) hS (fun H locs hP hS => ?_)
        refine sx_if_ne (tgt := 27) hx hb hF dX11_oldest_18 (by decide) (fun hF => ?_) (fun hF => ?_)
        · refine lv_iload_n hx hb dX11_oldest_27 rfl (lv_at hl 1 rfl) ?_
          exact sx_reti (Wd := (am_W a cI)) (σ := u3) hx hb hr hF hP hS hlocks dX11_oldest_28
        · refine sx_iinc (d := 1) (k := 1) (lv2 := [(0, .ref (a 0))]) hx hb hF dX11_oldest_21 hl rfl (by decide) (by decide) rfl (fun v5 hF ls hl => ?_)
          refine lv_goto (tgt := 5) hx hb dX11_oldest_24 (by decide) ?_
          exact hi5 v5 u3 ls (lv_sub hl [1, 0] rfl) hF _ _ hP hS
  unfold fX11_oldest at hF
  refine lv_aload_n hx hb dX11_oldest_0 rfl (lv_at hl 0 rfl) ?_
  refine gm_m_tail hx hb hts hown hK hP fl_X11_202 dX11_oldest_1 ?_
  refine sx_istore_n (lv2 := [(0, .ref (a 0))]) hx hb hF dX11_oldest_4 rfl hl (by decide) rfl (fun v1 hF ls hl => ?_)
  exact hB5 N v1 u ls (lv_sub hl [1, 0] rfl) hF _ _ hP hS
set_option maxHeartbeats 4000000 in
set_option maxRecDepth 100000 in
theorem kt_X11_live {N : Nat} {l : Launch} {D : va_G} {a : Nat → Nat} {cI : Nat → ClassId} (hD : ∀ σ, va_D (am_A a) (am_W a cI σ)) {o1 : Int32} {u σ0 : q_St} {r0 : Int32} (hF : fX11_live N o1 u = some (r0, σ0)) : Met l yX11_live (Cond.code yX11_live cX11_live 4 (some .int) :: q_T) ({ frames := 1, cells := 0, slots := 0, locals := 22 } : Room) (q_P D vwCl (am_T cI) (am_W a cI) [.ref (a 0), .int o1] u) (q_Qi D vwCl (am_W a cI) (am_A a) r0 σ0) 0 0 (am_A a) := by
  refine Met.ofW (cc := cX11_live) (maxL := 4) (ret := (some .int)) (by decide) rfl ?_
  intro p e s m args below meth c s₁ B hml hv
  obtain ⟨rfl, hP, hK⟩ := hv
  have hx := B.exec
  have hb := B.bytes
  have hr := B.returns
  have hts := q_ts (atoms_spec (ws := Cond.code yX11_live cX11_live 4 (some .int) :: q_T) B.pre)
  have hown : s.vm.findClass RX11 = some m.cls := findClass_of_methodNamed B.named
  have hlocks := B.notSynchronized
  have hS : va_S (am_A a) s.heap s.heap [] := va_S.rf
  have hl := lv_entry ([.ref (a 0), .int o1]) (n := 4) (Nat.le_of_ble_eq_true rfl)
  rw [lg_entry_eq]
  generalize (lg_sl ([.ref (a 0), .int o1]) ++ List.replicate (4 - (lg_sl ([.ref (a 0), .int o1])).length) Slot.unset).toArray = ls at hl ⊢
  have hl : lv_has ls 4 [(0, .ref (a 0)), (1, .int o1)] := hl
  have hB53 : ∀ (ih7 : Int32 → Int32 → Int32 → q_St → Option (Int32 × q_St)) (hi7 : ∀ (x1 : Int32) (x2 : Int32) (x3 : Int32) (u : q_St) (ls : Array Slot), lv_has ls 4 [(0, .ref (a 0)), (1, .int x1), (2, .int x2), (3, .int x3)] → ih7 x1 x2 x3 u = some (r0, σ0) → ∀ (H : Heap) (locs : List Loc), va_P D vwCl (am_W a cI u) H → va_S (am_A a) s.heap H locs → W p l e (headSpec (Cond.code yX11_live cX11_live 4 (some .int) :: q_T) ({ frames := 1, cells := 0, slots := 0, locals := 22 } : Room)).room s m ([.ref (a 0), .int o1] : List Value).toArray below meth c H locs 0 0 (MQ below (q_Qi D vwCl (am_W a cI) (am_A a) r0 σ0) ([.ref (a 0), .int o1] : List Value).toArray s 0 0 (am_A a)) (F0 m 7 ls [])), ∀ (x1 : Int32) (x3 : Int32) (y0 : Int32) (y1 : Int32) (u : q_St) (ls : Array Slot), lv_has ls 4 [(0, .ref (a 0)), (1, .int x1), (3, .int x3)] → fX11_live_b53 N ih7 x1 x3 y0 y1 u = some (r0, σ0) → ∀ (H : Heap) (locs : List Loc), va_P D vwCl (am_W a cI u) H → va_S (am_A a) s.heap H locs → W p l e (headSpec (Cond.code yX11_live cX11_live 4 (some .int) :: q_T) ({ frames := 1, cells := 0, slots := 0, locals := 22 } : Room)).room s m ([.ref (a 0), .int o1] : List Value).toArray below meth c H locs 0 0 (MQ below (q_Qi D vwCl (am_W a cI) (am_A a) r0 σ0) ([.ref (a 0), .int o1] : List Value).toArray s 0 0 (am_A a)) (F0 m 53 ls [.int y0, .int y1]) := by
    intro ih7 hi7 x1 x3 y0 y1 u ls hl hF _ _ hP hS
    unfold fX11_live_b53 at hF
    refine lv_iadd hx hb dX11_live_53 ?_
    refine sx_istore_n (lv2 := [(0, .ref (a 0)), (1, .int x1), (3, .int x3)]) hx hb hF dX11_live_54 rfl hl (by decide) rfl (fun v5 hF ls hl => ?_)
    refine sx_iinc (d := 1) (k := 3) (lv2 := [(2, .int v5), (0, .ref (a 0)), (1, .int x1)]) hx hb hF dX11_live_55 hl rfl (by decide) (by decide) rfl (fun v6 hF ls hl => ?_)
    refine lv_goto (tgt := 7) hx hb dX11_live_58 (by decide) ?_
    exact hi7 x1 v5 v6 u ls (lv_sub hl [2, 3, 1, 0] rfl) hF _ _ hP hS
  have hB52 : ∀ (ih7 : Int32 → Int32 → Int32 → q_St → Option (Int32 × q_St)) (hi7 : ∀ (x1 : Int32) (x2 : Int32) (x3 : Int32) (u : q_St) (ls : Array Slot), lv_has ls 4 [(0, .ref (a 0)), (1, .int x1), (2, .int x2), (3, .int x3)] → ih7 x1 x2 x3 u = some (r0, σ0) → ∀ (H : Heap) (locs : List Loc), va_P D vwCl (am_W a cI u) H → va_S (am_A a) s.heap H locs → W p l e (headSpec (Cond.code yX11_live cX11_live 4 (some .int) :: q_T) ({ frames := 1, cells := 0, slots := 0, locals := 22 } : Room)).room s m ([.ref (a 0), .int o1] : List Value).toArray below meth c H locs 0 0 (MQ below (q_Qi D vwCl (am_W a cI) (am_A a) r0 σ0) ([.ref (a 0), .int o1] : List Value).toArray s 0 0 (am_A a)) (F0 m 7 ls [])), ∀ (x1 : Int32) (x3 : Int32) (y0 : Int32) (u : q_St) (ls : Array Slot), lv_has ls 4 [(0, .ref (a 0)), (1, .int x1), (3, .int x3)] → fX11_live_b52 N ih7 x1 x3 y0 u = some (r0, σ0) → ∀ (H : Heap) (locs : List Loc), va_P D vwCl (am_W a cI u) H → va_S (am_A a) s.heap H locs → W p l e (headSpec (Cond.code yX11_live cX11_live 4 (some .int) :: q_T) ({ frames := 1, cells := 0, slots := 0, locals := 22 } : Room)).room s m ([.ref (a 0), .int o1] : List Value).toArray below meth c H locs 0 0 (MQ below (q_Qi D vwCl (am_W a cI) (am_A a) r0 σ0) ([.ref (a 0), .int o1] : List Value).toArray s 0 0 (am_A a)) (F0 m 52 ls [.int y0]) := by
    intro ih7 hi7 x1 x3 y0 u ls hl hF _ _ hP hS
    unfold fX11_live_b52 at hF
    refine lv_iconst (v := 0) hx hb dX11_live_52 (by decide) ?_
    exact hB53 ih7 hi7 x1 x3 0 y0 u ls (lv_sub hl [0, 1, 2] rfl) hF _ _ hP hS
  have hB48 : ∀ (ih7 : Int32 → Int32 → Int32 → q_St → Option (Int32 × q_St)) (hi7 : ∀ (x1 : Int32) (x2 : Int32) (x3 : Int32) (u : q_St) (ls : Array Slot), lv_has ls 4 [(0, .ref (a 0)), (1, .int x1), (2, .int x2), (3, .int x3)] → ih7 x1 x2 x3 u = some (r0, σ0) → ∀ (H : Heap) (locs : List Loc), va_P D vwCl (am_W a cI u) H → va_S (am_A a) s.heap H locs → W p l e (headSpec (Cond.code yX11_live cX11_live 4 (some .int) :: q_T) ({ frames := 1, cells := 0, slots := 0, locals := 22 } : Room)).room s m ([.ref (a 0), .int o1] : List Value).toArray below meth c H locs 0 0 (MQ below (q_Qi D vwCl (am_W a cI) (am_A a) r0 σ0) ([.ref (a 0), .int o1] : List Value).toArray s 0 0 (am_A a)) (F0 m 7 ls [])), ∀ (x1 : Int32) (x3 : Int32) (y0 : Int32) (u : q_St) (ls : Array Slot), lv_has ls 4 [(0, .ref (a 0)), (1, .int x1), (3, .int x3)] → fX11_live_b48 N ih7 x1 x3 y0 u = some (r0, σ0) → ∀ (H : Heap) (locs : List Loc), va_P D vwCl (am_W a cI u) H → va_S (am_A a) s.heap H locs → W p l e (headSpec (Cond.code yX11_live cX11_live 4 (some .int) :: q_T) ({ frames := 1, cells := 0, slots := 0, locals := 22 } : Room)).room s m ([.ref (a 0), .int o1] : List Value).toArray below meth c H locs 0 0 (MQ below (q_Qi D vwCl (am_W a cI) (am_A a) r0 σ0) ([.ref (a 0), .int o1] : List Value).toArray s 0 0 (am_A a)) (F0 m 48 ls [.int y0]) := by
    intro ih7 hi7 x1 x3 y0 u ls hl hF _ _ hP hS
    unfold fX11_live_b48 at hF
    refine lv_iconst (v := 1) hx hb dX11_live_48 (by decide) ?_
    refine lv_goto (tgt := 53) hx hb dX11_live_49 (by decide) ?_
    exact hB53 ih7 hi7 x1 x3 1 y0 u ls (lv_sub hl [0, 1, 2] rfl) hF _ _ hP hS
  have hB7 : ∀ (n : Nat) (x1 : Int32) (x2 : Int32) (x3 : Int32) (u : q_St) (ls : Array Slot), lv_has ls 4 [(0, .ref (a 0)), (1, .int x1), (2, .int x2), (3, .int x3)] → q_lp (fX11_live_b7 N) (fun _ _ _ _ => none) n x1 x2 x3 u = some (r0, σ0) → ∀ (H : Heap) (locs : List Loc), va_P D vwCl (am_W a cI u) H → va_S (am_A a) s.heap H locs → W p l e (headSpec (Cond.code yX11_live cX11_live 4 (some .int) :: q_T) ({ frames := 1, cells := 0, slots := 0, locals := 22 } : Room)).room s m ([.ref (a 0), .int o1] : List Value).toArray below meth c H locs 0 0 (MQ below (q_Qi D vwCl (am_W a cI) (am_A a) r0 σ0) ([.ref (a 0), .int o1] : List Value).toArray s 0 0 (am_A a)) (F0 m 7 ls []) := by
    intro n
    induction n with
    | zero => intro x1 x2 x3 u ls hl hF; exact absurd (show (none : Option (Int32 × q_St)) = some _ from hF) (fun h => nomatch h)
    | succ n hi7 =>
      intro x1 x2 x3 u ls hl hF _ _ hP hS
      obtain ⟨ih7, hih⟩ : ∃ q, q = q_lp (fX11_live_b7 N) (fun _ _ _ _ => none) n := ⟨_, rfl⟩
      rw [← hih] at hi7
      have hF : fX11_live_b7 N (q_lp (fX11_live_b7 N) (fun _ _ _ _ => none) n) x1 x2 x3 u = some (r0, σ0) := hF
      rw [← hih] at hF
      clear hih
      unfold fX11_live_b7 at hF
      refine lv_iload_n hx hb dX11_live_7 rfl (lv_at hl 3 rfl) ?_
      refine lv_aload_n hx hb dX11_live_8 rfl (lv_at hl 0 rfl) ?_
      refine gm_m_head hx hb hts hown hK hP fl_X11_199 dX11_live_9 ?_
      refine sx_icmp_ge (tgt := 61) hx hb hF dX11_live_12 (by decide) (fun hF => ?_) (fun hF => ?_)
      · refine lv_iload_n hx hb dX11_live_61 rfl (lv_at hl 2 rfl) ?_
        exact sx_reti (Wd := (am_W a cI)) (σ := u) hx hb hr hF hP hS hlocks dX11_live_62
      · refine lv_iload_n hx hb dX11_live_15 rfl (lv_at hl 2 rfl) ?_
        refine lv_aload_n hx hb dX11_live_16 rfl (lv_at hl 0 rfl) ?_
        refine lv_iload_n hx hb dX11_live_17 rfl (lv_at hl 3 rfl) ?_
        obtain ⟨r2, u3, hc4, hF⟩ := q_bnd_some hF
        refine sx_ci (Wd := (am_W a cI)) (σ1 := u3) (q_runV (Wd := (am_W a cI)) (σ := u) (q0 := 0) (ci := 11) (T := TX11) (N := 72) (As := [.int x3]) (rest := [.int x2]) hx hb hml hown hts hK hP (kt_X11_isLive hD hc4) cw_X11_205 rfl rfl ⟨Nat.le_of_ble_eq_true rfl, Nat.le_of_ble_eq_true rfl⟩ rfl rfl rfl hl.1 rfl (Nat.le_of_ble_eq_true rfl) dX11_live_18) hS (fun H locs hP hS => ?_)
        refine sx_if_eq (tgt := 52) hx hb hF dX11_live_21 (by decide) (fun hF => ?_) (fun hF => ?_)
        · exact hB52 ih7 hi7 x1 x3 x2 u3 ls (lv_sub hl [0, 1, 3] rfl) hF _ _ hP hS
        · refine lv_iload_n hx hb dX11_live_24 rfl (lv_at hl 1 rfl) ?_
          refine sx_if_lt (tgt := 48) hx hb hF dX11_live_25 (by decide) (fun hF => ?_) (fun hF => ?_)
          · exact hB48 ih7 hi7 x1 x3 x2 u3 ls (lv_sub hl [0, 1, 3] rfl) hF _ _ hP hS
          · refine lv_aload_n hx hb dX11_live_28 rfl (lv_at hl 0 rfl) ?_
            refine gm_m_entry hx hb hts hown hK hP fl_X11_24 dX11_live_29 ?_
            refine lv_iload_n hx hb dX11_live_32 rfl (lv_at hl 3 rfl) ?_
            refine lv_aload_n hx hb dX11_live_33 rfl (lv_at hl 0 rfl) ?_
            refine gm_m_cache hx hb hts hown hK hP fl_X11_162 dX11_live_34 ?_
            refine sx_irem hx hb hF dX11_live_37 (fun hF => ?_)
            refine lm_m_entry hx hb hK hP hF dX11_live_38 (fun v7 hF => ?_)
            refine lv_aload_n hx hb dX11_live_39 rfl (lv_at hl 0 rfl) ?_
            refine gm_m_wide hx hb hts hown hK hP fl_X11_165 dX11_live_40 ?_
            refine sx_idiv hx hb hF dX11_live_43 (fun hF => ?_)
            refine lv_iload_n hx hb dX11_live_44 rfl (lv_at hl 1 rfl) ?_
            refine sx_icmp_ne (tgt := 52) hx hb hF dX11_live_45 (by decide) (fun hF => ?_) (fun hF => ?_)
            · exact hB52 ih7 hi7 x1 x3 x2 u3 ls (lv_sub hl [0, 1, 3] rfl) hF _ _ hP hS
            · exact hB48 ih7 hi7 x1 x3 x2 u3 ls (lv_sub hl [0, 1, 3] rfl) hF _ _ hP hS
  unfold fX11_live at hF
  refine lv_iconst (v := 0) hx hb dX11_live_0 (by decide) ?_
  refine lv_istore_n (lv' := [(2, .int 0), (0, .ref (a 0)), (1, .int o1)]) hx hb dX11_live_1 rfl hl (by decide) rfl (fun ls hl => ?_)
  refine lv_aload_n hx hb dX11_live_2 rfl (lv_at hl 1 rfl) ?_
  refine gm_m_tail hx hb hts hown hK hP fl_X11_202 dX11_live_3 ?_
  refine sx_istore_n (lv2 := [(2, .int 0), (0, .ref (a 0)), (1, .int o1)]) hx hb hF dX11_live_6 rfl hl (by decide) rfl (fun v1 hF ls hl => ?_)
  exact hB7 N o1 0 v1 u ls (lv_sub hl [2, 3, 1, 0] rfl) hF _ _ hP hS
set_option maxHeartbeats 4000000 in
set_option maxRecDepth 100000 in
theorem kt_X11_fullest {N : Nat} {l : Launch} {D : va_G} {a : Nat → Nat} {cI : Nat → ClassId} (hD : ∀ σ, va_D (am_A a) (am_W a cI σ))  {u σ0 : q_St} {r0 : Int32} (hF : fX11_fullest N u = some (r0, σ0)) : Met l yX11_fullest (Cond.code yX11_fullest cX11_fullest 5 (some .int) :: q_T) ({ frames := 2, cells := 0, slots := 0, locals := 45 } : Room) (q_P D vwCl (am_T cI) (am_W a cI) [.ref (a 0)] u) (q_Qi D vwCl (am_W a cI) (am_A a) r0 σ0) 0 0 (am_A a) := by
  refine Met.ofW (cc := cX11_fullest) (maxL := 5) (ret := (some .int)) (by decide) rfl ?_
  intro p e s m args below meth c s₁ B hml hv
  obtain ⟨rfl, hP, hK⟩ := hv
  have hx := B.exec
  have hb := B.bytes
  have hr := B.returns
  have hts := q_ts (atoms_spec (ws := Cond.code yX11_fullest cX11_fullest 5 (some .int) :: q_T) B.pre)
  have hown : s.vm.findClass RX11 = some m.cls := findClass_of_methodNamed B.named
  have hlocks := B.notSynchronized
  have hS : va_S (am_A a) s.heap s.heap [] := va_S.rf
  have hl := lv_entry ([.ref (a 0)]) (n := 5) (Nat.le_of_ble_eq_true rfl)
  rw [lg_entry_eq]
  generalize (lg_sl ([.ref (a 0)]) ++ List.replicate (5 - (lg_sl ([.ref (a 0)])).length) Slot.unset).toArray = ls at hl ⊢
  have hl : lv_has ls 5 [(0, .ref (a 0))] := hl
  have hB45 : ∀ (ih6 : Int32 → Int32 → Int32 → q_St → Option (Int32 × q_St)) (hi6 : ∀ (x1 : Int32) (x2 : Int32) (x3 : Int32) (u : q_St) (ls : Array Slot), lv_has ls 5 [(0, .ref (a 0)), (1, .int x1), (2, .int x2), (3, .int x3)] → ih6 x1 x2 x3 u = some (r0, σ0) → ∀ (H : Heap) (locs : List Loc), va_P D vwCl (am_W a cI u) H → va_S (am_A a) s.heap H locs → W p l e (headSpec (Cond.code yX11_fullest cX11_fullest 5 (some .int) :: q_T) ({ frames := 2, cells := 0, slots := 0, locals := 45 } : Room)).room s m ([.ref (a 0)] : List Value).toArray below meth c H locs 0 0 (MQ below (q_Qi D vwCl (am_W a cI) (am_A a) r0 σ0) ([.ref (a 0)] : List Value).toArray s 0 0 (am_A a)) (F0 m 6 ls [])), ∀ (x1 : Int32) (x3 : Int32) (y0 : Int32) (u : q_St) (ls : Array Slot), lv_has ls 5 [(0, .ref (a 0)), (1, .int x1), (3, .int x3)] → fX11_fullest_b45 N ih6 x1 x3 y0 u = some (r0, σ0) → ∀ (H : Heap) (locs : List Loc), va_P D vwCl (am_W a cI u) H → va_S (am_A a) s.heap H locs → W p l e (headSpec (Cond.code yX11_fullest cX11_fullest 5 (some .int) :: q_T) ({ frames := 2, cells := 0, slots := 0, locals := 45 } : Room)).room s m ([.ref (a 0)] : List Value).toArray below meth c H locs 0 0 (MQ below (q_Qi D vwCl (am_W a cI) (am_A a) r0 σ0) ([.ref (a 0)] : List Value).toArray s 0 0 (am_A a)) (F0 m 45 ls [.int y0]) := by
    intro ih6 hi6 x1 x3 y0 u ls hl hF _ _ hP hS
    unfold fX11_fullest_b45 at hF
    refine lv_istore_n (lv' := [(2, .int y0), (0, .ref (a 0)), (1, .int x1), (3, .int x3)]) hx hb dX11_fullest_45 rfl hl (by decide) rfl (fun ls hl => ?_)
    refine sx_iinc (d := 1) (k := 3) (lv2 := [(2, .int y0), (0, .ref (a 0)), (1, .int x1)]) hx hb hF dX11_fullest_46 hl rfl (by decide) (by decide) rfl (fun v4 hF ls hl => ?_)
    refine lv_goto (tgt := 6) hx hb dX11_fullest_49 (by decide) ?_
    exact hi6 x1 y0 v4 u ls (lv_sub hl [2, 3, 1, 0] rfl) hF _ _ hP hS
  have hB32 : ∀ (ih6 : Int32 → Int32 → Int32 → q_St → Option (Int32 × q_St)) (hi6 : ∀ (x1 : Int32) (x2 : Int32) (x3 : Int32) (u : q_St) (ls : Array Slot), lv_has ls 5 [(0, .ref (a 0)), (1, .int x1), (2, .int x2), (3, .int x3)] → ih6 x1 x2 x3 u = some (r0, σ0) → ∀ (H : Heap) (locs : List Loc), va_P D vwCl (am_W a cI u) H → va_S (am_A a) s.heap H locs → W p l e (headSpec (Cond.code yX11_fullest cX11_fullest 5 (some .int) :: q_T) ({ frames := 2, cells := 0, slots := 0, locals := 45 } : Room)).room s m ([.ref (a 0)] : List Value).toArray below meth c H locs 0 0 (MQ below (q_Qi D vwCl (am_W a cI) (am_A a) r0 σ0) ([.ref (a 0)] : List Value).toArray s 0 0 (am_A a)) (F0 m 6 ls [])), ∀ (x2 : Int32) (x3 : Int32) (x4 : Int32) (y0 : Int32) (u : q_St) (ls : Array Slot), lv_has ls 5 [(0, .ref (a 0)), (2, .int x2), (3, .int x3), (4, .int x4)] → fX11_fullest_b32 N ih6 x2 x3 x4 y0 u = some (r0, σ0) → ∀ (H : Heap) (locs : List Loc), va_P D vwCl (am_W a cI u) H → va_S (am_A a) s.heap H locs → W p l e (headSpec (Cond.code yX11_fullest cX11_fullest 5 (some .int) :: q_T) ({ frames := 2, cells := 0, slots := 0, locals := 45 } : Room)).room s m ([.ref (a 0)] : List Value).toArray below meth c H locs 0 0 (MQ below (q_Qi D vwCl (am_W a cI) (am_A a) r0 σ0) ([.ref (a 0)] : List Value).toArray s 0 0 (am_A a)) (F0 m 32 ls [.int y0]) := by
    intro ih6 hi6 x2 x3 x4 y0 u ls hl hF _ _ hP hS
    unfold fX11_fullest_b32 at hF
    refine lv_istore_n (lv' := [(1, .int y0), (0, .ref (a 0)), (2, .int x2), (3, .int x3), (4, .int x4)]) hx hb dX11_fullest_32 rfl hl (by decide) rfl (fun ls hl => ?_)
    refine lv_iload hx hb dX11_fullest_33 (lv_at hl 4 rfl) ?_
    refine lv_iload_n hx hb dX11_fullest_35 rfl (lv_at hl 2 rfl) ?_
    refine sx_icmp_le (tgt := 44) hx hb hF dX11_fullest_36 (by decide) (fun hF => ?_) (fun hF => ?_)
    · refine lv_iload_n hx hb dX11_fullest_44 rfl (lv_at hl 2 rfl) ?_
      exact hB45 ih6 hi6 y0 x3 x2 u ls (lv_sub hl [1, 0, 3] rfl) hF _ _ hP hS
    · refine lv_iload hx hb dX11_fullest_39 (lv_at hl 4 rfl) ?_
      refine lv_goto (tgt := 45) hx hb dX11_fullest_41 (by decide) ?_
      exact hB45 ih6 hi6 y0 x3 x4 u ls (lv_sub hl [1, 0, 3] rfl) hF _ _ hP hS
  have hB6 : ∀ (n : Nat) (x1 : Int32) (x2 : Int32) (x3 : Int32) (u : q_St) (ls : Array Slot), lv_has ls 5 [(0, .ref (a 0)), (1, .int x1), (2, .int x2), (3, .int x3)] → q_lp (fX11_fullest_b6 N) (fun _ _ _ _ => none) n x1 x2 x3 u = some (r0, σ0) → ∀ (H : Heap) (locs : List Loc), va_P D vwCl (am_W a cI u) H → va_S (am_A a) s.heap H locs → W p l e (headSpec (Cond.code yX11_fullest cX11_fullest 5 (some .int) :: q_T) ({ frames := 2, cells := 0, slots := 0, locals := 45 } : Room)).room s m ([.ref (a 0)] : List Value).toArray below meth c H locs 0 0 (MQ below (q_Qi D vwCl (am_W a cI) (am_A a) r0 σ0) ([.ref (a 0)] : List Value).toArray s 0 0 (am_A a)) (F0 m 6 ls []) := by
    intro n
    induction n with
    | zero => intro x1 x2 x3 u ls hl hF; exact absurd (show (none : Option (Int32 × q_St)) = some _ from hF) (fun h => nomatch h)
    | succ n hi6 =>
      intro x1 x2 x3 u ls hl hF _ _ hP hS
      obtain ⟨ih6, hih⟩ : ∃ q, q = q_lp (fX11_fullest_b6 N) (fun _ _ _ _ => none) n := ⟨_, rfl⟩
      rw [← hih] at hi6
      have hF : fX11_fullest_b6 N (q_lp (fX11_fullest_b6 N) (fun _ _ _ _ => none) n) x1 x2 x3 u = some (r0, σ0) := hF
      rw [← hih] at hF
      clear hih
      unfold fX11_fullest_b6 at hF
      refine lv_iload_n hx hb dX11_fullest_6 rfl (lv_at hl 3 rfl) ?_
      refine lv_aload_n hx hb dX11_fullest_7 rfl (lv_at hl 0 rfl) ?_
      refine gm_m_bands hx hb hts hown hK hP fl_X11_153 dX11_fullest_8 ?_
      refine sx_icmp_ge (tgt := 52) hx hb hF dX11_fullest_11 (by decide) (fun hF => ?_) (fun hF => ?_)
      · refine lv_iload_n hx hb dX11_fullest_52 rfl (lv_at hl 1 rfl) ?_
        exact sx_reti (Wd := (am_W a cI)) (σ := u) hx hb hr hF hP hS hlocks dX11_fullest_53
      · refine lv_aload_n hx hb dX11_fullest_14 rfl (lv_at hl 0 rfl) ?_
        refine lv_iload_n hx hb dX11_fullest_15 rfl (lv_at hl 3 rfl) ?_
        obtain ⟨r1, u2, hc3, hF⟩ := q_bnd_some hF
        refine sx_ci (Wd := (am_W a cI)) (σ1 := u2) (q_runV (Wd := (am_W a cI)) (σ := u) (q0 := 0) (ci := 11) (T := TX11) (N := 72) (As := [.int x3]) (rest := []) hx hb hml hown hts hK hP (kt_X11_live hD hc3) cw_X11_209 rfl rfl ⟨Nat.le_of_ble_eq_true rfl, Nat.le_of_ble_eq_true rfl⟩ rfl rfl rfl hl.1 rfl (Nat.le_of_ble_eq_true rfl) dX11_fullest_16) hS (fun H locs hP hS => ?_)
        refine lv_istore (lv' := [(4, .int r1), (0, .ref (a 0)), (1, .int x1), (2, .int x2), (3, .int x3)]) hx hb dX11_fullest_19 hl (by decide) rfl (fun ls hl => ?_)
        refine lv_iload hx hb dX11_fullest_21 (lv_at hl 0 rfl) ?_
        refine lv_iload_n hx hb dX11_fullest_23 rfl (lv_at hl 3 rfl) ?_
        refine sx_icmp_le (tgt := 31) hx hb hF dX11_fullest_24 (by decide) (fun hF => ?_) (fun hF => ?_)
        · refine lv_iload_n hx hb dX11_fullest_31 rfl (lv_at hl 2 rfl) ?_
          exact hB32 ih6 hi6 x2 x3 r1 x1 u2 ls (lv_sub hl [1, 3, 4, 0] rfl) hF _ _ hP hS
        · refine lv_iload_n hx hb dX11_fullest_27 rfl (lv_at hl 4 rfl) ?_
          refine lv_goto (tgt := 32) hx hb dX11_fullest_28 (by decide) ?_
          exact hB32 ih6 hi6 x2 x3 r1 x3 u2 ls (lv_sub hl [1, 3, 4, 0] rfl) hF _ _ hP hS
  unfold fX11_fullest at hF
  refine lv_iconst (v := (-1)) hx hb dX11_fullest_0 (by decide) ?_
  refine lv_istore_n (lv' := [(1, .int (-1)), (0, .ref (a 0))]) hx hb dX11_fullest_1 rfl hl (by decide) rfl (fun ls hl => ?_)
  refine lv_iconst (v := 0) hx hb dX11_fullest_2 (by decide) ?_
  refine lv_istore_n (lv' := [(2, .int 0), (1, .int (-1)), (0, .ref (a 0))]) hx hb dX11_fullest_3 rfl hl (by decide) rfl (fun ls hl => ?_)
  refine lv_iconst (v := 0) hx hb dX11_fullest_4 (by decide) ?_
  refine lv_istore_n (lv' := [(3, .int 0), (2, .int 0), (1, .int (-1)), (0, .ref (a 0))]) hx hb dX11_fullest_5 rfl hl (by decide) rfl (fun ls hl => ?_)
  exact hB6 N (-1) 0 0 u ls (lv_sub hl [3, 2, 1, 0] rfl) hF _ _ hP hS
set_option maxHeartbeats 4000000 in
set_option maxRecDepth 100000 in
theorem kt_X11_nextKind {N : Nat} {l : Launch} {D : va_G} {a : Nat → Nat} {cI : Nat → ClassId} (hD : ∀ σ, va_D (am_A a) (am_W a cI σ))  {u σ0 : q_St} {r0 : Int32} (hF : fX11_nextKind N u = some (r0, σ0)) : Met l yX11_nextKind (Cond.code yX11_nextKind cX11_nextKind 1 (some .int) :: q_T) ({ frames := 3, cells := 0, slots := 0, locals := 69 } : Room) (q_P D vwCl (am_T cI) (am_W a cI) [.ref (a 0)] u) (q_Qi D vwCl (am_W a cI) (am_A a) r0 σ0) 0 0 (am_A a) := by
  refine Met.ofW (cc := cX11_nextKind) (maxL := 1) (ret := (some .int)) (by decide) rfl ?_
  intro p e s m args below meth c s₁ B hml hv
  obtain ⟨rfl, hP, hK⟩ := hv
  have hx := B.exec
  have hb := B.bytes
  have hr := B.returns
  have hts := q_ts (atoms_spec (ws := Cond.code yX11_nextKind cX11_nextKind 1 (some .int) :: q_T) B.pre)
  have hown : s.vm.findClass RX11 = some m.cls := findClass_of_methodNamed B.named
  have hlocks := B.notSynchronized
  have hS : va_S (am_A a) s.heap s.heap [] := va_S.rf
  have hl := lv_entry ([.ref (a 0)]) (n := 1) (Nat.le_of_ble_eq_true rfl)
  rw [lg_entry_eq]
  generalize (lg_sl ([.ref (a 0)]) ++ List.replicate (1 - (lg_sl ([.ref (a 0)])).length) Slot.unset).toArray = ls at hl ⊢
  have hl : lv_has ls 1 [(0, .ref (a 0))] := hl
  unfold fX11_nextKind at hF
  refine lv_aload_n hx hb dX11_nextKind_0 rfl (lv_at hl 0 rfl) ?_
  refine gm_m_band hx hb hts hown hK hP fl_X11_34 dX11_nextKind_1 ?_
  refine lv_iconst (v := (-1)) hx hb dX11_nextKind_4 (by decide) ?_
  refine sx_icmp_eq (tgt := 13) hx hb hF dX11_nextKind_5 (by decide) (fun hF => ?_) (fun hF => ?_)
  · refine lv_aload_n hx hb dX11_nextKind_13 rfl (lv_at hl 0 rfl) ?_
    obtain ⟨r1, u2, hc3, hF⟩ := q_bnd_some hF
    refine sx_ci (Wd := (am_W a cI)) (σ1 := u2) (q_runV (Wd := (am_W a cI)) (σ := u) (q0 := 0) (ci := 11) (T := TX11) (N := 72) (As := []) (rest := []) hx hb hml hown hts hK hP (kt_X11_oldest hD hc3) cw_X11_216 rfl rfl ⟨Nat.le_of_ble_eq_true rfl, Nat.le_of_ble_eq_true rfl⟩ rfl rfl rfl hl.1 rfl (Nat.le_of_ble_eq_true rfl) dX11_nextKind_14) hS (fun H locs hP hS => ?_)
    refine lv_aload_n hx hb dX11_nextKind_17 rfl (lv_at hl 0 rfl) ?_
    refine gm_m_tail hx hb hts hown hK hP fl_X11_202 dX11_nextKind_18 ?_
    refine lv_isub hx hb dX11_nextKind_21 ?_
    refine lv_aload_n hx hb dX11_nextKind_22 rfl (lv_at hl 0 rfl) ?_
    refine gm_m_cache hx hb hts hown hK hP fl_X11_162 dX11_nextKind_23 ?_
    refine lv_iconst (v := 4) hx hb dX11_nextKind_26 (by decide) ?_
    refine lv_idiv hx hb dX11_nextKind_27 (by decide) ?_
    refine sx_icmp_lt (tgt := 33) hx hb hF dX11_nextKind_28 (by decide) (fun hF => ?_) (fun hF => ?_)
    · refine lv_aload_n hx hb dX11_nextKind_33 rfl (lv_at hl 0 rfl) ?_
      obtain ⟨r4, u5, hc6, hF⟩ := q_bnd_some hF
      refine sx_ci (Wd := (am_W a cI)) (σ1 := u5) (q_runV (Wd := (am_W a cI)) (σ := u2) (q0 := 0) (ci := 11) (T := TX11) (N := 72) (As := []) (rest := []) hx hb hml hown hts hK hP (kt_X11_fullest hD hc6) cw_X11_220 rfl rfl ⟨Nat.le_of_ble_eq_true rfl, Nat.le_of_ble_eq_true rfl⟩ rfl rfl rfl hl.1 rfl (Nat.le_of_ble_eq_true rfl) dX11_nextKind_34) hS (fun H locs hP hS => ?_)
      refine lv_iconst (v := (-1)) hx hb dX11_nextKind_37 (by decide) ?_
      refine sx_icmp_ne (tgt := 45) hx hb hF dX11_nextKind_38 (by decide) (fun hF => ?_) (fun hF => ?_)
      · refine lv_iconst (v := 2) hx hb dX11_nextKind_45 (by decide) ?_
        exact sx_reti (Wd := (am_W a cI)) (σ := u5) hx hb hr hF hP hS hlocks dX11_nextKind_46
      · refine lv_iconst (v := 0) hx hb dX11_nextKind_41 (by decide) ?_
        refine lv_goto (tgt := 46) hx hb dX11_nextKind_42 (by decide) ?_
        exact sx_reti (Wd := (am_W a cI)) (σ := u5) hx hb hr hF hP hS hlocks dX11_nextKind_46
    · refine lv_iconst (v := 1) hx hb dX11_nextKind_31 (by decide) ?_
      exact sx_reti (Wd := (am_W a cI)) (σ := u2) hx hb hr hF hP hS hlocks dX11_nextKind_32
  · refine lv_aload_n hx hb dX11_nextKind_8 rfl (lv_at hl 0 rfl) ?_
    refine gm_m_work hx hb hts hown hK hP fl_X11_213 dX11_nextKind_9 ?_
    exact sx_reti (Wd := (am_W a cI)) (σ := u) hx hb hr hF hP hS hlocks dX11_nextKind_12
set_option maxHeartbeats 4000000 in
set_option maxRecDepth 100000 in
theorem kt_X11_record {N : Nat} {l : Launch} {D : va_G} {a : Nat → Nat} {cI : Nat → ClassId} (hD : ∀ σ, va_D (am_A a) (am_W a cI σ))  {u σ0 : q_St} {r0 : Int32} (hF : fX11_record N u = some (r0, σ0)) : Met l yX11_record (Cond.code yX11_record cX11_record 1 (some .boolean) :: q_T) ({ frames := 1, cells := 0, slots := 0, locals := 20 } : Room) (q_P D vwCl (am_T cI) (am_W a cI) [.ref (a 0)] u) (q_Qi D vwCl (am_W a cI) (am_A a) r0 σ0) 0 0 (am_A a) := by
  refine Met.ofW (cc := cX11_record) (maxL := 1) (ret := (some .boolean)) (by decide) rfl ?_
  intro p e s m args below meth c s₁ B hml hv
  obtain ⟨rfl, hP, hK⟩ := hv
  have hx := B.exec
  have hb := B.bytes
  have hr := B.returns
  have hts := q_ts (atoms_spec (ws := Cond.code yX11_record cX11_record 1 (some .boolean) :: q_T) B.pre)
  have hown : s.vm.findClass RX11 = some m.cls := findClass_of_methodNamed B.named
  have hlocks := B.notSynchronized
  have hS : va_S (am_A a) s.heap s.heap [] := va_S.rf
  have hl := lv_entry ([.ref (a 0)]) (n := 1) (Nat.le_of_ble_eq_true rfl)
  rw [lg_entry_eq]
  generalize (lg_sl ([.ref (a 0)]) ++ List.replicate (1 - (lg_sl ([.ref (a 0)])).length) Slot.unset).toArray = ls at hl ⊢
  have hl : lv_has ls 1 [(0, .ref (a 0))] := hl
  unfold fX11_record at hF
  refine lv_aload_n hx hb dX11_record_0 rfl (lv_at hl 0 rfl) ?_
  obtain ⟨r1, u2, hc3, hF⟩ := q_bnd_some hF
  refine sx_ci (Wd := (am_W a cI)) (σ1 := u2) (q_runV (Wd := (am_W a cI)) (σ := u) (q0 := 0) (ci := 11) (T := TX11) (N := 72) (As := []) (rest := []) hx hb hml hown hts hK hP (kt_X11_lasts hD hc3) cw_X11_186 rfl rfl ⟨Nat.le_of_ble_eq_true rfl, Nat.le_of_ble_eq_true rfl⟩ rfl rfl rfl hl.1 rfl (Nat.le_of_ble_eq_true rfl) dX11_record_1) hS (fun H locs hP hS => ?_)
  refine sx_if_ne (tgt := 9) hx hb hF dX11_record_4 (by decide) (fun hF => ?_) (fun hF => ?_)
  · refine lv_aload_n hx hb dX11_record_9 rfl (lv_at hl 0 rfl) ?_
    refine lv_dup hx hb dX11_record_10 rfl ?_
    refine gm_m_records hx hb hts hown hK hP fl_X11_190 dX11_record_11 ?_
    refine lv_iconst (v := 1) hx hb dX11_record_14 (by decide) ?_
    refine lv_iadd hx hb dX11_record_15 ?_
    refine pm_m_records hx hb hts hown hK hP fl_X11_190 hD hS hF dX11_record_16 (fun u4 H locs hF hP hS => ?_)
    refine lv_iconst (v := 1) hx hb dX11_record_19 (by decide) ?_
    exact sx_retz (Wd := (am_W a cI)) (σ := u4) hx hb hr (by decide) hF hP hS hlocks dX11_record_20
  · refine lv_iconst (v := 0) hx hb dX11_record_7 (by decide) ?_
    exact sx_retz (Wd := (am_W a cI)) (σ := u2) hx hb hr (by decide) hF hP hS hlocks dX11_record_8
set_option maxHeartbeats 4000000 in
set_option maxRecDepth 100000 in
theorem kt_X11_nextTrack {N : Nat} {l : Launch} {D : va_G} {a : Nat → Nat} {cI : Nat → ClassId} (hD : ∀ σ, va_D (am_A a) (am_W a cI σ)) {o1 : Int32} {u σ0 : q_St} {r0 : Unit} (hF : fX11_nextTrack N o1 u = some (r0, σ0)) : Met l yX11_nextTrack (Cond.code yX11_nextTrack cX11_nextTrack 2 none :: q_T) ({ frames := 0, cells := 0, slots := 0, locals := 0 } : Room) (q_P D vwCl (am_T cI) (am_W a cI) [.ref (a 0), .int o1] u) (q_Qv D vwCl (am_W a cI) (am_A a) σ0) 0 0 (am_A a) := by
  refine Met.ofW (cc := cX11_nextTrack) (maxL := 2) (ret := none) (by decide) rfl ?_
  intro p e s m args below meth c s₁ B hml hv
  obtain ⟨rfl, hP, hK⟩ := hv
  have hx := B.exec
  have hb := B.bytes
  have hr := B.returns
  have hts := q_ts (atoms_spec (ws := Cond.code yX11_nextTrack cX11_nextTrack 2 none :: q_T) B.pre)
  have hown : s.vm.findClass RX11 = some m.cls := findClass_of_methodNamed B.named
  have hlocks := B.notSynchronized
  have hS : va_S (am_A a) s.heap s.heap [] := va_S.rf
  have hl := lv_entry ([.ref (a 0), .int o1]) (n := 2) (Nat.le_of_ble_eq_true rfl)
  rw [lg_entry_eq]
  generalize (lg_sl ([.ref (a 0), .int o1]) ++ List.replicate (2 - (lg_sl ([.ref (a 0), .int o1])).length) Slot.unset).toArray = ls at hl ⊢
  have hl : lv_has ls 2 [(0, .ref (a 0)), (1, .int o1)] := hl
  unfold fX11_nextTrack at hF
  refine lv_aload_n hx hb dX11_nextTrack_0 rfl (lv_at hl 0 rfl) ?_
  refine lv_dup hx hb dX11_nextTrack_1 rfl ?_
  refine gm_m_track hx hb hts hown hK hP fl_X11_232 dX11_nextTrack_2 ?_
  refine lv_iconst (v := 1) hx hb dX11_nextTrack_5 (by decide) ?_
  refine lv_iadd hx hb dX11_nextTrack_6 ?_
  refine pm_m_track hx hb hts hown hK hP fl_X11_232 hD hS hF dX11_nextTrack_7 (fun u1 H locs hF hP hS => ?_)
  refine lv_aload_n hx hb dX11_nextTrack_10 rfl (lv_at hl 0 rfl) ?_
  refine gm_m_track hx hb hts hown hK hP fl_X11_232 dX11_nextTrack_11 ?_
  refine lv_aload_n hx hb dX11_nextTrack_14 rfl (lv_at hl 0 rfl) ?_
  refine gm_m_tracks hx hb hts hown hK hP fl_X11_156 dX11_nextTrack_15 ?_
  refine sx_icmp_ge (tgt := 22) hx hb hF dX11_nextTrack_18 (by decide) (fun hF => ?_) (fun hF => ?_)
  · refine lv_aload_n hx hb dX11_nextTrack_22 rfl (lv_at hl 0 rfl) ?_
    refine lv_iload_n hx hb dX11_nextTrack_23 rfl (lv_at hl 1 rfl) ?_
    refine pm_m_work hx hb hts hown hK hP fl_X11_213 hD hS hF dX11_nextTrack_24 (fun u2 H locs hF hP hS => ?_)
    refine lv_aload_n hx hb dX11_nextTrack_27 rfl (lv_at hl 0 rfl) ?_
    refine lv_iconst (v := 0) hx hb dX11_nextTrack_28 (by decide) ?_
    refine pm_m_track hx hb hts hown hK hP fl_X11_232 hD hS hF dX11_nextTrack_29 (fun u3 H locs hF hP hS => ?_)
    exact sx_retv (Wd := (am_W a cI)) (σ := u3) hx hb hr hF hP hS hlocks dX11_nextTrack_32
  · exact sx_retv (Wd := (am_W a cI)) (σ := u1) hx hb hr hF hP hS hlocks dX11_nextTrack_21
set_option maxHeartbeats 4000000 in
set_option maxRecDepth 100000 in
theorem kt_X11_writeScratch {N : Nat} {l : Launch} {D : va_G} {a : Nat → Nat} {cI : Nat → ClassId} (hD : ∀ σ, va_D (am_A a) (am_W a cI σ)) {o1 : Int32} {o2 : Int32} {u σ0 : q_St} {r0 : Int32} (hF : fX11_writeScratch N o1 o2 u = some (r0, σ0)) : Met l yX11_writeScratch (Cond.code yX11_writeScratch cX11_writeScratch 5 (some .boolean) :: q_T) ({ frames := 1, cells := 0, slots := 0, locals := 20 } : Room) (q_P D vwCl (am_T cI) (am_W a cI) [.ref (a 0), .int o1, .int o2] u) (q_Qi D vwCl (am_W a cI) (am_A a) r0 σ0) 0 0 (am_A a) := by
  refine Met.ofW (cc := cX11_writeScratch) (maxL := 5) (ret := (some .boolean)) (by decide) rfl ?_
  intro p e s m args below meth c s₁ B hml hv
  obtain ⟨rfl, hP, hK⟩ := hv
  have hx := B.exec
  have hb := B.bytes
  have hr := B.returns
  have hts := q_ts (atoms_spec (ws := Cond.code yX11_writeScratch cX11_writeScratch 5 (some .boolean) :: q_T) B.pre)
  have hown : s.vm.findClass RX11 = some m.cls := findClass_of_methodNamed B.named
  have hlocks := B.notSynchronized
  have hS : va_S (am_A a) s.heap s.heap [] := va_S.rf
  have hl := lv_entry ([.ref (a 0), .int o1, .int o2]) (n := 5) (Nat.le_of_ble_eq_true rfl)
  rw [lg_entry_eq]
  generalize (lg_sl ([.ref (a 0), .int o1, .int o2]) ++ List.replicate (5 - (lg_sl ([.ref (a 0), .int o1, .int o2])).length) Slot.unset).toArray = ls at hl ⊢
  have hl : lv_has ls 5 [(0, .ref (a 0)), (1, .int o1), (2, .int o2)] := hl
  have hB86 : ∀ (x3 : Int32) (y0 : Int32) (y1 : Int32) (u : q_St) (ls : Array Slot), lv_has ls 5 [(3, .int x3)] → fX11_writeScratch_b86 N x3 y0 y1 u = some (r0, σ0) → ∀ (H : Heap) (locs : List Loc), va_P D vwCl (am_W a cI u) H → va_S (am_A a) s.heap H locs → W p l e (headSpec (Cond.code yX11_writeScratch cX11_writeScratch 5 (some .boolean) :: q_T) ({ frames := 1, cells := 0, slots := 0, locals := 20 } : Room)).room s m ([.ref (a 0), .int o1, .int o2] : List Value).toArray below meth c H locs 0 0 (MQ below (q_Qi D vwCl (am_W a cI) (am_A a) r0 σ0) ([.ref (a 0), .int o1, .int o2] : List Value).toArray s 0 0 (am_A a)) (F0 m 86 ls [.int y0, .int y1, .ref (a 0)]) := by
    intro x3 y0 y1 u ls hl hF _ _ hP hS
    unfold fX11_writeScratch_b86 at hF
    refine lv_iadd hx hb dX11_writeScratch_86 ?_
    refine pm_m_inScratch hx hb hts hown hK hP fl_X11_196 hD hS hF dX11_writeScratch_87 (fun u6 H locs hF hP hS => ?_)
    refine lv_iload_n hx hb dX11_writeScratch_90 rfl (lv_at hl 0 rfl) ?_
    exact sx_retzv (Wd := (am_W a cI)) (σ := u6) hx hb hr hF hP hS hlocks dX11_writeScratch_91
  have hB72 : ∀ (x3 : Int32) (u : q_St) (ls : Array Slot), lv_has ls 5 [(0, .ref (a 0)), (3, .int x3)] → fX11_writeScratch_b72 N x3 u = some (r0, σ0) → ∀ (H : Heap) (locs : List Loc), va_P D vwCl (am_W a cI u) H → va_S (am_A a) s.heap H locs → W p l e (headSpec (Cond.code yX11_writeScratch cX11_writeScratch 5 (some .boolean) :: q_T) ({ frames := 1, cells := 0, slots := 0, locals := 20 } : Room)).room s m ([.ref (a 0), .int o1, .int o2] : List Value).toArray below meth c H locs 0 0 (MQ below (q_Qi D vwCl (am_W a cI) (am_A a) r0 σ0) ([.ref (a 0), .int o1, .int o2] : List Value).toArray s 0 0 (am_A a)) (F0 m 72 ls []) := by
    intro x3 u ls hl hF _ _ hP hS
    unfold fX11_writeScratch_b72 at hF
    refine lv_aload_n hx hb dX11_writeScratch_72 rfl (lv_at hl 0 rfl) ?_
    refine lv_dup hx hb dX11_writeScratch_73 rfl ?_
    refine gm_m_inScratch hx hb hts hown hK hP fl_X11_196 dX11_writeScratch_74 ?_
    refine lv_iload_n hx hb dX11_writeScratch_77 rfl (lv_at hl 1 rfl) ?_
    refine sx_if_eq (tgt := 85) hx hb hF dX11_writeScratch_78 (by decide) (fun hF => ?_) (fun hF => ?_)
    · refine lv_iconst (v := 0) hx hb dX11_writeScratch_85 (by decide) ?_
      exact hB86 x3 0 (q_i u 13) u ls (lv_sub hl [1] rfl) hF _ _ hP hS
    · refine lv_iconst (v := 1) hx hb dX11_writeScratch_81 (by decide) ?_
      refine lv_goto (tgt := 86) hx hb dX11_writeScratch_82 (by decide) ?_
      exact hB86 x3 1 (q_i u 13) u ls (lv_sub hl [1] rfl) hF _ _ hP hS
  have hB33 : ∀ (n : Nat) (x1 : Int32) (x3 : Int32) (x4 : Int32) (u : q_St) (ls : Array Slot), lv_has ls 5 [(0, .ref (a 0)), (1, .int x1), (3, .int x3), (4, .int x4)] → q_lp (fX11_writeScratch_b33 N) (fun _ _ _ _ => none) n x1 x3 x4 u = some (r0, σ0) → ∀ (H : Heap) (locs : List Loc), va_P D vwCl (am_W a cI u) H → va_S (am_A a) s.heap H locs → W p l e (headSpec (Cond.code yX11_writeScratch cX11_writeScratch 5 (some .boolean) :: q_T) ({ frames := 1, cells := 0, slots := 0, locals := 20 } : Room)).room s m ([.ref (a 0), .int o1, .int o2] : List Value).toArray below meth c H locs 0 0 (MQ below (q_Qi D vwCl (am_W a cI) (am_A a) r0 σ0) ([.ref (a 0), .int o1, .int o2] : List Value).toArray s 0 0 (am_A a)) (F0 m 33 ls []) := by
    intro n
    induction n with
    | zero => intro x1 x3 x4 u ls hl hF; exact absurd (show (none : Option (Int32 × q_St)) = some _ from hF) (fun h => nomatch h)
    | succ n hi33 =>
      intro x1 x3 x4 u ls hl hF _ _ hP hS
      obtain ⟨ih33, hih⟩ : ∃ q, q = q_lp (fX11_writeScratch_b33 N) (fun _ _ _ _ => none) n := ⟨_, rfl⟩
      rw [← hih] at hi33
      have hF : fX11_writeScratch_b33 N (q_lp (fX11_writeScratch_b33 N) (fun _ _ _ _ => none) n) x1 x3 x4 u = some (r0, σ0) := hF
      rw [← hih] at hF
      clear hih
      unfold fX11_writeScratch_b33 at hF
      refine lv_iload hx hb dX11_writeScratch_33 (lv_at hl 3 rfl) ?_
      refine lv_bipush (v := 8) hx hb dX11_writeScratch_35 (by decide) ?_
      refine lv_iload_n hx hb dX11_writeScratch_37 rfl (lv_at hl 1 rfl) ?_
      refine lv_iconst (v := 1) hx hb dX11_writeScratch_38 (by decide) ?_
      refine lv_iadd hx hb dX11_writeScratch_39 ?_
      refine lv_aload_n hx hb dX11_writeScratch_40 rfl (lv_at hl 0 rfl) ?_
      refine gm_m_shingles hx hb hts hown hK hP fl_X11_159 dX11_writeScratch_41 ?_
      refine lv_iadd hx hb dX11_writeScratch_44 ?_
      refine lv_imul hx hb dX11_writeScratch_45 ?_
      refine sx_icmp_ge (tgt := 72) hx hb hF dX11_writeScratch_46 (by decide) (fun hF => ?_) (fun hF => ?_)
      · exact hB72 x3 u ls (lv_sub hl [0, 2] rfl) hF _ _ hP hS
      · refine lv_iload hx hb dX11_writeScratch_49 (lv_at hl 3 rfl) ?_
        refine lv_aload_n hx hb dX11_writeScratch_51 rfl (lv_at hl 0 rfl) ?_
        refine gm_m_wide hx hb hts hown hK hP fl_X11_165 dX11_writeScratch_52 ?_
        refine sx_icmp_ge (tgt := 72) hx hb hF dX11_writeScratch_55 (by decide) (fun hF => ?_) (fun hF => ?_)
        · exact hB72 x3 u ls (lv_sub hl [0, 2] rfl) hF _ _ hP hS
        · refine lv_aload_n hx hb dX11_writeScratch_58 rfl (lv_at hl 0 rfl) ?_
          refine gm_m_isScratchLost hx hb hts hown hK hP fl_X11_21 dX11_writeScratch_59 ?_
          refine lv_iload hx hb dX11_writeScratch_62 (lv_at hl 3 rfl) ?_
          refine lv_iconst (v := 1) hx hb dX11_writeScratch_64 (by decide) ?_
          refine um_m_isScratchLost hx hb hK hP hD hS hF dX11_writeScratch_65 (fun u7 H locs hF hP hS => ?_)
          refine sx_iinc (d := 1) (k := 3) (lv2 := [(0, .ref (a 0)), (1, .int x1), (3, .int x3)]) hx hb hF dX11_writeScratch_66 hl rfl (by decide) (by decide) rfl (fun v8 hF ls hl => ?_)
          refine lv_goto (tgt := 33) hx hb dX11_writeScratch_69 (by decide) ?_
          exact hi33 x1 x3 v8 u7 ls (lv_sub hl [1, 2, 3, 0] rfl) hF _ _ hP hS
  have hB24 : ∀ (x1 : Int32) (x3 : Int32) (y0 : Int32) (y1 : Int32) (u : q_St) (ls : Array Slot), lv_has ls 5 [(0, .ref (a 0)), (1, .int x1), (3, .int x3)] → fX11_writeScratch_b24 N x1 x3 y0 y1 u = some (r0, σ0) → ∀ (H : Heap) (locs : List Loc), va_P D vwCl (am_W a cI u) H → va_S (am_A a) s.heap H locs → W p l e (headSpec (Cond.code yX11_writeScratch cX11_writeScratch 5 (some .boolean) :: q_T) ({ frames := 1, cells := 0, slots := 0, locals := 20 } : Room)).room s m ([.ref (a 0), .int o1, .int o2] : List Value).toArray below meth c H locs 0 0 (MQ below (q_Qi D vwCl (am_W a cI) (am_A a) r0 σ0) ([.ref (a 0), .int o1, .int o2] : List Value).toArray s 0 0 (am_A a)) (F0 m 24 ls [.int y0, .int y1, .ref (a 2)]) := by
    intro x1 x3 y0 y1 u ls hl hF _ _ hP hS
    unfold fX11_writeScratch_b24 at hF
    refine um_m_isScratchLost hx hb hK hP hD hS hF dX11_writeScratch_24 (fun u4 H locs hF hP hS => ?_)
    refine lv_bipush (v := 8) hx hb dX11_writeScratch_25 (by decide) ?_
    refine lv_iload_n hx hb dX11_writeScratch_27 rfl (lv_at hl 1 rfl) ?_
    refine lv_iconst (v := 1) hx hb dX11_writeScratch_28 (by decide) ?_
    refine lv_iadd hx hb dX11_writeScratch_29 ?_
    refine lv_imul hx hb dX11_writeScratch_30 ?_
    refine sx_istore (lv2 := [(0, .ref (a 0)), (1, .int x1), (3, .int x3)]) hx hb hF dX11_writeScratch_31 hl (by decide) rfl (fun v5 hF ls hl => ?_)
    exact hB33 N x1 x3 v5 u4 ls (lv_sub hl [1, 2, 3, 0] rfl) hF _ _ hP hS
  unfold fX11_writeScratch at hF
  refine lv_aload_n hx hb dX11_writeScratch_0 rfl (lv_at hl 0 rfl) ?_
  obtain ⟨r1, u2, hc3, hF⟩ := q_bnd_some hF
  refine sx_ci (Wd := (am_W a cI)) (σ1 := u2) (q_runV (Wd := (am_W a cI)) (σ := u) (q0 := 0) (ci := 11) (T := TX11) (N := 72) (As := []) (rest := []) hx hb hml hown hts hK hP (kt_X11_lasts hD hc3) cw_X11_186 rfl rfl ⟨Nat.le_of_ble_eq_true rfl, Nat.le_of_ble_eq_true rfl⟩ rfl rfl rfl hl.1 rfl (Nat.le_of_ble_eq_true rfl) dX11_writeScratch_1) hS (fun H locs hP hS => ?_)
  refine lv_istore_n (lv' := [(3, .int r1), (0, .ref (a 0)), (1, .int o1), (2, .int o2)]) hx hb dX11_writeScratch_4 rfl hl (by decide) rfl (fun ls hl => ?_)
  refine lv_aload_n hx hb dX11_writeScratch_5 rfl (lv_at hl 1 rfl) ?_
  refine gm_m_isScratchLost hx hb hts hown hK hP fl_X11_21 dX11_writeScratch_6 ?_
  refine lv_bipush (v := 8) hx hb dX11_writeScratch_9 (by decide) ?_
  refine lv_iload_n hx hb dX11_writeScratch_11 rfl (lv_at hl 2 rfl) ?_
  refine lv_imul hx hb dX11_writeScratch_12 ?_
  refine lv_iload_n hx hb dX11_writeScratch_13 rfl (lv_at hl 3 rfl) ?_
  refine lv_iadd hx hb dX11_writeScratch_14 ?_
  refine lv_iload_n hx hb dX11_writeScratch_15 rfl (lv_at hl 0 rfl) ?_
  refine sx_if_ne (tgt := 23) hx hb hF dX11_writeScratch_16 (by decide) (fun hF => ?_) (fun hF => ?_)
  · refine lv_iconst (v := 0) hx hb dX11_writeScratch_23 (by decide) ?_
    exact hB24 o1 r1 0 ((8 * o1) + o2) u2 ls (lv_sub hl [1, 2, 0] rfl) hF _ _ hP hS
  · refine lv_iconst (v := 1) hx hb dX11_writeScratch_19 (by decide) ?_
    refine lv_goto (tgt := 24) hx hb dX11_writeScratch_20 (by decide) ?_
    exact hB24 o1 r1 1 ((8 * o1) + o2) u2 ls (lv_sub hl [1, 2, 0] rfl) hF _ _ hP hS
set_option maxHeartbeats 4000000 in
set_option maxRecDepth 100000 in
theorem kt_X11_writeBand {N : Nat} {l : Launch} {D : va_G} {a : Nat → Nat} {cI : Nat → ClassId} (hD : ∀ σ, va_D (am_A a) (am_W a cI σ)) {o1 : Int32} {o2 : Int32} {o3 : Int32} {u σ0 : q_St} {r0 : Int32} (hF : fX11_writeBand N o1 o2 o3 u = some (r0, σ0)) : Met l yX11_writeBand (Cond.code yX11_writeBand cX11_writeBand 7 (some .boolean) :: q_T) ({ frames := 1, cells := 0, slots := 0, locals := 20 } : Room) (q_P D vwCl (am_T cI) (am_W a cI) [.ref (a 0), .int o1, .int o2, .int o3] u) (q_Qi D vwCl (am_W a cI) (am_A a) r0 σ0) 0 0 (am_A a) := by
  refine Met.ofW (cc := cX11_writeBand) (maxL := 7) (ret := (some .boolean)) (by decide) rfl ?_
  intro p e s m args below meth c s₁ B hml hv
  obtain ⟨rfl, hP, hK⟩ := hv
  have hx := B.exec
  have hb := B.bytes
  have hr := B.returns
  have hts := q_ts (atoms_spec (ws := Cond.code yX11_writeBand cX11_writeBand 7 (some .boolean) :: q_T) B.pre)
  have hown : s.vm.findClass RX11 = some m.cls := findClass_of_methodNamed B.named
  have hlocks := B.notSynchronized
  have hS : va_S (am_A a) s.heap s.heap [] := va_S.rf
  have hl := lv_entry ([.ref (a 0), .int o1, .int o2, .int o3]) (n := 7) (Nat.le_of_ble_eq_true rfl)
  rw [lg_entry_eq]
  generalize (lg_sl ([.ref (a 0), .int o1, .int o2, .int o3]) ++ List.replicate (7 - (lg_sl ([.ref (a 0), .int o1, .int o2, .int o3])).length) Slot.unset).toArray = ls at hl ⊢
  have hl : lv_has ls 7 [(0, .ref (a 0)), (1, .int o1), (2, .int o2), (3, .int o3)] := hl
  have hB118 : ∀ (x4 : Int32) (y0 : Int32) (y1 : Int32) (u : q_St) (ls : Array Slot), lv_has ls 7 [(4, .int x4)] → fX11_writeBand_b118 N x4 y0 y1 u = some (r0, σ0) → ∀ (H : Heap) (locs : List Loc), va_P D vwCl (am_W a cI u) H → va_S (am_A a) s.heap H locs → W p l e (headSpec (Cond.code yX11_writeBand cX11_writeBand 7 (some .boolean) :: q_T) ({ frames := 1, cells := 0, slots := 0, locals := 20 } : Room)).room s m ([.ref (a 0), .int o1, .int o2, .int o3] : List Value).toArray below meth c H locs 0 0 (MQ below (q_Qi D vwCl (am_W a cI) (am_A a) r0 σ0) ([.ref (a 0), .int o1, .int o2, .int o3] : List Value).toArray s 0 0 (am_A a)) (F0 m 118 ls [.int y0, .int y1, .ref (a 0)]) := by
    intro x4 y0 y1 u ls hl hF _ _ hP hS
    unfold fX11_writeBand_b118 at hF
    refine lv_iadd hx hb dX11_writeBand_118 ?_
    refine pm_m_inBands hx hb hts hown hK hP fl_X11_193 hD hS hF dX11_writeBand_119 (fun u7 H locs hF hP hS => ?_)
    refine lv_iload hx hb dX11_writeBand_122 (lv_at hl 0 rfl) ?_
    exact sx_retzv (Wd := (am_W a cI)) (σ := u7) hx hb hr hF hP hS hlocks dX11_writeBand_124
  have hB103 : ∀ (x4 : Int32) (u : q_St) (ls : Array Slot), lv_has ls 7 [(0, .ref (a 0)), (4, .int x4)] → fX11_writeBand_b103 N x4 u = some (r0, σ0) → ∀ (H : Heap) (locs : List Loc), va_P D vwCl (am_W a cI u) H → va_S (am_A a) s.heap H locs → W p l e (headSpec (Cond.code yX11_writeBand cX11_writeBand 7 (some .boolean) :: q_T) ({ frames := 1, cells := 0, slots := 0, locals := 20 } : Room)).room s m ([.ref (a 0), .int o1, .int o2, .int o3] : List Value).toArray below meth c H locs 0 0 (MQ below (q_Qi D vwCl (am_W a cI) (am_A a) r0 σ0) ([.ref (a 0), .int o1, .int o2, .int o3] : List Value).toArray s 0 0 (am_A a)) (F0 m 103 ls []) := by
    intro x4 u ls hl hF _ _ hP hS
    unfold fX11_writeBand_b103 at hF
    refine lv_aload_n hx hb dX11_writeBand_103 rfl (lv_at hl 0 rfl) ?_
    refine lv_dup hx hb dX11_writeBand_104 rfl ?_
    refine gm_m_inBands hx hb hts hown hK hP fl_X11_193 dX11_writeBand_105 ?_
    refine lv_iload hx hb dX11_writeBand_108 (lv_at hl 1 rfl) ?_
    refine sx_if_eq (tgt := 117) hx hb hF dX11_writeBand_110 (by decide) (fun hF => ?_) (fun hF => ?_)
    · refine lv_iconst (v := 0) hx hb dX11_writeBand_117 (by decide) ?_
      exact hB118 x4 0 (q_i u 12) u ls (lv_sub hl [1] rfl) hF _ _ hP hS
    · refine lv_iconst (v := 1) hx hb dX11_writeBand_113 (by decide) ?_
      refine lv_goto (tgt := 118) hx hb dX11_writeBand_114 (by decide) ?_
      exact hB118 x4 1 (q_i u 12) u ls (lv_sub hl [1] rfl) hF _ _ hP hS
  have hB53 : ∀ (n : Nat) (x1 : Int32) (x2 : Int32) (x4 : Int32) (x6 : Int32) (u : q_St) (ls : Array Slot), lv_has ls 7 [(0, .ref (a 0)), (1, .int x1), (2, .int x2), (4, .int x4), (6, .int x6)] → q_lp (fX11_writeBand_b53 N) (fun _ _ _ _ _ => none) n x1 x2 x4 x6 u = some (r0, σ0) → ∀ (H : Heap) (locs : List Loc), va_P D vwCl (am_W a cI u) H → va_S (am_A a) s.heap H locs → W p l e (headSpec (Cond.code yX11_writeBand cX11_writeBand 7 (some .boolean) :: q_T) ({ frames := 1, cells := 0, slots := 0, locals := 20 } : Room)).room s m ([.ref (a 0), .int o1, .int o2, .int o3] : List Value).toArray below meth c H locs 0 0 (MQ below (q_Qi D vwCl (am_W a cI) (am_A a) r0 σ0) ([.ref (a 0), .int o1, .int o2, .int o3] : List Value).toArray s 0 0 (am_A a)) (F0 m 53 ls []) := by
    intro n
    induction n with
    | zero => intro x1 x2 x4 x6 u ls hl hF; exact absurd (show (none : Option (Int32 × q_St)) = some _ from hF) (fun h => nomatch h)
    | succ n hi53 =>
      intro x1 x2 x4 x6 u ls hl hF _ _ hP hS
      obtain ⟨ih53, hih⟩ : ∃ q, q = q_lp (fX11_writeBand_b53 N) (fun _ _ _ _ _ => none) n := ⟨_, rfl⟩
      rw [← hih] at hi53
      have hF : fX11_writeBand_b53 N (q_lp (fX11_writeBand_b53 N) (fun _ _ _ _ _ => none) n) x1 x2 x4 x6 u = some (r0, σ0) := hF
      rw [← hih] at hF
      clear hih
      unfold fX11_writeBand_b53 at hF
      refine lv_iload hx hb dX11_writeBand_53 (lv_at hl 4 rfl) ?_
      refine lv_iload_n hx hb dX11_writeBand_55 rfl (lv_at hl 1 rfl) ?_
      refine lv_aload_n hx hb dX11_writeBand_56 rfl (lv_at hl 0 rfl) ?_
      refine gm_m_wide hx hb hts hown hK hP fl_X11_165 dX11_writeBand_57 ?_
      refine lv_imul hx hb dX11_writeBand_60 ?_
      refine lv_bipush (v := 8) hx hb dX11_writeBand_61 (by decide) ?_
      refine lv_iload_n hx hb dX11_writeBand_63 rfl (lv_at hl 2 rfl) ?_
      refine lv_iconst (v := 1) hx hb dX11_writeBand_64 (by decide) ?_
      refine lv_iadd hx hb dX11_writeBand_65 ?_
      refine lv_aload_n hx hb dX11_writeBand_66 rfl (lv_at hl 0 rfl) ?_
      refine gm_m_shingles hx hb hts hown hK hP fl_X11_159 dX11_writeBand_67 ?_
      refine lv_iadd hx hb dX11_writeBand_70 ?_
      refine lv_imul hx hb dX11_writeBand_71 ?_
      refine lv_iadd hx hb dX11_writeBand_72 ?_
      refine sx_icmp_ge (tgt := 103) hx hb hF dX11_writeBand_73 (by decide) (fun hF => ?_) (fun hF => ?_)
      · exact hB103 x4 u ls (lv_sub hl [0, 3] rfl) hF _ _ hP hS
      · refine lv_iload hx hb dX11_writeBand_76 (lv_at hl 4 rfl) ?_
        refine lv_iload_n hx hb dX11_writeBand_78 rfl (lv_at hl 1 rfl) ?_
        refine lv_iconst (v := 1) hx hb dX11_writeBand_79 (by decide) ?_
        refine lv_iadd hx hb dX11_writeBand_80 ?_
        refine lv_aload_n hx hb dX11_writeBand_81 rfl (lv_at hl 0 rfl) ?_
        refine gm_m_wide hx hb hts hown hK hP fl_X11_165 dX11_writeBand_82 ?_
        refine lv_imul hx hb dX11_writeBand_85 ?_
        refine sx_icmp_ge (tgt := 103) hx hb hF dX11_writeBand_86 (by decide) (fun hF => ?_) (fun hF => ?_)
        · exact hB103 x4 u ls (lv_sub hl [0, 3] rfl) hF _ _ hP hS
        · refine lv_aload_n hx hb dX11_writeBand_89 rfl (lv_at hl 0 rfl) ?_
          refine gm_m_isLost hx hb hts hown hK hP fl_X11_17 dX11_writeBand_90 ?_
          refine lv_iload hx hb dX11_writeBand_93 (lv_at hl 4 rfl) ?_
          refine lv_iconst (v := 1) hx hb dX11_writeBand_95 (by decide) ?_
          refine um_m_isLost hx hb hK hP hD hS hF dX11_writeBand_96 (fun u8 H locs hF hP hS => ?_)
          refine sx_iinc (d := 1) (k := 4) (lv2 := [(0, .ref (a 0)), (1, .int x1), (2, .int x2), (4, .int x4)]) hx hb hF dX11_writeBand_97 hl rfl (by decide) (by decide) rfl (fun v9 hF ls hl => ?_)
          refine lv_goto (tgt := 53) hx hb dX11_writeBand_100 (by decide) ?_
          exact hi53 x1 x2 x4 v9 u8 ls (lv_sub hl [1, 2, 3, 4, 0] rfl) hF _ _ hP hS
  have hB37 : ∀ (x1 : Int32) (x2 : Int32) (x4 : Int32) (y0 : Int32) (y1 : Int32) (u : q_St) (ls : Array Slot), lv_has ls 7 [(0, .ref (a 0)), (1, .int x1), (2, .int x2), (4, .int x4)] → fX11_writeBand_b37 N x1 x2 x4 y0 y1 u = some (r0, σ0) → ∀ (H : Heap) (locs : List Loc), va_P D vwCl (am_W a cI u) H → va_S (am_A a) s.heap H locs → W p l e (headSpec (Cond.code yX11_writeBand cX11_writeBand 7 (some .boolean) :: q_T) ({ frames := 1, cells := 0, slots := 0, locals := 20 } : Room)).room s m ([.ref (a 0), .int o1, .int o2, .int o3] : List Value).toArray below meth c H locs 0 0 (MQ below (q_Qi D vwCl (am_W a cI) (am_A a) r0 σ0) ([.ref (a 0), .int o1, .int o2, .int o3] : List Value).toArray s 0 0 (am_A a)) (F0 m 37 ls [.int y0, .int y1, .ref (a 1)]) := by
    intro x1 x2 x4 y0 y1 u ls hl hF _ _ hP hS
    unfold fX11_writeBand_b37 at hF
    refine um_m_isLost hx hb hK hP hD hS hF dX11_writeBand_37 (fun u5 H locs hF hP hS => ?_)
    refine lv_iload_n hx hb dX11_writeBand_38 rfl (lv_at hl 1 rfl) ?_
    refine lv_aload_n hx hb dX11_writeBand_39 rfl (lv_at hl 0 rfl) ?_
    refine gm_m_wide hx hb hts hown hK hP fl_X11_165 dX11_writeBand_40 ?_
    refine lv_imul hx hb dX11_writeBand_43 ?_
    refine lv_bipush (v := 8) hx hb dX11_writeBand_44 (by decide) ?_
    refine lv_iload_n hx hb dX11_writeBand_46 rfl (lv_at hl 2 rfl) ?_
    refine lv_iconst (v := 1) hx hb dX11_writeBand_47 (by decide) ?_
    refine lv_iadd hx hb dX11_writeBand_48 ?_
    refine lv_imul hx hb dX11_writeBand_49 ?_
    refine lv_iadd hx hb dX11_writeBand_50 ?_
    refine sx_istore (lv2 := [(0, .ref (a 0)), (1, .int x1), (2, .int x2), (4, .int x4)]) hx hb hF dX11_writeBand_51 hl (by decide) rfl (fun v6 hF ls hl => ?_)
    exact hB53 N x1 x2 x4 v6 u5 ls (lv_sub hl [1, 2, 3, 4, 0] rfl) hF _ _ hP hS
  unfold fX11_writeBand at hF
  refine lv_aload_n hx hb dX11_writeBand_0 rfl (lv_at hl 0 rfl) ?_
  obtain ⟨r1, u2, hc3, hF⟩ := q_bnd_some hF
  refine sx_ci (Wd := (am_W a cI)) (σ1 := u2) (q_runV (Wd := (am_W a cI)) (σ := u) (q0 := 0) (ci := 11) (T := TX11) (N := 72) (As := []) (rest := []) hx hb hml hown hts hK hP (kt_X11_lasts hD hc3) cw_X11_186 rfl rfl ⟨Nat.le_of_ble_eq_true rfl, Nat.le_of_ble_eq_true rfl⟩ rfl rfl rfl hl.1 rfl (Nat.le_of_ble_eq_true rfl) dX11_writeBand_1) hS (fun H locs hP hS => ?_)
  refine lv_istore (lv' := [(4, .int r1), (0, .ref (a 0)), (1, .int o1), (2, .int o2), (3, .int o3)]) hx hb dX11_writeBand_4 hl (by decide) rfl (fun ls hl => ?_)
  refine lv_iload_n hx hb dX11_writeBand_6 rfl (lv_at hl 2 rfl) ?_
  refine lv_aload_n hx hb dX11_writeBand_7 rfl (lv_at hl 1 rfl) ?_
  refine gm_m_wide hx hb hts hown hK hP fl_X11_165 dX11_writeBand_8 ?_
  refine lv_imul hx hb dX11_writeBand_11 ?_
  refine lv_bipush (v := 8) hx hb dX11_writeBand_12 (by decide) ?_
  refine lv_iload_n hx hb dX11_writeBand_14 rfl (lv_at hl 3 rfl) ?_
  refine lv_imul hx hb dX11_writeBand_15 ?_
  refine lv_iadd hx hb dX11_writeBand_16 ?_
  refine lv_iload_n hx hb dX11_writeBand_17 rfl (lv_at hl 4 rfl) ?_
  refine lv_iadd hx hb dX11_writeBand_18 ?_
  refine sx_istore (lv2 := [(4, .int r1), (0, .ref (a 0)), (1, .int o1), (2, .int o2), (3, .int o3)]) hx hb hF dX11_writeBand_19 hl (by decide) rfl (fun v4 hF ls hl => ?_)
  refine lv_aload_n hx hb dX11_writeBand_21 rfl (lv_at hl 2 rfl) ?_
  refine gm_m_isLost hx hb hts hown hK hP fl_X11_17 dX11_writeBand_22 ?_
  refine lv_iload hx hb dX11_writeBand_25 (lv_at hl 0 rfl) ?_
  refine lv_iload hx hb dX11_writeBand_27 (lv_at hl 1 rfl) ?_
  refine sx_if_ne (tgt := 36) hx hb hF dX11_writeBand_29 (by decide) (fun hF => ?_) (fun hF => ?_)
  · refine lv_iconst (v := 0) hx hb dX11_writeBand_36 (by decide) ?_
    exact hB37 o1 o2 r1 0 v4 u2 ls (lv_sub hl [2, 3, 4, 1] rfl) hF _ _ hP hS
  · refine lv_iconst (v := 1) hx hb dX11_writeBand_32 (by decide) ?_
    refine lv_goto (tgt := 37) hx hb dX11_writeBand_33 (by decide) ?_
    exact hB37 o1 o2 r1 1 v4 u2 ls (lv_sub hl [2, 3, 4, 1] rfl) hF _ _ hP hS
set_option maxHeartbeats 4000000 in
set_option maxRecDepth 100000 in
theorem kt_X11_done {N : Nat} {l : Launch} {D : va_G} {a : Nat → Nat} {cI : Nat → ClassId} (hD : ∀ σ, va_D (am_A a) (am_W a cI σ))  {u σ0 : q_St} {r0 : Int32} (hF : fX11_done N u = some (r0, σ0)) : Met l yX11_done (Cond.code yX11_done cX11_done 1 (some .boolean) :: q_T) ({ frames := 2, cells := 0, slots := 0, locals := 43 } : Room) (q_P D vwCl (am_T cI) (am_W a cI) [.ref (a 0)] u) (q_Qi D vwCl (am_W a cI) (am_A a) r0 σ0) 0 0 (am_A a) := by
  refine Met.ofW (cc := cX11_done) (maxL := 1) (ret := (some .boolean)) (by decide) rfl ?_
  intro p e s m args below meth c s₁ B hml hv
  obtain ⟨rfl, hP, hK⟩ := hv
  have hx := B.exec
  have hb := B.bytes
  have hr := B.returns
  have hts := q_ts (atoms_spec (ws := Cond.code yX11_done cX11_done 1 (some .boolean) :: q_T) B.pre)
  have hown : s.vm.findClass RX11 = some m.cls := findClass_of_methodNamed B.named
  have hlocks := B.notSynchronized
  have hS : va_S (am_A a) s.heap s.heap [] := va_S.rf
  have hl := lv_entry ([.ref (a 0)]) (n := 1) (Nat.le_of_ble_eq_true rfl)
  rw [lg_entry_eq]
  generalize (lg_sl ([.ref (a 0)]) ++ List.replicate (1 - (lg_sl ([.ref (a 0)])).length) Slot.unset).toArray = ls at hl ⊢
  have hl : lv_has ls 1 [(0, .ref (a 0))] := hl
  unfold fX11_done at hF
  refine lv_aload_n hx hb dX11_done_0 rfl (lv_at hl 0 rfl) ?_
  obtain ⟨r1, u2, hc3, hF⟩ := q_bnd_some hF
  refine sx_ci (Wd := (am_W a cI)) (σ1 := u2) (q_runV (Wd := (am_W a cI)) (σ := u) (q0 := 0) (ci := 11) (T := TX11) (N := 72) (As := []) (rest := []) hx hb hml hown hts hK hP (kt_X11_record hD hc3) cw_X11_226 rfl rfl ⟨Nat.le_of_ble_eq_true rfl, Nat.le_of_ble_eq_true rfl⟩ rfl rfl rfl hl.1 rfl (Nat.le_of_ble_eq_true rfl) dX11_done_1) hS (fun H locs hP hS => ?_)
  refine sx_if_ne (tgt := 9) hx hb hF dX11_done_4 (by decide) (fun hF => ?_) (fun hF => ?_)
  · refine lv_aload_n hx hb dX11_done_9 rfl (lv_at hl 0 rfl) ?_
    refine gm_m_marks hx hb hts hown hK hP fl_X11_31 dX11_done_10 ?_
    refine lv_aload_n hx hb dX11_done_13 rfl (lv_at hl 0 rfl) ?_
    refine gm_m_band hx hb hts hown hK hP fl_X11_34 dX11_done_14 ?_
    refine lv_aload_n hx hb dX11_done_17 rfl (lv_at hl 0 rfl) ?_
    refine gm_m_limit hx hb hts hown hK hP fl_X11_229 dX11_done_18 ?_
    refine um_m_marks hx hb hK hP hD hS hF dX11_done_21 (fun u4 H locs hF hP hS => ?_)
    refine lv_aload_n hx hb dX11_done_22 rfl (lv_at hl 0 rfl) ?_
    refine lv_iconst (v := (-1)) hx hb dX11_done_23 (by decide) ?_
    refine pm_m_band hx hb hts hown hK hP fl_X11_34 hD hS hF dX11_done_24 (fun u5 H locs hF hP hS => ?_)
    refine lv_aload_n hx hb dX11_done_27 rfl (lv_at hl 0 rfl) ?_
    refine lv_iconst (v := 0) hx hb dX11_done_28 (by decide) ?_
    refine pm_m_isSafe_0 hx hb hts hown hK hP fl_X11_235 hD hS hF dX11_done_29 (fun u6 H locs hF hP hS => ?_)
    refine lv_aload_n hx hb dX11_done_32 rfl (lv_at hl 0 rfl) ?_
    refine lv_aload_n hx hb dX11_done_33 rfl (lv_at hl 0 rfl) ?_
    obtain ⟨r7, u8, hc9, hF⟩ := q_bnd_some hF
    refine sx_ci (Wd := (am_W a cI)) (σ1 := u8) (q_runV (Wd := (am_W a cI)) (σ := u6) (q0 := 0) (ci := 11) (T := TX11) (N := 72) (As := []) (rest := [.ref (a 0)]) hx hb hml hown hts hK hP (kt_X11_oldest hD hc9) cw_X11_216 rfl rfl ⟨Nat.le_of_ble_eq_true rfl, Nat.le_of_ble_eq_true rfl⟩ rfl rfl rfl hl.1 rfl (Nat.le_of_ble_eq_true rfl) dX11_done_34) hS (fun H locs hP hS => ?_)
    refine pm_m_tail hx hb hts hown hK hP fl_X11_202 hD hS hF dX11_done_37 (fun u10 H locs hF hP hS => ?_)
    refine lv_aload_n hx hb dX11_done_40 rfl (lv_at hl 0 rfl) ?_
    refine lv_dup hx hb dX11_done_41 rfl ?_
    refine gm_m_dones hx hb hts hown hK hP fl_X11_252 dX11_done_42 ?_
    refine lv_iconst (v := 1) hx hb dX11_done_45 (by decide) ?_
    refine lv_iadd hx hb dX11_done_46 ?_
    refine pm_m_dones hx hb hts hown hK hP fl_X11_252 hD hS hF dX11_done_47 (fun u11 H locs hF hP hS => ?_)
    refine lv_iconst (v := 1) hx hb dX11_done_50 (by decide) ?_
    exact sx_retz (Wd := (am_W a cI)) (σ := u11) hx hb hr (by decide) hF hP hS hlocks dX11_done_51
  · refine lv_iconst (v := 0) hx hb dX11_done_7 (by decide) ?_
    exact sx_retz (Wd := (am_W a cI)) (σ := u2) hx hb hr (by decide) hF hP hS hlocks dX11_done_8
set_option maxHeartbeats 4000000 in
set_option maxRecDepth 100000 in
theorem kt_X11_step {N : Nat} {l : Launch} {D : va_G} {a : Nat → Nat} {cI : Nat → ClassId} (hD : ∀ σ, va_D (am_A a) (am_W a cI σ))  {u σ0 : q_St} {r0 : Int32} (hF : fX11_step N u = some (r0, σ0)) : Met l yX11_step (Cond.code yX11_step cX11_step 4 (some .int) :: q_T) ({ frames := 4, cells := 0, slots := 0, locals := 89 } : Room) (q_P D vwCl (am_T cI) (am_W a cI) [.ref (a 0)] u) (q_Qi D vwCl (am_W a cI) (am_A a) r0 σ0) 0 0 (am_A a) := by
  refine Met.ofW (cc := cX11_step) (maxL := 4) (ret := (some .int)) (by decide) rfl ?_
  intro p e s m args below meth c s₁ B hml hv
  obtain ⟨rfl, hP, hK⟩ := hv
  have hx := B.exec
  have hb := B.bytes
  have hr := B.returns
  have hts := q_ts (atoms_spec (ws := Cond.code yX11_step cX11_step 4 (some .int) :: q_T) B.pre)
  have hown : s.vm.findClass RX11 = some m.cls := findClass_of_methodNamed B.named
  have hlocks := B.notSynchronized
  have hS : va_S (am_A a) s.heap s.heap [] := va_S.rf
  have hl := lv_entry ([.ref (a 0)]) (n := 4) (Nat.le_of_ble_eq_true rfl)
  rw [lg_entry_eq]
  generalize (lg_sl ([.ref (a 0)]) ++ List.replicate (4 - (lg_sl ([.ref (a 0)])).length) Slot.unset).toArray = ls at hl ⊢
  have hl : lv_has ls 4 [(0, .ref (a 0))] := hl
  have hB248 : ∀ (x1 : Int32) (x2 : Int32) (u : q_St) (ls : Array Slot), lv_has ls 4 [(1, .int x1), (2, .int x2)] → fX11_step_b248 N x1 x2 u = some (r0, σ0) → ∀ (H : Heap) (locs : List Loc), va_P D vwCl (am_W a cI u) H → va_S (am_A a) s.heap H locs → W p l e (headSpec (Cond.code yX11_step cX11_step 4 (some .int) :: q_T) ({ frames := 4, cells := 0, slots := 0, locals := 89 } : Room)).room s m ([.ref (a 0)] : List Value).toArray below meth c H locs 0 0 (MQ below (q_Qi D vwCl (am_W a cI) (am_A a) r0 σ0) ([.ref (a 0)] : List Value).toArray s 0 0 (am_A a)) (F0 m 248 ls []) := by
    intro x1 x2 u ls hl hF _ _ hP hS
    unfold fX11_step_b248 at hF
    refine lv_iload_n hx hb dX11_step_248 rfl (lv_at hl 1 rfl) ?_
    refine sx_if_eq (tgt := 256) hx hb hF dX11_step_249 (by decide) (fun hF => ?_) (fun hF => ?_)
    · refine lv_bipush (v := (-99)) hx hb dX11_step_256 (by decide) ?_
      exact sx_reti (Wd := (am_W a cI)) (σ := u) hx hb hr hF hP hS hlocks dX11_step_258
    · refine lv_iload_n hx hb dX11_step_252 rfl (lv_at hl 0 rfl) ?_
      refine lv_goto (tgt := 258) hx hb dX11_step_253 (by decide) ?_
      exact sx_reti (Wd := (am_W a cI)) (σ := u) hx hb hr hF hP hS hlocks dX11_step_258
  have hB71 : ∀ (x1 : Int32) (x2 : Int32) (y0 : Int32) (u : q_St) (ls : Array Slot), lv_has ls 4 [(1, .int x1), (2, .int x2)] → fX11_step_b71 N x1 x2 y0 u = some (r0, σ0) → ∀ (H : Heap) (locs : List Loc), va_P D vwCl (am_W a cI u) H → va_S (am_A a) s.heap H locs → W p l e (headSpec (Cond.code yX11_step cX11_step 4 (some .int) :: q_T) ({ frames := 4, cells := 0, slots := 0, locals := 89 } : Room)).room s m ([.ref (a 0)] : List Value).toArray below meth c H locs 0 0 (MQ below (q_Qi D vwCl (am_W a cI) (am_A a) r0 σ0) ([.ref (a 0)] : List Value).toArray s 0 0 (am_A a)) (F0 m 71 ls [.int y0, .ref (a 0)]) := by
    intro x1 x2 y0 u ls hl hF _ _ hP hS
    unfold fX11_step_b71 at hF
    refine pm_m_tail hx hb hts hown hK hP fl_X11_202 hD hS hF dX11_step_71 (fun u10 H locs hF hP hS => ?_)
    refine lv_goto (tgt := 248) hx hb dX11_step_74 (by decide) ?_
    exact hB248 x1 x2 u10 ls (lv_sub hl [0, 1] rfl) hF _ _ hP hS
  have hB153 : ∀ (x1 : Int32) (x2 : Int32) (u : q_St) (ls : Array Slot), lv_has ls 4 [(0, .ref (a 0)), (1, .int x1), (2, .int x2)] → fX11_step_b153 N x1 x2 u = some (r0, σ0) → ∀ (H : Heap) (locs : List Loc), va_P D vwCl (am_W a cI u) H → va_S (am_A a) s.heap H locs → W p l e (headSpec (Cond.code yX11_step cX11_step 4 (some .int) :: q_T) ({ frames := 4, cells := 0, slots := 0, locals := 89 } : Room)).room s m ([.ref (a 0)] : List Value).toArray below meth c H locs 0 0 (MQ below (q_Qi D vwCl (am_W a cI) (am_A a) r0 σ0) ([.ref (a 0)] : List Value).toArray s 0 0 (am_A a)) (F0 m 153 ls []) := by
    intro x1 x2 u ls hl hF _ _ hP hS
    unfold fX11_step_b153 at hF
    refine lv_iload_n hx hb dX11_step_153 rfl (lv_at hl 2 rfl) ?_
    refine sx_if_eq (tgt := 248) hx hb hF dX11_step_154 (by decide) (fun hF => ?_) (fun hF => ?_)
    · exact hB248 x1 x2 u ls (lv_sub hl [1, 2] rfl) hF _ _ hP hS
    · refine lv_aload_n hx hb dX11_step_157 rfl (lv_at hl 0 rfl) ?_
      refine lv_iconst (v := 4) hx hb dX11_step_158 (by decide) ?_
      obtain ⟨r22, u23, hc24, hF⟩ := q_bnd_some hF
      refine sx_cv (Wd := (am_W a cI)) (σ1 := u23) (q_runV (Wd := (am_W a cI)) (σ := u) (q0 := 0) (ci := 11) (T := TX11) (N := 72) (As := [.int 4]) (rest := []) hx hb hml hown hts hK hP (kt_X11_nextTrack hD hc24) cw_X11_242 rfl rfl ⟨Nat.le_of_ble_eq_true rfl, Nat.le_of_ble_eq_true rfl⟩ rfl rfl rfl hl.1 rfl (Nat.le_of_ble_eq_true rfl) dX11_step_159) hS (fun H locs hP hS => ?_)
      refine lv_goto (tgt := 248) hx hb dX11_step_162 (by decide) ?_
      exact hB248 x1 x2 u23 ls (lv_sub hl [1, 2] rfl) hF _ _ hP hS
  have hB127 : ∀ (n : Nat) (x1 : Int32) (x2 : Int32) (x3 : Int32) (u : q_St) (ls : Array Slot), lv_has ls 4 [(0, .ref (a 0)), (1, .int x1), (2, .int x2), (3, .int x3)] → q_lp (fX11_step_b127 N) (fun _ _ _ _ => none) n x1 x2 x3 u = some (r0, σ0) → ∀ (H : Heap) (locs : List Loc), va_P D vwCl (am_W a cI u) H → va_S (am_A a) s.heap H locs → W p l e (headSpec (Cond.code yX11_step cX11_step 4 (some .int) :: q_T) ({ frames := 4, cells := 0, slots := 0, locals := 89 } : Room)).room s m ([.ref (a 0)] : List Value).toArray below meth c H locs 0 0 (MQ below (q_Qi D vwCl (am_W a cI) (am_A a) r0 σ0) ([.ref (a 0)] : List Value).toArray s 0 0 (am_A a)) (F0 m 127 ls []) := by
    intro n
    induction n with
    | zero => intro x1 x2 x3 u ls hl hF; exact absurd (show (none : Option (Int32 × q_St)) = some _ from hF) (fun h => nomatch h)
    | succ n hi127 =>
      intro x1 x2 x3 u ls hl hF _ _ hP hS
      obtain ⟨ih127, hih⟩ : ∃ q, q = q_lp (fX11_step_b127 N) (fun _ _ _ _ => none) n := ⟨_, rfl⟩
      rw [← hih] at hi127
      have hF : fX11_step_b127 N (q_lp (fX11_step_b127 N) (fun _ _ _ _ => none) n) x1 x2 x3 u = some (r0, σ0) := hF
      rw [← hih] at hF
      clear hih
      unfold fX11_step_b127 at hF
      refine lv_iload_n hx hb dX11_step_127 rfl (lv_at hl 3 rfl) ?_
      refine lv_bipush (v := 8) hx hb dX11_step_128 (by decide) ?_
      refine sx_icmp_ge (tgt := 153) hx hb hF dX11_step_130 (by decide) (fun hF => ?_) (fun hF => ?_)
      · exact hB153 x1 x2 u ls (lv_sub hl [0, 1, 2] rfl) hF _ _ hP hS
      · refine lv_iload_n hx hb dX11_step_133 rfl (lv_at hl 2 rfl) ?_
        refine sx_if_eq (tgt := 153) hx hb hF dX11_step_134 (by decide) (fun hF => ?_) (fun hF => ?_)
        · exact hB153 x1 x2 u ls (lv_sub hl [0, 1, 2] rfl) hF _ _ hP hS
        · refine lv_aload_n hx hb dX11_step_137 rfl (lv_at hl 0 rfl) ?_
          refine lv_aload_n hx hb dX11_step_138 rfl (lv_at hl 0 rfl) ?_
          refine gm_m_track hx hb hts hown hK hP fl_X11_232 dX11_step_139 ?_
          refine lv_iload_n hx hb dX11_step_142 rfl (lv_at hl 3 rfl) ?_
          obtain ⟨r25, u26, hc27, hF⟩ := q_bnd_some hF
          refine sx_ci (Wd := (am_W a cI)) (σ1 := u26) (q_runV (Wd := (am_W a cI)) (σ := u) (q0 := 0) (ci := 11) (T := TX11) (N := 72) (As := [.int (q_i u 22), .int x3]) (rest := []) hx hb hml hown hts hK hP (kt_X11_writeScratch hD hc27) cw_X11_238 rfl rfl ⟨Nat.le_of_ble_eq_true rfl, Nat.le_of_ble_eq_true rfl⟩ rfl rfl rfl hl.1 rfl (Nat.le_of_ble_eq_true rfl) dX11_step_143) hS (fun H locs hP hS => ?_)
          refine lv_istore_n (lv' := [(2, .int r25), (0, .ref (a 0)), (1, .int x1), (3, .int x3)]) hx hb dX11_step_146 rfl hl (by decide) rfl (fun ls hl => ?_)
          refine sx_iinc (d := 1) (k := 3) (lv2 := [(2, .int r25), (0, .ref (a 0)), (1, .int x1)]) hx hb hF dX11_step_147 hl rfl (by decide) (by decide) rfl (fun v28 hF ls hl => ?_)
          refine lv_goto (tgt := 127) hx hb dX11_step_150 (by decide) ?_
          exact hi127 x1 r25 v28 u26 ls (lv_sub hl [2, 3, 1, 0] rfl) hF _ _ hP hS
  have hB227 : ∀ (x1 : Int32) (x2 : Int32) (u : q_St) (ls : Array Slot), lv_has ls 4 [(0, .ref (a 0)), (1, .int x1), (2, .int x2)] → fX11_step_b227 N x1 x2 u = some (r0, σ0) → ∀ (H : Heap) (locs : List Loc), va_P D vwCl (am_W a cI u) H → va_S (am_A a) s.heap H locs → W p l e (headSpec (Cond.code yX11_step cX11_step 4 (some .int) :: q_T) ({ frames := 4, cells := 0, slots := 0, locals := 89 } : Room)).room s m ([.ref (a 0)] : List Value).toArray below meth c H locs 0 0 (MQ below (q_Qi D vwCl (am_W a cI) (am_A a) r0 σ0) ([.ref (a 0)] : List Value).toArray s 0 0 (am_A a)) (F0 m 227 ls []) := by
    intro x1 x2 u ls hl hF _ _ hP hS
    unfold fX11_step_b227 at hF
    refine lv_iload_n hx hb dX11_step_227 rfl (lv_at hl 2 rfl) ?_
    refine sx_if_eq (tgt := 248) hx hb hF dX11_step_228 (by decide) (fun hF => ?_) (fun hF => ?_)
    · exact hB248 x1 x2 u ls (lv_sub hl [1, 2] rfl) hF _ _ hP hS
    · refine lv_aload_n hx hb dX11_step_231 rfl (lv_at hl 0 rfl) ?_
      refine lv_bipush (v := 6) hx hb dX11_step_232 (by decide) ?_
      obtain ⟨r35, u36, hc37, hF⟩ := q_bnd_some hF
      refine sx_cv (Wd := (am_W a cI)) (σ1 := u36) (q_runV (Wd := (am_W a cI)) (σ := u) (q0 := 0) (ci := 11) (T := TX11) (N := 72) (As := [.int 6]) (rest := []) hx hb hml hown hts hK hP (kt_X11_nextTrack hD hc37) cw_X11_242 rfl rfl ⟨Nat.le_of_ble_eq_true rfl, Nat.le_of_ble_eq_true rfl⟩ rfl rfl rfl hl.1 rfl (Nat.le_of_ble_eq_true rfl) dX11_step_234) hS (fun H locs hP hS => ?_)
      refine lv_goto (tgt := 248) hx hb dX11_step_237 (by decide) ?_
      exact hB248 x1 x2 u36 ls (lv_sub hl [1, 2] rfl) hF _ _ hP hS
  have hB197 : ∀ (n : Nat) (x1 : Int32) (x2 : Int32) (x3 : Int32) (u : q_St) (ls : Array Slot), lv_has ls 4 [(0, .ref (a 0)), (1, .int x1), (2, .int x2), (3, .int x3)] → q_lp (fX11_step_b197 N) (fun _ _ _ _ => none) n x1 x2 x3 u = some (r0, σ0) → ∀ (H : Heap) (locs : List Loc), va_P D vwCl (am_W a cI u) H → va_S (am_A a) s.heap H locs → W p l e (headSpec (Cond.code yX11_step cX11_step 4 (some .int) :: q_T) ({ frames := 4, cells := 0, slots := 0, locals := 89 } : Room)).room s m ([.ref (a 0)] : List Value).toArray below meth c H locs 0 0 (MQ below (q_Qi D vwCl (am_W a cI) (am_A a) r0 σ0) ([.ref (a 0)] : List Value).toArray s 0 0 (am_A a)) (F0 m 197 ls []) := by
    intro n
    induction n with
    | zero => intro x1 x2 x3 u ls hl hF; exact absurd (show (none : Option (Int32 × q_St)) = some _ from hF) (fun h => nomatch h)
    | succ n hi197 =>
      intro x1 x2 x3 u ls hl hF _ _ hP hS
      obtain ⟨ih197, hih⟩ : ∃ q, q = q_lp (fX11_step_b197 N) (fun _ _ _ _ => none) n := ⟨_, rfl⟩
      rw [← hih] at hi197
      have hF : fX11_step_b197 N (q_lp (fX11_step_b197 N) (fun _ _ _ _ => none) n) x1 x2 x3 u = some (r0, σ0) := hF
      rw [← hih] at hF
      clear hih
      unfold fX11_step_b197 at hF
      refine lv_iload_n hx hb dX11_step_197 rfl (lv_at hl 3 rfl) ?_
      refine lv_bipush (v := 8) hx hb dX11_step_198 (by decide) ?_
      refine sx_icmp_ge (tgt := 227) hx hb hF dX11_step_200 (by decide) (fun hF => ?_) (fun hF => ?_)
      · exact hB227 x1 x2 u ls (lv_sub hl [0, 1, 2] rfl) hF _ _ hP hS
      · refine lv_iload_n hx hb dX11_step_203 rfl (lv_at hl 2 rfl) ?_
        refine sx_if_eq (tgt := 227) hx hb hF dX11_step_204 (by decide) (fun hF => ?_) (fun hF => ?_)
        · exact hB227 x1 x2 u ls (lv_sub hl [0, 1, 2] rfl) hF _ _ hP hS
        · refine lv_aload_n hx hb dX11_step_207 rfl (lv_at hl 0 rfl) ?_
          refine lv_aload_n hx hb dX11_step_208 rfl (lv_at hl 0 rfl) ?_
          refine gm_m_band hx hb hts hown hK hP fl_X11_34 dX11_step_209 ?_
          refine lv_aload_n hx hb dX11_step_212 rfl (lv_at hl 0 rfl) ?_
          refine gm_m_track hx hb hts hown hK hP fl_X11_232 dX11_step_213 ?_
          refine lv_iload_n hx hb dX11_step_216 rfl (lv_at hl 3 rfl) ?_
          obtain ⟨r38, u39, hc40, hF⟩ := q_bnd_some hF
          refine sx_ci (Wd := (am_W a cI)) (σ1 := u39) (q_runV (Wd := (am_W a cI)) (σ := u) (q0 := 0) (ci := 11) (T := TX11) (N := 72) (As := [.int (q_i u 19), .int (q_i u 22), .int x3]) (rest := []) hx hb hml hown hts hK hP (kt_X11_writeBand hD hc40) cw_X11_245 rfl rfl ⟨Nat.le_of_ble_eq_true rfl, Nat.le_of_ble_eq_true rfl⟩ rfl rfl rfl hl.1 rfl (Nat.le_of_ble_eq_true rfl) dX11_step_217) hS (fun H locs hP hS => ?_)
          refine lv_istore_n (lv' := [(2, .int r38), (0, .ref (a 0)), (1, .int x1), (3, .int x3)]) hx hb dX11_step_220 rfl hl (by decide) rfl (fun ls hl => ?_)
          refine sx_iinc (d := 1) (k := 3) (lv2 := [(2, .int r38), (0, .ref (a 0)), (1, .int x1)]) hx hb hF dX11_step_221 hl rfl (by decide) (by decide) rfl (fun v41 hF ls hl => ?_)
          refine lv_goto (tgt := 197) hx hb dX11_step_224 (by decide) ?_
          exact hi197 x1 r38 v41 u39 ls (lv_sub hl [2, 3, 1, 0] rfl) hF _ _ hP hS
  unfold fX11_step at hF
  refine lv_aload_n hx hb dX11_step_0 rfl (lv_at hl 0 rfl) ?_
  obtain ⟨r1, u2, hc3, hF⟩ := q_bnd_some hF
  refine sx_ci (Wd := (am_W a cI)) (σ1 := u2) (q_runV (Wd := (am_W a cI)) (σ := u) (q0 := 0) (ci := 11) (T := TX11) (N := 72) (As := []) (rest := []) hx hb hml hown hts hK hP (kt_X11_nextKind hD hc3) cw_X11_223 rfl rfl ⟨Nat.le_of_ble_eq_true rfl, Nat.le_of_ble_eq_true rfl⟩ rfl rfl rfl hl.1 rfl (Nat.le_of_ble_eq_true rfl) dX11_step_1) hS (fun H locs hP hS => ?_)
  refine lv_istore_n (lv' := [(1, .int r1), (0, .ref (a 0))]) hx hb dX11_step_4 rfl hl (by decide) rfl (fun ls hl => ?_)
  refine lv_iconst (v := 1) hx hb dX11_step_5 (by decide) ?_
  refine lv_istore_n (lv' := [(2, .int 1), (1, .int r1), (0, .ref (a 0))]) hx hb dX11_step_6 rfl hl (by decide) rfl (fun ls hl => ?_)
  refine lv_iload_n hx hb dX11_step_7 rfl (lv_at hl 1 rfl) ?_
  by_cases hq1 : r1 = 1
  · have hF := (if_pos hq1).symm.trans hF
    refine sx_tabIn hx hb 1 hq1 (off := 40) (tgt := 48) dX11_step_8 (by decide) (by decide) (by decide) (by decide) ?_
    refine lv_aload_n hx hb dX11_step_48 rfl (lv_at hl 2 rfl) ?_
    obtain ⟨r4, u5, hc6, hF⟩ := q_bnd_some hF
    refine sx_ci (Wd := (am_W a cI)) (σ1 := u5) (q_runV (Wd := (am_W a cI)) (σ := u2) (q0 := 0) (ci := 11) (T := TX11) (N := 72) (As := []) (rest := []) hx hb hml hown hts hK hP (kt_X11_oldest hD hc6) cw_X11_216 rfl rfl ⟨Nat.le_of_ble_eq_true rfl, Nat.le_of_ble_eq_true rfl⟩ rfl rfl rfl hl.1 rfl (Nat.le_of_ble_eq_true rfl) dX11_step_49) hS (fun H locs hP hS => ?_)
    refine lv_istore_n (lv' := [(3, .int r4), (2, .int 1), (1, .int r1), (0, .ref (a 0))]) hx hb dX11_step_52 rfl hl (by decide) rfl (fun ls hl => ?_)
    refine lv_aload_n hx hb dX11_step_53 rfl (lv_at hl 3 rfl) ?_
    obtain ⟨r7, u8, hc9, hF⟩ := q_bnd_some hF
    refine sx_ci (Wd := (am_W a cI)) (σ1 := u8) (q_runV (Wd := (am_W a cI)) (σ := u5) (q0 := 0) (ci := 11) (T := TX11) (N := 72) (As := []) (rest := []) hx hb hml hown hts hK hP (kt_X11_record hD hc9) cw_X11_226 rfl rfl ⟨Nat.le_of_ble_eq_true rfl, Nat.le_of_ble_eq_true rfl⟩ rfl rfl rfl hl.1 rfl (Nat.le_of_ble_eq_true rfl) dX11_step_54) hS (fun H locs hP hS => ?_)
    refine lv_istore_n (lv' := [(2, .int r7), (3, .int r4), (1, .int r1), (0, .ref (a 0))]) hx hb dX11_step_57 rfl hl (by decide) rfl (fun ls hl => ?_)
    refine lv_aload_n hx hb dX11_step_58 rfl (lv_at hl 3 rfl) ?_
    refine lv_iload_n hx hb dX11_step_59 rfl (lv_at hl 0 rfl) ?_
    refine sx_if_eq (tgt := 67) hx hb hF dX11_step_60 (by decide) (fun hF => ?_) (fun hF => ?_)
    · refine lv_aload_n hx hb dX11_step_67 rfl (lv_at hl 3 rfl) ?_
      refine gm_m_tail hx hb hts hown hK hP fl_X11_202 dX11_step_68 ?_
      exact hB71 r1 r7 (q_i u8 18) u8 ls (lv_sub hl [2, 0] rfl) hF _ _ hP hS
    · refine lv_iload_n hx hb dX11_step_63 rfl (lv_at hl 1 rfl) ?_
      refine lv_goto (tgt := 71) hx hb dX11_step_64 (by decide) ?_
      exact hB71 r1 r7 r4 u8 ls (lv_sub hl [2, 0] rfl) hF _ _ hP hS
  have hF := (if_neg hq1).symm.trans hF
  by_cases hq2 : r1 = 2
  · have hF := (if_pos hq2).symm.trans hF
    refine sx_tabIn hx hb 2 hq2 (off := 69) (tgt := 77) dX11_step_8 (by decide) (by decide) (by decide) (by decide) ?_
    refine lv_aload_n hx hb dX11_step_77 rfl (lv_at hl 2 rfl) ?_
    obtain ⟨r11, u12, hc13, hF⟩ := q_bnd_some hF
    refine sx_ci (Wd := (am_W a cI)) (σ1 := u12) (q_runV (Wd := (am_W a cI)) (σ := u2) (q0 := 0) (ci := 11) (T := TX11) (N := 72) (As := []) (rest := []) hx hb hml hown hts hK hP (kt_X11_fullest hD hc13) cw_X11_220 rfl rfl ⟨Nat.le_of_ble_eq_true rfl, Nat.le_of_ble_eq_true rfl⟩ rfl rfl rfl hl.1 rfl (Nat.le_of_ble_eq_true rfl) dX11_step_78) hS (fun H locs hP hS => ?_)
    refine lv_istore_n (lv' := [(3, .int r11), (2, .int 1), (1, .int r1), (0, .ref (a 0))]) hx hb dX11_step_81 rfl hl (by decide) rfl (fun ls hl => ?_)
    refine lv_aload_n hx hb dX11_step_82 rfl (lv_at hl 3 rfl) ?_
    obtain ⟨r14, u15, hc16, hF⟩ := q_bnd_some hF
    refine sx_ci (Wd := (am_W a cI)) (σ1 := u15) (q_runV (Wd := (am_W a cI)) (σ := u12) (q0 := 0) (ci := 11) (T := TX11) (N := 72) (As := []) (rest := []) hx hb hml hown hts hK hP (kt_X11_record hD hc16) cw_X11_226 rfl rfl ⟨Nat.le_of_ble_eq_true rfl, Nat.le_of_ble_eq_true rfl⟩ rfl rfl rfl hl.1 rfl (Nat.le_of_ble_eq_true rfl) dX11_step_83) hS (fun H locs hP hS => ?_)
    refine lv_istore_n (lv' := [(2, .int r14), (3, .int r11), (1, .int r1), (0, .ref (a 0))]) hx hb dX11_step_86 rfl hl (by decide) rfl (fun ls hl => ?_)
    refine lv_iload_n hx hb dX11_step_87 rfl (lv_at hl 0 rfl) ?_
    refine sx_if_ne (tgt := 94) hx hb hF dX11_step_88 (by decide) (fun hF => ?_) (fun hF => ?_)
    · refine lv_aload_n hx hb dX11_step_94 rfl (lv_at hl 3 rfl) ?_
      refine lv_iload_n hx hb dX11_step_95 rfl (lv_at hl 1 rfl) ?_
      refine pm_m_band hx hb hts hown hK hP fl_X11_34 hD hS hF dX11_step_96 (fun u17 H locs hF hP hS => ?_)
      refine lv_aload_n hx hb dX11_step_99 rfl (lv_at hl 3 rfl) ?_
      refine lv_aload_n hx hb dX11_step_100 rfl (lv_at hl 3 rfl) ?_
      refine gm_m_head hx hb hts hown hK hP fl_X11_199 dX11_step_101 ?_
      refine pm_m_limit hx hb hts hown hK hP fl_X11_229 hD hS hF dX11_step_104 (fun u18 H locs hF hP hS => ?_)
      refine lv_aload_n hx hb dX11_step_107 rfl (lv_at hl 3 rfl) ?_
      refine lv_iconst (v := 3) hx hb dX11_step_108 (by decide) ?_
      refine pm_m_work hx hb hts hown hK hP fl_X11_213 hD hS hF dX11_step_109 (fun u19 H locs hF hP hS => ?_)
      refine lv_aload_n hx hb dX11_step_112 rfl (lv_at hl 3 rfl) ?_
      refine lv_iconst (v := 0) hx hb dX11_step_113 (by decide) ?_
      refine pm_m_track hx hb hts hown hK hP fl_X11_232 hD hS hF dX11_step_114 (fun u20 H locs hF hP hS => ?_)
      refine lv_aload_n hx hb dX11_step_117 rfl (lv_at hl 3 rfl) ?_
      refine lv_iconst (v := 0) hx hb dX11_step_118 (by decide) ?_
      refine pm_m_isSafe_0 hx hb hts hown hK hP fl_X11_235 hD hS hF dX11_step_119 (fun u21 H locs hF hP hS => ?_)
      refine lv_goto (tgt := 248) hx hb dX11_step_122 (by decide) ?_
      exact hB248 r1 r14 u21 ls (lv_sub hl [2, 0] rfl) hF _ _ hP hS
    · refine lv_goto (tgt := 248) hx hb dX11_step_91 (by decide) ?_
      exact hB248 r1 r14 u15 ls (lv_sub hl [2, 0] rfl) hF _ _ hP hS
  have hF := (if_neg hq2).symm.trans hF
  by_cases hq3 : r1 = 3
  · have hF := (if_pos hq3).symm.trans hF
    refine sx_tabIn hx hb 3 hq3 (off := 117) (tgt := 125) dX11_step_8 (by decide) (by decide) (by decide) (by decide) ?_
    refine lv_iconst (v := 0) hx hb dX11_step_125 (by decide) ?_
    refine lv_istore_n (lv' := [(3, .int 0), (2, .int 1), (1, .int r1), (0, .ref (a 0))]) hx hb dX11_step_126 rfl hl (by decide) rfl (fun ls hl => ?_)
    exact hB127 N r1 1 0 u2 ls (lv_sub hl [3, 2, 1, 0] rfl) hF _ _ hP hS
  have hF := (if_neg hq3).symm.trans hF
  by_cases hq4 : r1 = 4
  · have hF := (if_pos hq4).symm.trans hF
    refine sx_tabIn hx hb 4 hq4 (off := 157) (tgt := 165) dX11_step_8 (by decide) (by decide) (by decide) (by decide) ?_
    refine lv_aload_n hx hb dX11_step_165 rfl (lv_at hl 2 rfl) ?_
    obtain ⟨r29, u30, hc31, hF⟩ := q_bnd_some hF
    refine sx_ci (Wd := (am_W a cI)) (σ1 := u30) (q_runV (Wd := (am_W a cI)) (σ := u2) (q0 := 0) (ci := 11) (T := TX11) (N := 72) (As := []) (rest := []) hx hb hml hown hts hK hP (kt_X11_record hD hc31) cw_X11_226 rfl rfl ⟨Nat.le_of_ble_eq_true rfl, Nat.le_of_ble_eq_true rfl⟩ rfl rfl rfl hl.1 rfl (Nat.le_of_ble_eq_true rfl) dX11_step_166) hS (fun H locs hP hS => ?_)
    refine lv_istore_n (lv' := [(2, .int r29), (1, .int r1), (0, .ref (a 0))]) hx hb dX11_step_169 rfl hl (by decide) rfl (fun ls hl => ?_)
    refine lv_iload_n hx hb dX11_step_170 rfl (lv_at hl 0 rfl) ?_
    refine sx_if_ne (tgt := 177) hx hb hF dX11_step_171 (by decide) (fun hF => ?_) (fun hF => ?_)
    · refine lv_aload_n hx hb dX11_step_177 rfl (lv_at hl 2 rfl) ?_
      refine lv_iconst (v := 1) hx hb dX11_step_178 (by decide) ?_
      refine pm_m_isSafe_1 hx hb hts hown hK hP fl_X11_235 hD hS hF dX11_step_179 (fun u32 H locs hF hP hS => ?_)
      refine lv_aload_n hx hb dX11_step_182 rfl (lv_at hl 2 rfl) ?_
      refine lv_iconst (v := 5) hx hb dX11_step_183 (by decide) ?_
      refine pm_m_work hx hb hts hown hK hP fl_X11_213 hD hS hF dX11_step_184 (fun u33 H locs hF hP hS => ?_)
      refine lv_aload_n hx hb dX11_step_187 rfl (lv_at hl 2 rfl) ?_
      refine lv_iconst (v := 0) hx hb dX11_step_188 (by decide) ?_
      refine pm_m_track hx hb hts hown hK hP fl_X11_232 hD hS hF dX11_step_189 (fun u34 H locs hF hP hS => ?_)
      refine lv_goto (tgt := 248) hx hb dX11_step_192 (by decide) ?_
      exact hB248 r1 r29 u34 ls (lv_sub hl [1, 0] rfl) hF _ _ hP hS
    · refine lv_goto (tgt := 248) hx hb dX11_step_174 (by decide) ?_
      exact hB248 r1 r29 u30 ls (lv_sub hl [1, 0] rfl) hF _ _ hP hS
  have hF := (if_neg hq4).symm.trans hF
  by_cases hq5 : r1 = 5
  · have hF := (if_pos hq5).symm.trans hF
    refine sx_tabIn hx hb 5 hq5 (off := 187) (tgt := 195) dX11_step_8 (by decide) (by decide) (by decide) (by decide) ?_
    refine lv_iconst (v := 0) hx hb dX11_step_195 (by decide) ?_
    refine lv_istore_n (lv' := [(3, .int 0), (2, .int 1), (1, .int r1), (0, .ref (a 0))]) hx hb dX11_step_196 rfl hl (by decide) rfl (fun ls hl => ?_)
    exact hB197 N r1 1 0 u2 ls (lv_sub hl [3, 2, 1, 0] rfl) hF _ _ hP hS
  have hF := (if_neg hq5).symm.trans hF
  by_cases hq6 : r1 = 6
  · have hF := (if_pos hq6).symm.trans hF
    refine sx_tabIn hx hb 6 hq6 (off := 232) (tgt := 240) dX11_step_8 (by decide) (by decide) (by decide) (by decide) ?_
    refine lv_aload_n hx hb dX11_step_240 rfl (lv_at hl 2 rfl) ?_
    obtain ⟨r42, u43, hc44, hF⟩ := q_bnd_some hF
    refine sx_ci (Wd := (am_W a cI)) (σ1 := u43) (q_runV (Wd := (am_W a cI)) (σ := u2) (q0 := 0) (ci := 11) (T := TX11) (N := 72) (As := []) (rest := []) hx hb hml hown hts hK hP (kt_X11_done hD hc44) cw_X11_249 rfl rfl ⟨Nat.le_of_ble_eq_true rfl, Nat.le_of_ble_eq_true rfl⟩ rfl rfl rfl hl.1 rfl (Nat.le_of_ble_eq_true rfl) dX11_step_241) hS (fun H locs hP hS => ?_)
    refine lv_istore_n (lv' := [(2, .int r42), (1, .int r1), (0, .ref (a 0))]) hx hb dX11_step_244 rfl hl (by decide) rfl (fun ls hl => ?_)
    refine lv_goto (tgt := 248) hx hb dX11_step_245 (by decide) ?_
    exact hB248 r1 r42 u43 ls (lv_sub hl [1, 0] rfl) hF _ _ hP hS
  have hF := (if_neg hq6).symm.trans hF
  by_cases hr1 : Int32.toInt r1 < 1 ∨ 6 < Int32.toInt r1
  · refine lv_tableOut (tgt := 248) hx hb dX11_step_8 hr1 (by decide) ?_
    exact hB248 r1 1 u2 ls (lv_sub hl [1, 0] rfl) hF _ _ hP hS
  · have hr2 : Int32.toInt r1 = 1 ∨ Int32.toInt r1 = 2 ∨ Int32.toInt r1 = 3 ∨ Int32.toInt r1 = 4 ∨ Int32.toInt r1 = 5 ∨ Int32.toInt r1 = 6 := by omega
    rcases hr2 with hr2 | hr2 | hr2 | hr2 | hr2 | hr2
    · exact absurd (Int32.toInt_inj.mp (hr2.trans (by decide : (1 : Int) = Int32.toInt 1))) hq1
    · exact absurd (Int32.toInt_inj.mp (hr2.trans (by decide : (2 : Int) = Int32.toInt 2))) hq2
    · exact absurd (Int32.toInt_inj.mp (hr2.trans (by decide : (3 : Int) = Int32.toInt 3))) hq3
    · exact absurd (Int32.toInt_inj.mp (hr2.trans (by decide : (4 : Int) = Int32.toInt 4))) hq4
    · exact absurd (Int32.toInt_inj.mp (hr2.trans (by decide : (5 : Int) = Int32.toInt 5))) hq5
    · exact absurd (Int32.toInt_inj.mp (hr2.trans (by decide : (6 : Int) = Int32.toInt 6))) hq6
