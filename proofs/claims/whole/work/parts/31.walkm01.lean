set_option maxHeartbeats 4000000 in
set_option maxRecDepth 100000 in
theorem kt_X11_write {N : Nat} {l : Launch} {D : va_G} {a : Nat → Nat} {cI : Nat → ClassId} (hD : ∀ σ, va_D (am_A a) (am_W a cI σ)) {o1 : Int32} {u σ0 : q_St} {r0 : Int32} (hF : fX11_write N o1 u = some (r0, σ0)) : Met l yX11_write (Cond.code yX11_write cX11_write 2 (some .boolean) :: q_T) ({ frames := 5, cells := 0, slots := 0, locals := 112 } : Room) (q_P D vwCl (am_T cI) (am_W a cI) [.ref (a 0), .int o1] u) (q_Qi D vwCl (am_W a cI) (am_A a) r0 σ0) 0 0 (am_A a) := by
  refine Met.ofW (cc := cX11_write) (maxL := 2) (ret := (some .boolean)) (by decide) rfl ?_
  intro p e s m args below meth c s₁ B hml hv
  obtain ⟨rfl, hP, hK⟩ := hv
  have hx := B.exec
  have hb := B.bytes
  have hr := B.returns
  have hts := q_ts (atoms_spec (ws := Cond.code yX11_write cX11_write 2 (some .boolean) :: q_T) B.pre)
  have hown : s.vm.findClass RX11 = some m.cls := findClass_of_methodNamed B.named
  have hlocks := B.notSynchronized
  have hS : va_S (am_A a) s.heap s.heap [] := va_S.rf
  have hl := lv_entry ([.ref (a 0), .int o1]) (n := 2) (Nat.le_of_ble_eq_true rfl)
  rw [lg_entry_eq]
  generalize (lg_sl ([.ref (a 0), .int o1]) ++ List.replicate (2 - (lg_sl ([.ref (a 0), .int o1])).length) Slot.unset).toArray = ls at hl ⊢
  have hl : lv_has ls 2 [(0, .ref (a 0)), (1, .int o1)] := hl
  have hB24 : ∀ (n : Nat) (x1 : Int32) (u : q_St) (ls : Array Slot), lv_has ls 2 [(0, .ref (a 0)), (1, .int x1)] → q_lp (fX11_write_b24 N) (fun _ _ => none) n x1 u = some (r0, σ0) → ∀ (H : Heap) (locs : List Loc), va_P D vwCl (am_W a cI u) H → va_S (am_A a) s.heap H locs → W p l e (headSpec (Cond.code yX11_write cX11_write 2 (some .boolean) :: q_T) ({ frames := 5, cells := 0, slots := 0, locals := 112 } : Room)).room s m ([.ref (a 0), .int o1] : List Value).toArray below meth c H locs 0 0 (MQ below (q_Qi D vwCl (am_W a cI) (am_A a) r0 σ0) ([.ref (a 0), .int o1] : List Value).toArray s 0 0 (am_A a)) (F0 m 24 ls []) := by
    intro n
    induction n with
    | zero => intro x1 u ls hl hF; exact absurd (show (none : Option (Int32 × q_St)) = some _ from hF) (fun h => nomatch h)
    | succ n hi24 =>
      intro x1 u ls hl hF _ _ hP hS
      obtain ⟨ih24, hih⟩ : ∃ q, q = q_lp (fX11_write_b24 N) (fun _ _ => none) n := ⟨_, rfl⟩
      rw [← hih] at hi24
      have hF : fX11_write_b24 N (q_lp (fX11_write_b24 N) (fun _ _ => none) n) x1 u = some (r0, σ0) := hF
      rw [← hih] at hF
      clear hih
      unfold fX11_write_b24 at hF
      refine lv_aload_n hx hb dX11_write_24 rfl (lv_at hl 0 rfl) ?_
      obtain ⟨r4, u5, hc6, hF⟩ := q_bnd_some hF
      refine sx_ci (Wd := (am_W a cI)) (σ1 := u5) (q_runV (Wd := (am_W a cI)) (σ := u) (q0 := 0) (ci := 11) (T := TX11) (N := 72) (As := []) (rest := []) hx hb hml hown hts hK hP (kt_X11_free hD hc6) cw_X11_255 rfl rfl ⟨Nat.le_of_ble_eq_true rfl, Nat.le_of_ble_eq_true rfl⟩ rfl rfl rfl hl.1 rfl (Nat.le_of_ble_eq_true rfl) dX11_write_25) hS (fun H locs hP hS => ?_)
      refine sx_if_ne (tgt := 42) hx hb hF dX11_write_28 (by decide) (fun hF => ?_) (fun hF => ?_)
      · refine lv_aload_n hx hb dX11_write_42 rfl (lv_at hl 0 rfl) ?_
        obtain ⟨r7, u8, hc9, hF⟩ := q_bnd_some hF
        refine sx_ci (Wd := (am_W a cI)) (σ1 := u8) (q_runV (Wd := (am_W a cI)) (σ := u5) (q0 := 0) (ci := 11) (T := TX11) (N := 72) (As := []) (rest := []) hx hb hml hown hts hK hP (kt_X11_lasts hD hc9) cw_X11_186 rfl rfl ⟨Nat.le_of_ble_eq_true rfl, Nat.le_of_ble_eq_true rfl⟩ rfl rfl rfl hl.1 rfl (Nat.le_of_ble_eq_true rfl) dX11_write_43) hS (fun H locs hP hS => ?_)
        refine sx_if_ne (tgt := 51) hx hb hF dX11_write_46 (by decide) (fun hF => ?_) (fun hF => ?_)
        · refine lv_aload_n hx hb dX11_write_51 rfl (lv_at hl 0 rfl) ?_
          refine lv_dup hx hb dX11_write_52 rfl ?_
          refine gm_m_entries hx hb hts hown hK hP fl_X11_261 dX11_write_53 ?_
          refine lv_iconst (v := 1) hx hb dX11_write_56 (by decide) ?_
          refine lv_iadd hx hb dX11_write_57 ?_
          refine pm_m_entries hx hb hts hown hK hP fl_X11_261 hD hS hF dX11_write_58 (fun u10 H locs hF hP hS => ?_)
          refine lv_aload_n hx hb dX11_write_61 rfl (lv_at hl 0 rfl) ?_
          refine gm_m_entry hx hb hts hown hK hP fl_X11_24 dX11_write_62 ?_
          refine lv_aload_n hx hb dX11_write_65 rfl (lv_at hl 0 rfl) ?_
          refine gm_m_head hx hb hts hown hK hP fl_X11_199 dX11_write_66 ?_
          refine lv_aload_n hx hb dX11_write_69 rfl (lv_at hl 0 rfl) ?_
          refine gm_m_cache hx hb hts hown hK hP fl_X11_162 dX11_write_70 ?_
          refine sx_irem hx hb hF dX11_write_73 (fun hF => ?_)
          refine lv_iload_n hx hb dX11_write_74 rfl (lv_at hl 1 rfl) ?_
          refine um_m_entry hx hb hK hP hD hS hF dX11_write_75 (fun u11 H locs hF hP hS => ?_)
          refine lv_aload_n hx hb dX11_write_76 rfl (lv_at hl 0 rfl) ?_
          refine gm_m_latest hx hb hts hown hK hP fl_X11_28 dX11_write_77 ?_
          refine lv_iload_n hx hb dX11_write_80 rfl (lv_at hl 1 rfl) ?_
          refine lv_aload_n hx hb dX11_write_81 rfl (lv_at hl 0 rfl) ?_
          refine gm_m_head hx hb hts hown hK hP fl_X11_199 dX11_write_82 ?_
          refine um_m_latest hx hb hK hP hD hS hF dX11_write_85 (fun u12 H locs hF hP hS => ?_)
          refine lv_aload_n hx hb dX11_write_86 rfl (lv_at hl 0 rfl) ?_
          refine lv_dup hx hb dX11_write_87 rfl ?_
          refine gm_m_head hx hb hts hown hK hP fl_X11_199 dX11_write_88 ?_
          refine lv_iconst (v := 1) hx hb dX11_write_91 (by decide) ?_
          refine lv_iadd hx hb dX11_write_92 ?_
          refine pm_m_head hx hb hts hown hK hP fl_X11_199 hD hS hF dX11_write_93 (fun u13 H locs hF hP hS => ?_)
          refine lv_iconst (v := 1) hx hb dX11_write_96 (by decide) ?_
          exact sx_retz (Wd := (am_W a cI)) (σ := u13) hx hb hr (by decide) hF hP hS hlocks dX11_write_97
        · refine lv_iconst (v := 0) hx hb dX11_write_49 (by decide) ?_
          exact sx_retz (Wd := (am_W a cI)) (σ := u8) hx hb hr (by decide) hF hP hS hlocks dX11_write_50
      · refine lv_aload_n hx hb dX11_write_31 rfl (lv_at hl 0 rfl) ?_
        obtain ⟨r14, u15, hc16, hF⟩ := q_bnd_some hF
        refine sx_ci (Wd := (am_W a cI)) (σ1 := u15) (q_runV (Wd := (am_W a cI)) (σ := u5) (q0 := 0) (ci := 11) (T := TX11) (N := 72) (As := []) (rest := []) hx hb hml hown hts hK hP (kt_X11_step hD hc16) cw_X11_258 rfl rfl ⟨Nat.le_of_ble_eq_true rfl, Nat.le_of_ble_eq_true rfl⟩ rfl rfl rfl hl.1 rfl (Nat.le_of_ble_eq_true rfl) dX11_write_32) hS (fun H locs hP hS => ?_)
        refine lv_bipush (v := (-99)) hx hb dX11_write_35 (by decide) ?_
        refine sx_icmp_ne (tgt := 24) hx hb hF dX11_write_37 (by decide) (fun hF => ?_) (fun hF => ?_)
        · exact hi24 x1 u15 ls (lv_sub hl [0, 1] rfl) hF _ _ hP hS
        · refine lv_iconst (v := 0) hx hb dX11_write_40 (by decide) ?_
          exact sx_retz (Wd := (am_W a cI)) (σ := u15) hx hb hr (by decide) hF hP hS hlocks dX11_write_41
  unfold fX11_write at hF
  refine lv_iconst (v := 4) hx hb dX11_write_0 (by decide) ?_
  refine lv_aload_n hx hb dX11_write_1 rfl (lv_at hl 0 rfl) ?_
  obtain ⟨r1, u2, hc3, hF⟩ := q_bnd_some hF
  refine sx_ci (Wd := (am_W a cI)) (σ1 := u2) (q_runV (Wd := (am_W a cI)) (σ := u) (q0 := 0) (ci := 11) (T := TX11) (N := 72) (As := []) (rest := [.int 4]) hx hb hml hown hts hK hP (kt_X11_free hD hc3) cw_X11_255 rfl rfl ⟨Nat.le_of_ble_eq_true rfl, Nat.le_of_ble_eq_true rfl⟩ rfl rfl rfl hl.1 rfl (Nat.le_of_ble_eq_true rfl) dX11_write_2) hS (fun H locs hP hS => ?_)
  refine lv_imul hx hb dX11_write_5 ?_
  refine lv_aload_n hx hb dX11_write_6 rfl (lv_at hl 0 rfl) ?_
  refine gm_m_cache hx hb hts hown hK hP fl_X11_162 dX11_write_7 ?_
  refine sx_icmp_ge (tgt := 24) hx hb hF dX11_write_10 (by decide) (fun hF => ?_) (fun hF => ?_)
  · exact hB24 N o1 u2 ls (lv_sub hl [0, 1] rfl) hF _ _ hP hS
  · refine lv_aload_n hx hb dX11_write_13 rfl (lv_at hl 0 rfl) ?_
    obtain ⟨r17, u18, hc19, hF⟩ := q_bnd_some hF
    refine sx_ci (Wd := (am_W a cI)) (σ1 := u18) (q_runV (Wd := (am_W a cI)) (σ := u2) (q0 := 0) (ci := 11) (T := TX11) (N := 72) (As := []) (rest := []) hx hb hml hown hts hK hP (kt_X11_step hD hc19) cw_X11_258 rfl rfl ⟨Nat.le_of_ble_eq_true rfl, Nat.le_of_ble_eq_true rfl⟩ rfl rfl rfl hl.1 rfl (Nat.le_of_ble_eq_true rfl) dX11_write_14) hS (fun H locs hP hS => ?_)
    refine lv_bipush (v := (-99)) hx hb dX11_write_17 (by decide) ?_
    refine sx_icmp_ne (tgt := 24) hx hb hF dX11_write_19 (by decide) (fun hF => ?_) (fun hF => ?_)
    · exact hB24 N o1 u18 ls (lv_sub hl [0, 1] rfl) hF _ _ hP hS
    · refine lv_iconst (v := 0) hx hb dX11_write_22 (by decide) ?_
      exact sx_retz (Wd := (am_W a cI)) (σ := u18) hx hb hr (by decide) hF hP hS hlocks dX11_write_23
set_option maxHeartbeats 4000000 in
set_option maxRecDepth 100000 in
theorem kt_X11_bringHome {N : Nat} {l : Launch} {D : va_G} {a : Nat → Nat} {cI : Nat → ClassId} (hD : ∀ σ, va_D (am_A a) (am_W a cI σ))  {u σ0 : q_St} {r0 : Int32} (hF : fX11_bringHome N u = some (r0, σ0)) : Met l yX11_bringHome (Cond.code yX11_bringHome cX11_bringHome 2 (some .boolean) :: q_T) ({ frames := 6, cells := 0, slots := 0, locals := 133 } : Room) (q_P D vwCl (am_T cI) (am_W a cI) [.ref (a 0)] u) (q_Qi D vwCl (am_W a cI) (am_A a) r0 σ0) 0 0 (am_A a) := by
  refine Met.ofW (cc := cX11_bringHome) (maxL := 2) (ret := (some .boolean)) (by decide) rfl ?_
  intro p e s m args below meth c s₁ B hml hv
  obtain ⟨rfl, hP, hK⟩ := hv
  have hx := B.exec
  have hb := B.bytes
  have hr := B.returns
  have hts := q_ts (atoms_spec (ws := Cond.code yX11_bringHome cX11_bringHome 2 (some .boolean) :: q_T) B.pre)
  have hown : s.vm.findClass RX11 = some m.cls := findClass_of_methodNamed B.named
  have hlocks := B.notSynchronized
  have hS : va_S (am_A a) s.heap s.heap [] := va_S.rf
  have hl := lv_entry ([.ref (a 0)]) (n := 2) (Nat.le_of_ble_eq_true rfl)
  rw [lg_entry_eq]
  generalize (lg_sl ([.ref (a 0)]) ++ List.replicate (2 - (lg_sl ([.ref (a 0)])).length) Slot.unset).toArray = ls at hl ⊢
  have hl : lv_has ls 2 [(0, .ref (a 0))] := hl
  have hB29 : ∀ (ih2 : Int32 → q_St → Option (Int32 × q_St)) (hi2 : ∀ (x1 : Int32) (u : q_St) (ls : Array Slot), lv_has ls 2 [(0, .ref (a 0)), (1, .int x1)] → ih2 x1 u = some (r0, σ0) → ∀ (H : Heap) (locs : List Loc), va_P D vwCl (am_W a cI u) H → va_S (am_A a) s.heap H locs → W p l e (headSpec (Cond.code yX11_bringHome cX11_bringHome 2 (some .boolean) :: q_T) ({ frames := 6, cells := 0, slots := 0, locals := 133 } : Room)).room s m ([.ref (a 0)] : List Value).toArray below meth c H locs 0 0 (MQ below (q_Qi D vwCl (am_W a cI) (am_A a) r0 σ0) ([.ref (a 0)] : List Value).toArray s 0 0 (am_A a)) (F0 m 2 ls [])), ∀ (x1 : Int32) (u : q_St) (ls : Array Slot), lv_has ls 2 [(0, .ref (a 0)), (1, .int x1)] → fX11_bringHome_b29 N ih2 x1 u = some (r0, σ0) → ∀ (H : Heap) (locs : List Loc), va_P D vwCl (am_W a cI u) H → va_S (am_A a) s.heap H locs → W p l e (headSpec (Cond.code yX11_bringHome cX11_bringHome 2 (some .boolean) :: q_T) ({ frames := 6, cells := 0, slots := 0, locals := 133 } : Room)).room s m ([.ref (a 0)] : List Value).toArray below meth c H locs 0 0 (MQ below (q_Qi D vwCl (am_W a cI) (am_A a) r0 σ0) ([.ref (a 0)] : List Value).toArray s 0 0 (am_A a)) (F0 m 29 ls []) := by
    intro ih2 hi2 x1 u ls hl hF _ _ hP hS
    unfold fX11_bringHome_b29 at hF
    refine sx_iinc (d := 1) (k := 1) (lv2 := [(0, .ref (a 0))]) hx hb hF dX11_bringHome_29 hl rfl (by decide) (by decide) rfl (fun v2 hF ls hl => ?_)
    refine lv_goto (tgt := 2) hx hb dX11_bringHome_32 (by decide) ?_
    exact hi2 v2 u ls (lv_sub hl [1, 0] rfl) hF _ _ hP hS
  have hB2 : ∀ (n : Nat) (x1 : Int32) (u : q_St) (ls : Array Slot), lv_has ls 2 [(0, .ref (a 0)), (1, .int x1)] → q_lp (fX11_bringHome_b2 N) (fun _ _ => none) n x1 u = some (r0, σ0) → ∀ (H : Heap) (locs : List Loc), va_P D vwCl (am_W a cI u) H → va_S (am_A a) s.heap H locs → W p l e (headSpec (Cond.code yX11_bringHome cX11_bringHome 2 (some .boolean) :: q_T) ({ frames := 6, cells := 0, slots := 0, locals := 133 } : Room)).room s m ([.ref (a 0)] : List Value).toArray below meth c H locs 0 0 (MQ below (q_Qi D vwCl (am_W a cI) (am_A a) r0 σ0) ([.ref (a 0)] : List Value).toArray s 0 0 (am_A a)) (F0 m 2 ls []) := by
    intro n
    induction n with
    | zero => intro x1 u ls hl hF; exact absurd (show (none : Option (Int32 × q_St)) = some _ from hF) (fun h => nomatch h)
    | succ n hi2 =>
      intro x1 u ls hl hF _ _ hP hS
      obtain ⟨ih2, hih⟩ : ∃ q, q = q_lp (fX11_bringHome_b2 N) (fun _ _ => none) n := ⟨_, rfl⟩
      rw [← hih] at hi2
      have hF : fX11_bringHome_b2 N (q_lp (fX11_bringHome_b2 N) (fun _ _ => none) n) x1 u = some (r0, σ0) := hF
      rw [← hih] at hF
      clear hih
      unfold fX11_bringHome_b2 at hF
      refine lv_iload_n hx hb dX11_bringHome_2 rfl (lv_at hl 1 rfl) ?_
      refine lv_aload_n hx hb dX11_bringHome_3 rfl (lv_at hl 0 rfl) ?_
      refine gm_m_all hx hb hts hown hK hP fl_X11_168 dX11_bringHome_4 ?_
      refine sx_icmp_ge (tgt := 35) hx hb hF dX11_bringHome_7 (by decide) (fun hF => ?_) (fun hF => ?_)
      · refine lv_iconst (v := 1) hx hb dX11_bringHome_35 (by decide) ?_
        exact sx_retz (Wd := (am_W a cI)) (σ := u) hx hb hr (by decide) hF hP hS hlocks dX11_bringHome_36
      · refine lv_aload_n hx hb dX11_bringHome_10 rfl (lv_at hl 0 rfl) ?_
        refine gm_m_isTold hx hb hts hown hK hP fl_X11_137 dX11_bringHome_11 ?_
        refine lv_iload_n hx hb dX11_bringHome_14 rfl (lv_at hl 1 rfl) ?_
        refine lm_m_isTold hx hb hK hP hF dX11_bringHome_15 (fun v1 hF => ?_)
        refine sx_if_eq (tgt := 29) hx hb hF dX11_bringHome_16 (by decide) (fun hF => ?_) (fun hF => ?_)
        · exact hB29 ih2 hi2 x1 u ls (lv_sub hl [0, 1] rfl) hF _ _ hP hS
        · refine lv_aload_n hx hb dX11_bringHome_19 rfl (lv_at hl 0 rfl) ?_
          refine lv_iload_n hx hb dX11_bringHome_20 rfl (lv_at hl 1 rfl) ?_
          obtain ⟨r3, u4, hc5, hF⟩ := q_bnd_some hF
          refine sx_ci (Wd := (am_W a cI)) (σ1 := u4) (q_runV (Wd := (am_W a cI)) (σ := u) (q0 := 0) (ci := 11) (T := TX11) (N := 72) (As := [.int x1]) (rest := []) hx hb hml hown hts hK hP (kt_X11_write hD hc5) cw_X11_270 rfl rfl ⟨Nat.le_of_ble_eq_true rfl, Nat.le_of_ble_eq_true rfl⟩ rfl rfl rfl hl.1 rfl (Nat.le_of_ble_eq_true rfl) dX11_bringHome_21) hS (fun H locs hP hS => ?_)
          refine sx_if_ne (tgt := 29) hx hb hF dX11_bringHome_24 (by decide) (fun hF => ?_) (fun hF => ?_)
          · exact hB29 ih2 hi2 x1 u4 ls (lv_sub hl [0, 1] rfl) hF _ _ hP hS
          · refine lv_iconst (v := 0) hx hb dX11_bringHome_27 (by decide) ?_
            exact sx_retz (Wd := (am_W a cI)) (σ := u4) hx hb hr (by decide) hF hP hS hlocks dX11_bringHome_28
  unfold fX11_bringHome at hF
  refine lv_iconst (v := 0) hx hb dX11_bringHome_0 (by decide) ?_
  refine lv_istore_n (lv' := [(1, .int 0), (0, .ref (a 0))]) hx hb dX11_bringHome_1 rfl hl (by decide) rfl (fun ls hl => ?_)
  exact hB2 N 0 u ls (lv_sub hl [1, 0] rfl) hF _ _ hP hS
set_option maxHeartbeats 4000000 in
set_option maxRecDepth 100000 in
theorem kt_X11_commit {N : Nat} {l : Launch} {D : va_G} {a : Nat → Nat} {cI : Nat → ClassId} (hD : ∀ σ, va_D (am_A a) (am_W a cI σ))  {u σ0 : q_St} {r0 : Int32} (hF : fX11_commit N u = some (r0, σ0)) : Met l yX11_commit (Cond.code yX11_commit cX11_commit 3 (some .boolean) :: q_T) ({ frames := 7, cells := 0, slots := 0, locals := 154 } : Room) (q_P D vwCl (am_T cI) (am_W a cI) [.ref (a 0)] u) (q_Qi D vwCl (am_W a cI) (am_A a) r0 σ0) 0 0 (am_A a) := by
  refine Met.ofW (cc := cX11_commit) (maxL := 3) (ret := (some .boolean)) (by decide) rfl ?_
  intro p e s m args below meth c s₁ B hml hv
  obtain ⟨rfl, hP, hK⟩ := hv
  have hx := B.exec
  have hb := B.bytes
  have hr := B.returns
  have hts := q_ts (atoms_spec (ws := Cond.code yX11_commit cX11_commit 3 (some .boolean) :: q_T) B.pre)
  have hown : s.vm.findClass RX11 = some m.cls := findClass_of_methodNamed B.named
  have hlocks := B.notSynchronized
  have hS : va_S (am_A a) s.heap s.heap [] := va_S.rf
  have hl := lv_entry ([.ref (a 0)]) (n := 3) (Nat.le_of_ble_eq_true rfl)
  rw [lg_entry_eq]
  generalize (lg_sl ([.ref (a 0)]) ++ List.replicate (3 - (lg_sl ([.ref (a 0)])).length) Slot.unset).toArray = ls at hl ⊢
  have hl : lv_has ls 3 [(0, .ref (a 0))] := hl
  have hB113 : ∀ (n : Nat) (x2 : Int32) (u : q_St) (ls : Array Slot), lv_has ls 3 [(0, .ref (a 0)), (2, .int x2)] → q_lp (fX11_commit_b113 N) (fun _ _ => none) n x2 u = some (r0, σ0) → ∀ (H : Heap) (locs : List Loc), va_P D vwCl (am_W a cI u) H → va_S (am_A a) s.heap H locs → W p l e (headSpec (Cond.code yX11_commit cX11_commit 3 (some .boolean) :: q_T) ({ frames := 7, cells := 0, slots := 0, locals := 154 } : Room)).room s m ([.ref (a 0)] : List Value).toArray below meth c H locs 0 0 (MQ below (q_Qi D vwCl (am_W a cI) (am_A a) r0 σ0) ([.ref (a 0)] : List Value).toArray s 0 0 (am_A a)) (F0 m 113 ls []) := by
    intro n
    induction n with
    | zero => intro x2 u ls hl hF; exact absurd (show (none : Option (Int32 × q_St)) = some _ from hF) (fun h => nomatch h)
    | succ n hi113 =>
      intro x2 u ls hl hF _ _ hP hS
      obtain ⟨ih113, hih⟩ : ∃ q, q = q_lp (fX11_commit_b113 N) (fun _ _ => none) n := ⟨_, rfl⟩
      rw [← hih] at hi113
      have hF : fX11_commit_b113 N (q_lp (fX11_commit_b113 N) (fun _ _ => none) n) x2 u = some (r0, σ0) := hF
      rw [← hih] at hF
      clear hih
      unfold fX11_commit_b113 at hF
      refine lv_iload_n hx hb dX11_commit_113 rfl (lv_at hl 1 rfl) ?_
      refine lv_aload_n hx hb dX11_commit_114 rfl (lv_at hl 0 rfl) ?_
      refine gm_m_all hx hb hts hown hK hP fl_X11_168 dX11_commit_115 ?_
      refine sx_icmp_ge (tgt := 134) hx hb hF dX11_commit_118 (by decide) (fun hF => ?_) (fun hF => ?_)
      · refine lv_aload_n hx hb dX11_commit_134 rfl (lv_at hl 0 rfl) ?_
        refine lv_iconst (v := 0) hx hb dX11_commit_135 (by decide) ?_
        refine pm_m_dirty hx hb hts hown hK hP fl_X11_267 hD hS hF dX11_commit_136 (fun u10 H locs hF hP hS => ?_)
        refine lv_iconst (v := 1) hx hb dX11_commit_139 (by decide) ?_
        exact sx_retz (Wd := (am_W a cI)) (σ := u10) hx hb hr (by decide) hF hP hS hlocks dX11_commit_140
      · refine lv_aload_n hx hb dX11_commit_121 rfl (lv_at hl 0 rfl) ?_
        refine gm_m_isDirty hx hb hts hown hK hP fl_X11_134 dX11_commit_122 ?_
        refine lv_iload_n hx hb dX11_commit_125 rfl (lv_at hl 1 rfl) ?_
        refine lv_iconst (v := 0) hx hb dX11_commit_126 (by decide) ?_
        refine um_m_isDirty hx hb hK hP hD hS hF dX11_commit_127 (fun u11 H locs hF hP hS => ?_)
        refine sx_iinc (d := 1) (k := 1) (lv2 := [(0, .ref (a 0))]) hx hb hF dX11_commit_128 hl rfl (by decide) (by decide) rfl (fun v12 hF ls hl => ?_)
        refine lv_goto (tgt := 113) hx hb dX11_commit_131 (by decide) ?_
        exact hi113 v12 u11 ls (lv_sub hl [1, 0] rfl) hF _ _ hP hS
  have hB72 : ∀ (n : Nat) (x2 : Int32) (u : q_St) (ls : Array Slot), lv_has ls 3 [(0, .ref (a 0)), (2, .int x2)] → q_lp (fX11_commit_b72 N) (fun _ _ => none) n x2 u = some (r0, σ0) → ∀ (H : Heap) (locs : List Loc), va_P D vwCl (am_W a cI u) H → va_S (am_A a) s.heap H locs → W p l e (headSpec (Cond.code yX11_commit cX11_commit 3 (some .boolean) :: q_T) ({ frames := 7, cells := 0, slots := 0, locals := 154 } : Room)).room s m ([.ref (a 0)] : List Value).toArray below meth c H locs 0 0 (MQ below (q_Qi D vwCl (am_W a cI) (am_A a) r0 σ0) ([.ref (a 0)] : List Value).toArray s 0 0 (am_A a)) (F0 m 72 ls []) := by
    intro n
    induction n with
    | zero => intro x2 u ls hl hF; exact absurd (show (none : Option (Int32 × q_St)) = some _ from hF) (fun h => nomatch h)
    | succ n hi72 =>
      intro x2 u ls hl hF _ _ hP hS
      obtain ⟨ih72, hih⟩ : ∃ q, q = q_lp (fX11_commit_b72 N) (fun _ _ => none) n := ⟨_, rfl⟩
      rw [← hih] at hi72
      have hF : fX11_commit_b72 N (q_lp (fX11_commit_b72 N) (fun _ _ => none) n) x2 u = some (r0, σ0) := hF
      rw [← hih] at hF
      clear hih
      unfold fX11_commit_b72 at hF
      refine lv_iload_n hx hb dX11_commit_72 rfl (lv_at hl 1 rfl) ?_
      refine lv_aload_n hx hb dX11_commit_73 rfl (lv_at hl 0 rfl) ?_
      refine gm_m_all hx hb hts hown hK hP fl_X11_168 dX11_commit_74 ?_
      refine sx_icmp_ge (tgt := 98) hx hb hF dX11_commit_77 (by decide) (fun hF => ?_) (fun hF => ?_)
      · refine lv_aload_n hx hb dX11_commit_98 rfl (lv_at hl 0 rfl) ?_
        obtain ⟨r4, u5, hc6, hF⟩ := q_bnd_some hF
        refine sx_cv (Wd := (am_W a cI)) (σ1 := u5) (q_runV (Wd := (am_W a cI)) (σ := u) (q0 := 0) (ci := 11) (T := TX11) (N := 72) (As := []) (rest := []) hx hb hml hown hts hK hP (kt_X11_keep hD hc6) cw_X11_279 rfl rfl ⟨Nat.le_of_ble_eq_true rfl, Nat.le_of_ble_eq_true rfl⟩ rfl rfl rfl hl.1 rfl (Nat.le_of_ble_eq_true rfl) dX11_commit_99) hS (fun H locs hP hS => ?_)
        refine lv_aload_n hx hb dX11_commit_102 rfl (lv_at hl 0 rfl) ?_
        obtain ⟨r7, u8, hc9, hF⟩ := q_bnd_some hF
        refine sx_ci (Wd := (am_W a cI)) (σ1 := u8) (q_runV (Wd := (am_W a cI)) (σ := u5) (q0 := 0) (ci := 11) (T := TX11) (N := 72) (As := []) (rest := []) hx hb hml hown hts hK hP (kt_X11_bringHome hD hc9) cw_X11_282 rfl rfl ⟨Nat.le_of_ble_eq_true rfl, Nat.le_of_ble_eq_true rfl⟩ rfl rfl rfl hl.1 rfl (Nat.le_of_ble_eq_true rfl) dX11_commit_103) hS (fun H locs hP hS => ?_)
        refine sx_if_ne (tgt := 111) hx hb hF dX11_commit_106 (by decide) (fun hF => ?_) (fun hF => ?_)
        · refine lv_iconst (v := 0) hx hb dX11_commit_111 (by decide) ?_
          refine lv_istore_n (lv' := [(2, .int 0), (0, .ref (a 0))]) hx hb dX11_commit_112 rfl hl (by decide) rfl (fun ls hl => ?_)
          exact hB113 N 0 u8 ls (lv_sub hl [1, 0] rfl) hF _ _ hP hS
        · refine lv_iconst (v := 0) hx hb dX11_commit_109 (by decide) ?_
          exact sx_retz (Wd := (am_W a cI)) (σ := u8) hx hb hr (by decide) hF hP hS hlocks dX11_commit_110
      · refine lv_aload_n hx hb dX11_commit_80 rfl (lv_at hl 0 rfl) ?_
        refine gm_m_isTold hx hb hts hown hK hP fl_X11_137 dX11_commit_81 ?_
        refine lv_iload_n hx hb dX11_commit_84 rfl (lv_at hl 1 rfl) ?_
        refine lv_aload_n hx hb dX11_commit_85 rfl (lv_at hl 0 rfl) ?_
        refine gm_m_isDirty hx hb hts hown hK hP fl_X11_134 dX11_commit_86 ?_
        refine lv_iload_n hx hb dX11_commit_89 rfl (lv_at hl 1 rfl) ?_
        refine lm_m_isDirty hx hb hK hP hF dX11_commit_90 (fun v13 hF => ?_)
        refine um_m_isTold hx hb hK hP hD hS hF dX11_commit_91 (fun u14 H locs hF hP hS => ?_)
        refine sx_iinc (d := 1) (k := 1) (lv2 := [(0, .ref (a 0))]) hx hb hF dX11_commit_92 hl rfl (by decide) (by decide) rfl (fun v15 hF ls hl => ?_)
        refine lv_goto (tgt := 72) hx hb dX11_commit_95 (by decide) ?_
        exact hi72 v15 u14 ls (lv_sub hl [1, 0] rfl) hF _ _ hP hS
  have hB29 : ∀ (n : Nat) (x1 : Int32) (x2 : Int32) (u : q_St) (ls : Array Slot), lv_has ls 3 [(0, .ref (a 0)), (1, .int x1), (2, .int x2)] → q_lp (fX11_commit_b29 N) (fun _ _ _ => none) n x1 x2 u = some (r0, σ0) → ∀ (H : Heap) (locs : List Loc), va_P D vwCl (am_W a cI u) H → va_S (am_A a) s.heap H locs → W p l e (headSpec (Cond.code yX11_commit cX11_commit 3 (some .boolean) :: q_T) ({ frames := 7, cells := 0, slots := 0, locals := 154 } : Room)).room s m ([.ref (a 0)] : List Value).toArray below meth c H locs 0 0 (MQ below (q_Qi D vwCl (am_W a cI) (am_A a) r0 σ0) ([.ref (a 0)] : List Value).toArray s 0 0 (am_A a)) (F0 m 29 ls []) := by
    intro n
    induction n with
    | zero => intro x1 x2 u ls hl hF; exact absurd (show (none : Option (Int32 × q_St)) = some _ from hF) (fun h => nomatch h)
    | succ n hi29 =>
      intro x1 x2 u ls hl hF _ _ hP hS
      obtain ⟨ih29, hih⟩ : ∃ q, q = q_lp (fX11_commit_b29 N) (fun _ _ _ => none) n := ⟨_, rfl⟩
      rw [← hih] at hi29
      have hF : fX11_commit_b29 N (q_lp (fX11_commit_b29 N) (fun _ _ _ => none) n) x1 x2 u = some (r0, σ0) := hF
      rw [← hih] at hF
      clear hih
      unfold fX11_commit_b29 at hF
      refine lv_iload_n hx hb dX11_commit_29 rfl (lv_at hl 2 rfl) ?_
      refine lv_iload_n hx hb dX11_commit_30 rfl (lv_at hl 1 rfl) ?_
      refine sx_icmp_ge (tgt := 55) hx hb hF dX11_commit_31 (by decide) (fun hF => ?_) (fun hF => ?_)
      · refine lv_aload_n hx hb dX11_commit_55 rfl (lv_at hl 0 rfl) ?_
        refine lv_dup hx hb dX11_commit_56 rfl ?_
        refine gm_m_commits hx hb hts hown hK hP fl_X11_276 dX11_commit_57 ?_
        refine lv_iconst (v := 1) hx hb dX11_commit_60 (by decide) ?_
        refine lv_iadd hx hb dX11_commit_61 ?_
        refine pm_m_commits hx hb hts hown hK hP fl_X11_276 hD hS hF dX11_commit_62 (fun u2 H locs hF hP hS => ?_)
        refine lv_aload_n hx hb dX11_commit_65 rfl (lv_at hl 0 rfl) ?_
        refine lv_iconst (v := 1) hx hb dX11_commit_66 (by decide) ?_
        refine pm_m_tells_1 hx hb hts hown hK hP fl_X11_273 hD hS hF dX11_commit_67 (fun u3 H locs hF hP hS => ?_)
        refine lv_iconst (v := 0) hx hb dX11_commit_70 (by decide) ?_
        refine lv_istore_n (lv' := [(2, .int 0), (0, .ref (a 0)), (1, .int x1)]) hx hb dX11_commit_71 rfl hl (by decide) rfl (fun ls hl => ?_)
        exact hB72 N 0 u3 ls (lv_sub hl [1, 0] rfl) hF _ _ hP hS
      · refine lv_aload_n hx hb dX11_commit_34 rfl (lv_at hl 0 rfl) ?_
        refine lv_iload_n hx hb dX11_commit_35 rfl (lv_at hl 2 rfl) ?_
        obtain ⟨r16, u17, hc18, hF⟩ := q_bnd_some hF
        refine sx_ci (Wd := (am_W a cI)) (σ1 := u17) (q_runV (Wd := (am_W a cI)) (σ := u) (q0 := 0) (ci := 11) (T := TX11) (N := 72) (As := [.int x2]) (rest := []) hx hb hml hown hts hK hP (kt_X11_write hD hc18) cw_X11_270 rfl rfl ⟨Nat.le_of_ble_eq_true rfl, Nat.le_of_ble_eq_true rfl⟩ rfl rfl rfl hl.1 rfl (Nat.le_of_ble_eq_true rfl) dX11_commit_36) hS (fun H locs hP hS => ?_)
        refine sx_if_ne (tgt := 44) hx hb hF dX11_commit_39 (by decide) (fun hF => ?_) (fun hF => ?_)
        · refine lv_aload_n hx hb dX11_commit_44 rfl (lv_at hl 0 rfl) ?_
          refine lv_iconst (v := 0) hx hb dX11_commit_45 (by decide) ?_
          refine pm_m_tells_0 hx hb hts hown hK hP fl_X11_273 hD hS hF dX11_commit_46 (fun u19 H locs hF hP hS => ?_)
          refine sx_iinc (d := 1) (k := 2) (lv2 := [(0, .ref (a 0)), (1, .int x1)]) hx hb hF dX11_commit_49 hl rfl (by decide) (by decide) rfl (fun v20 hF ls hl => ?_)
          refine lv_goto (tgt := 29) hx hb dX11_commit_52 (by decide) ?_
          exact hi29 x1 v20 u19 ls (lv_sub hl [1, 2, 0] rfl) hF _ _ hP hS
        · refine lv_iconst (v := 0) hx hb dX11_commit_42 (by decide) ?_
          exact sx_retz (Wd := (am_W a cI)) (σ := u17) hx hb hr (by decide) hF hP hS hlocks dX11_commit_43
  unfold fX11_commit at hF
  refine lv_aload_n hx hb dX11_commit_0 rfl (lv_at hl 0 rfl) ?_
  refine gm_m_dirty hx hb hts hown hK hP fl_X11_267 dX11_commit_1 ?_
  refine sx_if_ne (tgt := 9) hx hb hF dX11_commit_4 (by decide) (fun hF => ?_) (fun hF => ?_)
  · refine lv_aload_n hx hb dX11_commit_9 rfl (lv_at hl 0 rfl) ?_
    refine gm_m_dirty hx hb hts hown hK hP fl_X11_267 dX11_commit_10 ?_
    refine lv_bipush (v := 23) hx hb dX11_commit_13 (by decide) ?_
    refine lv_iadd hx hb dX11_commit_15 ?_
    refine lv_bipush (v := 24) hx hb dX11_commit_16 (by decide) ?_
    refine lv_idiv hx hb dX11_commit_18 (by decide) ?_
    refine lv_aload_n hx hb dX11_commit_19 rfl (lv_at hl 0 rfl) ?_
    refine gm_m_dirty hx hb hts hown hK hP fl_X11_267 dX11_commit_20 ?_
    refine lv_iadd hx hb dX11_commit_23 ?_
    refine lv_iconst (v := 1) hx hb dX11_commit_24 (by decide) ?_
    refine lv_iadd hx hb dX11_commit_25 ?_
    refine sx_istore_n (lv2 := [(0, .ref (a 0))]) hx hb hF dX11_commit_26 rfl hl (by decide) rfl (fun v1 hF ls hl => ?_)
    refine lv_iconst (v := 0) hx hb dX11_commit_27 (by decide) ?_
    refine lv_istore_n (lv' := [(2, .int 0), (1, .int v1), (0, .ref (a 0))]) hx hb dX11_commit_28 rfl hl (by decide) rfl (fun ls hl => ?_)
    exact hB29 N v1 0 u ls (lv_sub hl [2, 1, 0] rfl) hF _ _ hP hS
  · refine lv_iconst (v := 1) hx hb dX11_commit_7 (by decide) ?_
    exact sx_retz (Wd := (am_W a cI)) (σ := u) hx hb hr (by decide) hF hP hS hlocks dX11_commit_8
set_option maxHeartbeats 4000000 in
set_option maxRecDepth 100000 in
theorem kt_X11_sync {N : Nat} {l : Launch} {D : va_G} {a : Nat → Nat} {cI : Nat → ClassId} (hD : ∀ σ, va_D (am_A a) (am_W a cI σ))  {u σ0 : q_St} {r0 : Int32} (hF : fX11_sync N u = some (r0, σ0)) : Met l yX11_sync (Cond.code yX11_sync cX11_sync 2 (some .int) :: q_T) ({ frames := 8, cells := 0, slots := 0, locals := 176 } : Room) (q_P D vwCl (am_T cI) (am_W a cI) [.ref (a 0)] u) (q_Qi D vwCl (am_W a cI) (am_A a) r0 σ0) 0 0 (am_A a) := by
  refine Met.ofW (cc := cX11_sync) (maxL := 2) (ret := (some .int)) (by decide) rfl ?_
  intro p e s m args below meth c s₁ B hml hv
  obtain ⟨rfl, hP, hK⟩ := hv
  have hx := B.exec
  have hb := B.bytes
  have hr := B.returns
  have hts := q_ts (atoms_spec (ws := Cond.code yX11_sync cX11_sync 2 (some .int) :: q_T) B.pre)
  have hown : s.vm.findClass RX11 = some m.cls := findClass_of_methodNamed B.named
  have hlocks := B.notSynchronized
  have hS : va_S (am_A a) s.heap s.heap [] := va_S.rf
  have hl := lv_entry ([.ref (a 0)]) (n := 2) (Nat.le_of_ble_eq_true rfl)
  rw [lg_entry_eq]
  generalize (lg_sl ([.ref (a 0)]) ++ List.replicate (2 - (lg_sl ([.ref (a 0)])).length) Slot.unset).toArray = ls at hl ⊢
  have hl : lv_has ls 2 [(0, .ref (a 0))] := hl
  unfold fX11_sync at hF
  refine lv_aload_n hx hb dX11_sync_0 rfl (lv_at hl 0 rfl) ?_
  refine gm_m_isOn hx hb hts hown hK hP fl_X11_7 dX11_sync_1 ?_
  refine sx_if_ne (tgt := 10) hx hb hF dX11_sync_4 (by decide) (fun hF => ?_) (fun hF => ?_)
  · refine lv_aload_n hx hb dX11_sync_10 rfl (lv_at hl 0 rfl) ?_
    refine gm_m_dirty hx hb hts hown hK hP fl_X11_267 dX11_sync_11 ?_
    refine sx_istore_n (lv2 := [(0, .ref (a 0))]) hx hb hF dX11_sync_14 rfl hl (by decide) rfl (fun v1 hF ls hl => ?_)
    refine lv_aload_n hx hb dX11_sync_15 rfl (lv_at hl 1 rfl) ?_
    obtain ⟨r2, u3, hc4, hF⟩ := q_bnd_some hF
    refine sx_ci (Wd := (am_W a cI)) (σ1 := u3) (q_runV (Wd := (am_W a cI)) (σ := u) (q0 := 0) (ci := 11) (T := TX11) (N := 72) (As := []) (rest := []) hx hb hml hown hts hK hP (kt_X11_commit hD hc4) cw_X11_285 rfl rfl ⟨Nat.le_of_ble_eq_true rfl, Nat.le_of_ble_eq_true rfl⟩ rfl rfl rfl hl.1 rfl (Nat.le_of_ble_eq_true rfl) dX11_sync_16) hS (fun H locs hP hS => ?_)
    refine sx_if_eq (tgt := 26) hx hb hF dX11_sync_19 (by decide) (fun hF => ?_) (fun hF => ?_)
    · refine lv_bipush (v := (-99)) hx hb dX11_sync_26 (by decide) ?_
      exact sx_reti (Wd := (am_W a cI)) (σ := u3) hx hb hr hF hP hS hlocks dX11_sync_28
    · refine lv_iload_n hx hb dX11_sync_22 rfl (lv_at hl 0 rfl) ?_
      refine lv_goto (tgt := 28) hx hb dX11_sync_23 (by decide) ?_
      exact sx_reti (Wd := (am_W a cI)) (σ := u3) hx hb hr hF hP hS hlocks dX11_sync_28
  · refine lv_bipush (v := (-99)) hx hb dX11_sync_7 (by decide) ?_
    exact sx_reti (Wd := (am_W a cI)) (σ := u) hx hb hr hF hP hS hlocks dX11_sync_9
set_option maxHeartbeats 4000000 in
set_option maxRecDepth 100000 in
theorem kt_X11_clean {N : Nat} {l : Launch} {D : va_G} {a : Nat → Nat} {cI : Nat → ClassId} (hD : ∀ σ, va_D (am_A a) (am_W a cI σ))  {u σ0 : q_St} {r0 : Int32} (hF : fX11_clean N u = some (r0, σ0)) : Met l yX11_clean (Cond.code yX11_clean cX11_clean 1 (some .int) :: q_T) ({ frames := 5, cells := 0, slots := 0, locals := 112 } : Room) (q_P D vwCl (am_T cI) (am_W a cI) [.ref (a 0)] u) (q_Qi D vwCl (am_W a cI) (am_A a) r0 σ0) 0 0 (am_A a) := by
  refine Met.ofW (cc := cX11_clean) (maxL := 1) (ret := (some .int)) (by decide) rfl ?_
  intro p e s m args below meth c s₁ B hml hv
  obtain ⟨rfl, hP, hK⟩ := hv
  have hx := B.exec
  have hb := B.bytes
  have hr := B.returns
  have hts := q_ts (atoms_spec (ws := Cond.code yX11_clean cX11_clean 1 (some .int) :: q_T) B.pre)
  have hown : s.vm.findClass RX11 = some m.cls := findClass_of_methodNamed B.named
  have hlocks := B.notSynchronized
  have hS : va_S (am_A a) s.heap s.heap [] := va_S.rf
  have hl := lv_entry ([.ref (a 0)]) (n := 1) (Nat.le_of_ble_eq_true rfl)
  rw [lg_entry_eq]
  generalize (lg_sl ([.ref (a 0)]) ++ List.replicate (1 - (lg_sl ([.ref (a 0)])).length) Slot.unset).toArray = ls at hl ⊢
  have hl : lv_has ls 1 [(0, .ref (a 0))] := hl
  unfold fX11_clean at hF
  refine lv_aload_n hx hb dX11_clean_0 rfl (lv_at hl 0 rfl) ?_
  refine gm_m_isOn hx hb hts hown hK hP fl_X11_7 dX11_clean_1 ?_
  refine sx_if_eq (tgt := 14) hx hb hF dX11_clean_4 (by decide) (fun hF => ?_) (fun hF => ?_)
  · refine lv_bipush (v := (-99)) hx hb dX11_clean_14 (by decide) ?_
    exact sx_reti (Wd := (am_W a cI)) (σ := u) hx hb hr hF hP hS hlocks dX11_clean_16
  · refine lv_aload_n hx hb dX11_clean_7 rfl (lv_at hl 0 rfl) ?_
    obtain ⟨r1, u2, hc3, hF⟩ := q_bnd_some hF
    refine sx_ci (Wd := (am_W a cI)) (σ1 := u2) (q_runV (Wd := (am_W a cI)) (σ := u) (q0 := 0) (ci := 11) (T := TX11) (N := 72) (As := []) (rest := []) hx hb hml hown hts hK hP (kt_X11_step hD hc3) cw_X11_258 rfl rfl ⟨Nat.le_of_ble_eq_true rfl, Nat.le_of_ble_eq_true rfl⟩ rfl rfl rfl hl.1 rfl (Nat.le_of_ble_eq_true rfl) dX11_clean_8) hS (fun H locs hP hS => ?_)
    refine lv_goto (tgt := 16) hx hb dX11_clean_11 (by decide) ?_
    exact sx_reti (Wd := (am_W a cI)) (σ := u2) hx hb hr hF hP hS hlocks dX11_clean_16
set_option maxHeartbeats 4000000 in
set_option maxRecDepth 100000 in
theorem kt_X11_power {N : Nat} {l : Launch} {D : va_G} {a : Nat → Nat} {cI : Nat → ClassId} (hD : ∀ σ, va_D (am_A a) (am_W a cI σ)) {o1 : Int32} {u σ0 : q_St} {r0 : Int32} (hF : fX11_power N o1 u = some (r0, σ0)) : Met l yX11_power (Cond.code yX11_power cX11_power 2 (some .boolean) :: q_T) ({ frames := 0, cells := 0, slots := 0, locals := 0 } : Room) (q_P D vwCl (am_T cI) (am_W a cI) [.ref (a 0), .int o1] u) (q_Qi D vwCl (am_W a cI) (am_A a) r0 σ0) 0 0 (am_A a) := by
  refine Met.ofW (cc := cX11_power) (maxL := 2) (ret := (some .boolean)) (by decide) rfl ?_
  intro p e s m args below meth c s₁ B hml hv
  obtain ⟨rfl, hP, hK⟩ := hv
  have hx := B.exec
  have hb := B.bytes
  have hr := B.returns
  have hts := q_ts (atoms_spec (ws := Cond.code yX11_power cX11_power 2 (some .boolean) :: q_T) B.pre)
  have hown : s.vm.findClass RX11 = some m.cls := findClass_of_methodNamed B.named
  have hlocks := B.notSynchronized
  have hS : va_S (am_A a) s.heap s.heap [] := va_S.rf
  have hl := lv_entry ([.ref (a 0), .int o1]) (n := 2) (Nat.le_of_ble_eq_true rfl)
  rw [lg_entry_eq]
  generalize (lg_sl ([.ref (a 0), .int o1]) ++ List.replicate (2 - (lg_sl ([.ref (a 0), .int o1])).length) Slot.unset).toArray = ls at hl ⊢
  have hl : lv_has ls 2 [(0, .ref (a 0)), (1, .int o1)] := hl
  have hB10 : ∀ (y0 : Int32) (u : q_St) (ls : Array Slot), lv_has ls 2 [(0, .ref (a 0))] → fX11_power_b10 N y0 u = some (r0, σ0) → ∀ (H : Heap) (locs : List Loc), va_P D vwCl (am_W a cI u) H → va_S (am_A a) s.heap H locs → W p l e (headSpec (Cond.code yX11_power cX11_power 2 (some .boolean) :: q_T) ({ frames := 0, cells := 0, slots := 0, locals := 0 } : Room)).room s m ([.ref (a 0), .int o1] : List Value).toArray below meth c H locs 0 0 (MQ below (q_Qi D vwCl (am_W a cI) (am_A a) r0 σ0) ([.ref (a 0), .int o1] : List Value).toArray s 0 0 (am_A a)) (F0 m 10 ls [.int y0, .ref (a 0)]) := by
    intro y0 u ls hl hF _ _ hP hS
    unfold fX11_power_b10 at hF
    refine pm_m_cut hx hb hts hown hK hP fl_X11_13 hD hS hF dX11_power_10 (fun u1 H locs hF hP hS => ?_)
    refine lv_aload_n hx hb dX11_power_13 rfl (lv_at hl 0 rfl) ?_
    refine gm_m_isOn hx hb hts hown hK hP fl_X11_7 dX11_power_14 ?_
    exact sx_retzv (Wd := (am_W a cI)) (σ := u1) hx hb hr hF hP hS hlocks dX11_power_17
  unfold fX11_power at hF
  refine lv_aload_n hx hb dX11_power_0 rfl (lv_at hl 0 rfl) ?_
  refine lv_iload_n hx hb dX11_power_1 rfl (lv_at hl 1 rfl) ?_
  refine sx_if_ge (tgt := 9) hx hb hF dX11_power_2 (by decide) (fun hF => ?_) (fun hF => ?_)
  · refine lv_iload_n hx hb dX11_power_9 rfl (lv_at hl 1 rfl) ?_
    exact hB10 o1 u ls (lv_sub hl [0] rfl) hF _ _ hP hS
  · refine lv_iconst (v := (-1)) hx hb dX11_power_5 (by decide) ?_
    refine lv_goto (tgt := 10) hx hb dX11_power_6 (by decide) ?_
    exact hB10 (-1) u ls (lv_sub hl [0] rfl) hF _ _ hP hS
set_option maxHeartbeats 4000000 in
set_option maxRecDepth 100000 in
theorem kt_X11_forget {N : Nat} {l : Launch} {D : va_G} {a : Nat → Nat} {cI : Nat → ClassId} (hD : ∀ σ, va_D (am_A a) (am_W a cI σ))  {u σ0 : q_St} {r0 : Unit} (hF : fX11_forget N u = some (r0, σ0)) : Met l yX11_forget (Cond.code yX11_forget cX11_forget 2 none :: q_T) ({ frames := 0, cells := 0, slots := 0, locals := 0 } : Room) (q_P D vwCl (am_T cI) (am_W a cI) [.ref (a 0)] u) (q_Qv D vwCl (am_W a cI) (am_A a) σ0) 0 0 (am_A a) := by
  refine Met.ofW (cc := cX11_forget) (maxL := 2) (ret := none) (by decide) rfl ?_
  intro p e s m args below meth c s₁ B hml hv
  obtain ⟨rfl, hP, hK⟩ := hv
  have hx := B.exec
  have hb := B.bytes
  have hr := B.returns
  have hts := q_ts (atoms_spec (ws := Cond.code yX11_forget cX11_forget 2 none :: q_T) B.pre)
  have hown : s.vm.findClass RX11 = some m.cls := findClass_of_methodNamed B.named
  have hlocks := B.notSynchronized
  have hS : va_S (am_A a) s.heap s.heap [] := va_S.rf
  have hl := lv_entry ([.ref (a 0)]) (n := 2) (Nat.le_of_ble_eq_true rfl)
  rw [lg_entry_eq]
  generalize (lg_sl ([.ref (a 0)]) ++ List.replicate (2 - (lg_sl ([.ref (a 0)])).length) Slot.unset).toArray = ls at hl ⊢
  have hl : lv_has ls 2 [(0, .ref (a 0))] := hl
  have hB281 : ∀ (n : Nat) (x1 : Int32) (u : q_St) (ls : Array Slot), lv_has ls 2 [(0, .ref (a 0)), (1, .int x1)] → q_lp (fX11_forget_b281 N) (fun _ _ => none) n x1 u = some (r0, σ0) → ∀ (H : Heap) (locs : List Loc), va_P D vwCl (am_W a cI u) H → va_S (am_A a) s.heap H locs → W p l e (headSpec (Cond.code yX11_forget cX11_forget 2 none :: q_T) ({ frames := 0, cells := 0, slots := 0, locals := 0 } : Room)).room s m ([.ref (a 0)] : List Value).toArray below meth c H locs 0 0 (MQ below (q_Qv D vwCl (am_W a cI) (am_A a) σ0) ([.ref (a 0)] : List Value).toArray s 0 0 (am_A a)) (F0 m 281 ls []) := by
    intro n
    induction n with
    | zero => intro x1 u ls hl hF; exact absurd (show (none : Option (Unit × q_St)) = some _ from hF) (fun h => nomatch h)
    | succ n hi281 =>
      intro x1 u ls hl hF _ _ hP hS
      obtain ⟨ih281, hih⟩ : ∃ q, q = q_lp (fX11_forget_b281 N) (fun _ _ => none) n := ⟨_, rfl⟩
      rw [← hih] at hi281
      have hF : fX11_forget_b281 N (q_lp (fX11_forget_b281 N) (fun _ _ => none) n) x1 u = some (r0, σ0) := hF
      rw [← hih] at hF
      clear hih
      unfold fX11_forget_b281 at hF
      refine lv_iload_n hx hb dX11_forget_281 rfl (lv_at hl 1 rfl) ?_
      refine lv_bipush (v := 64) hx hb dX11_forget_282 (by decide) ?_
      refine lv_aload_n hx hb dX11_forget_284 rfl (lv_at hl 0 rfl) ?_
      refine gm_m_all hx hb hts hown hK hP fl_X11_168 dX11_forget_285 ?_
      refine lv_imul hx hb dX11_forget_288 ?_
      refine sx_icmp_ge (tgt := 310) hx hb hF dX11_forget_289 (by decide) (fun hF => ?_) (fun hF => ?_)
      · refine lv_aload_n hx hb dX11_forget_310 rfl (lv_at hl 0 rfl) ?_
        refine lv_iconst (v := 0) hx hb dX11_forget_311 (by decide) ?_
        refine pm_m_dirty hx hb hts hown hK hP fl_X11_267 hD hS hF dX11_forget_312 (fun u1 H locs hF hP hS => ?_)
        exact sx_retv (Wd := (am_W a cI)) (σ := u1) hx hb hr hF hP hS hlocks dX11_forget_315
      · refine lv_aload_n hx hb dX11_forget_292 rfl (lv_at hl 0 rfl) ?_
        refine gm_m_bytes hx hb hts hown hK hP fl_X11_86 dX11_forget_293 ?_
        refine lv_iload_n hx hb dX11_forget_296 rfl (lv_at hl 1 rfl) ?_
        refine lv_aload_n hx hb dX11_forget_297 rfl (lv_at hl 0 rfl) ?_
        refine gm_m_keptBytes hx hb hts hown hK hP fl_X11_131 dX11_forget_298 ?_
        refine lv_iload_n hx hb dX11_forget_301 rfl (lv_at hl 1 rfl) ?_
        refine lm_m_keptBytes hx hb hK hP hF dX11_forget_302 (fun v2 hF => ?_)
        refine um_m_bytes hx hb hK hP hD hS hF dX11_forget_303 (fun u3 H locs hF hP hS => ?_)
        refine sx_iinc (d := 1) (k := 1) (lv2 := [(0, .ref (a 0))]) hx hb hF dX11_forget_304 hl rfl (by decide) (by decide) rfl (fun v4 hF ls hl => ?_)
        refine lv_goto (tgt := 281) hx hb dX11_forget_307 (by decide) ?_
        exact hi281 v4 u3 ls (lv_sub hl [1, 0] rfl) hF _ _ hP hS
  have hB246 : ∀ (n : Nat) (x1 : Int32) (u : q_St) (ls : Array Slot), lv_has ls 2 [(0, .ref (a 0)), (1, .int x1)] → q_lp (fX11_forget_b246 N) (fun _ _ => none) n x1 u = some (r0, σ0) → ∀ (H : Heap) (locs : List Loc), va_P D vwCl (am_W a cI u) H → va_S (am_A a) s.heap H locs → W p l e (headSpec (Cond.code yX11_forget cX11_forget 2 none :: q_T) ({ frames := 0, cells := 0, slots := 0, locals := 0 } : Room)).room s m ([.ref (a 0)] : List Value).toArray below meth c H locs 0 0 (MQ below (q_Qv D vwCl (am_W a cI) (am_A a) σ0) ([.ref (a 0)] : List Value).toArray s 0 0 (am_A a)) (F0 m 246 ls []) := by
    intro n
    induction n with
    | zero => intro x1 u ls hl hF; exact absurd (show (none : Option (Unit × q_St)) = some _ from hF) (fun h => nomatch h)
    | succ n hi246 =>
      intro x1 u ls hl hF _ _ hP hS
      obtain ⟨ih246, hih⟩ : ∃ q, q = q_lp (fX11_forget_b246 N) (fun _ _ => none) n := ⟨_, rfl⟩
      rw [← hih] at hi246
      have hF : fX11_forget_b246 N (q_lp (fX11_forget_b246 N) (fun _ _ => none) n) x1 u = some (r0, σ0) := hF
      rw [← hih] at hF
      clear hih
      unfold fX11_forget_b246 at hF
      refine lv_iload_n hx hb dX11_forget_246 rfl (lv_at hl 1 rfl) ?_
      refine lv_aload_n hx hb dX11_forget_247 rfl (lv_at hl 0 rfl) ?_
      refine gm_m_all hx hb hts hown hK hP fl_X11_168 dX11_forget_248 ?_
      refine sx_icmp_ge (tgt := 279) hx hb hF dX11_forget_251 (by decide) (fun hF => ?_) (fun hF => ?_)
      · refine lv_iconst (v := 0) hx hb dX11_forget_279 (by decide) ?_
        refine lv_istore_n (lv' := [(1, .int 0), (0, .ref (a 0))]) hx hb dX11_forget_280 rfl hl (by decide) rfl (fun ls hl => ?_)
        exact hB281 N 0 u ls (lv_sub hl [1, 0] rfl) hF _ _ hP hS
      · refine lv_aload_n hx hb dX11_forget_254 rfl (lv_at hl 0 rfl) ?_
        refine gm_m_isUsed hx hb hts hown hK hP fl_X11_82 dX11_forget_255 ?_
        refine lv_iload_n hx hb dX11_forget_258 rfl (lv_at hl 1 rfl) ?_
        refine lv_aload_n hx hb dX11_forget_259 rfl (lv_at hl 0 rfl) ?_
        refine gm_m_isKeptUsed hx hb hts hown hK hP fl_X11_128 dX11_forget_260 ?_
        refine lv_iload_n hx hb dX11_forget_263 rfl (lv_at hl 1 rfl) ?_
        refine lm_m_isKeptUsed hx hb hK hP hF dX11_forget_264 (fun v5 hF => ?_)
        refine um_m_isUsed hx hb hK hP hD hS hF dX11_forget_265 (fun u6 H locs hF hP hS => ?_)
        refine lv_aload_n hx hb dX11_forget_266 rfl (lv_at hl 0 rfl) ?_
        refine gm_m_isDirty hx hb hts hown hK hP fl_X11_134 dX11_forget_267 ?_
        refine lv_iload_n hx hb dX11_forget_270 rfl (lv_at hl 1 rfl) ?_
        refine lv_iconst (v := 0) hx hb dX11_forget_271 (by decide) ?_
        refine um_m_isDirty hx hb hK hP hD hS hF dX11_forget_272 (fun u7 H locs hF hP hS => ?_)
        refine sx_iinc (d := 1) (k := 1) (lv2 := [(0, .ref (a 0))]) hx hb hF dX11_forget_273 hl rfl (by decide) (by decide) rfl (fun v8 hF ls hl => ?_)
        refine lv_goto (tgt := 246) hx hb dX11_forget_276 (by decide) ?_
        exact hi246 v8 u7 ls (lv_sub hl [1, 0] rfl) hF _ _ hP hS
  have hB207 : ∀ (n : Nat) (x1 : Int32) (u : q_St) (ls : Array Slot), lv_has ls 2 [(0, .ref (a 0)), (1, .int x1)] → q_lp (fX11_forget_b207 N) (fun _ _ => none) n x1 u = some (r0, σ0) → ∀ (H : Heap) (locs : List Loc), va_P D vwCl (am_W a cI u) H → va_S (am_A a) s.heap H locs → W p l e (headSpec (Cond.code yX11_forget cX11_forget 2 none :: q_T) ({ frames := 0, cells := 0, slots := 0, locals := 0 } : Room)).room s m ([.ref (a 0)] : List Value).toArray below meth c H locs 0 0 (MQ below (q_Qv D vwCl (am_W a cI) (am_A a) σ0) ([.ref (a 0)] : List Value).toArray s 0 0 (am_A a)) (F0 m 207 ls []) := by
    intro n
    induction n with
    | zero => intro x1 u ls hl hF; exact absurd (show (none : Option (Unit × q_St)) = some _ from hF) (fun h => nomatch h)
    | succ n hi207 =>
      intro x1 u ls hl hF _ _ hP hS
      obtain ⟨ih207, hih⟩ : ∃ q, q = q_lp (fX11_forget_b207 N) (fun _ _ => none) n := ⟨_, rfl⟩
      rw [← hih] at hi207
      have hF : fX11_forget_b207 N (q_lp (fX11_forget_b207 N) (fun _ _ => none) n) x1 u = some (r0, σ0) := hF
      rw [← hih] at hF
      clear hih
      unfold fX11_forget_b207 at hF
      refine lv_iload_n hx hb dX11_forget_207 rfl (lv_at hl 1 rfl) ?_
      refine lv_sipush (v := 3072) hx hb dX11_forget_208 (by decide) ?_
      refine sx_icmp_ge (tgt := 244) hx hb hF dX11_forget_211 (by decide) (fun hF => ?_) (fun hF => ?_)
      · refine lv_iconst (v := 0) hx hb dX11_forget_244 (by decide) ?_
        refine lv_istore_n (lv' := [(1, .int 0), (0, .ref (a 0))]) hx hb dX11_forget_245 rfl hl (by decide) rfl (fun ls hl => ?_)
        exact hB246 N 0 u ls (lv_sub hl [1, 0] rfl) hF _ _ hP hS
      · refine lv_aload_n hx hb dX11_forget_214 rfl (lv_at hl 0 rfl) ?_
        refine gm_m_slotNode hx hb hts hown hK hP fl_X11_68 dX11_forget_215 ?_
        refine lv_iload_n hx hb dX11_forget_218 rfl (lv_at hl 1 rfl) ?_
        refine lv_aload_n hx hb dX11_forget_219 rfl (lv_at hl 0 rfl) ?_
        refine gm_m_keptSlotNode hx hb hts hown hK hP fl_X11_116 dX11_forget_220 ?_
        refine lv_iload_n hx hb dX11_forget_223 rfl (lv_at hl 1 rfl) ?_
        refine lm_m_keptSlotNode hx hb hK hP hF dX11_forget_224 (fun v9 hF => ?_)
        refine um_m_slotNode hx hb hK hP hD hS hF dX11_forget_225 (fun u10 H locs hF hP hS => ?_)
        refine lv_aload_n hx hb dX11_forget_226 rfl (lv_at hl 0 rfl) ?_
        refine gm_m_slotName hx hb hts hown hK hP fl_X11_71 dX11_forget_227 ?_
        refine lv_iload_n hx hb dX11_forget_230 rfl (lv_at hl 1 rfl) ?_
        refine lv_aload_n hx hb dX11_forget_231 rfl (lv_at hl 0 rfl) ?_
        refine gm_m_keptSlotName hx hb hts hown hK hP fl_X11_119 dX11_forget_232 ?_
        refine lv_iload_n hx hb dX11_forget_235 rfl (lv_at hl 1 rfl) ?_
        refine lm_m_keptSlotName hx hb hK hP hF dX11_forget_236 (fun v11 hF => ?_)
        refine um_m_slotName hx hb hK hP hD hS hF dX11_forget_237 (fun u12 H locs hF hP hS => ?_)
        refine sx_iinc (d := 1) (k := 1) (lv2 := [(0, .ref (a 0))]) hx hb hF dX11_forget_238 hl rfl (by decide) (by decide) rfl (fun v13 hF ls hl => ?_)
        refine lv_goto (tgt := 207) hx hb dX11_forget_241 (by decide) ?_
        exact hi207 v13 u12 ls (lv_sub hl [1, 0] rfl) hF _ _ hP hS
  have hB180 : ∀ (n : Nat) (x1 : Int32) (u : q_St) (ls : Array Slot), lv_has ls 2 [(0, .ref (a 0)), (1, .int x1)] → q_lp (fX11_forget_b180 N) (fun _ _ => none) n x1 u = some (r0, σ0) → ∀ (H : Heap) (locs : List Loc), va_P D vwCl (am_W a cI u) H → va_S (am_A a) s.heap H locs → W p l e (headSpec (Cond.code yX11_forget cX11_forget 2 none :: q_T) ({ frames := 0, cells := 0, slots := 0, locals := 0 } : Room)).room s m ([.ref (a 0)] : List Value).toArray below meth c H locs 0 0 (MQ below (q_Qv D vwCl (am_W a cI) (am_A a) σ0) ([.ref (a 0)] : List Value).toArray s 0 0 (am_A a)) (F0 m 180 ls []) := by
    intro n
    induction n with
    | zero => intro x1 u ls hl hF; exact absurd (show (none : Option (Unit × q_St)) = some _ from hF) (fun h => nomatch h)
    | succ n hi180 =>
      intro x1 u ls hl hF _ _ hP hS
      obtain ⟨ih180, hih⟩ : ∃ q, q = q_lp (fX11_forget_b180 N) (fun _ _ => none) n := ⟨_, rfl⟩
      rw [← hih] at hi180
      have hF : fX11_forget_b180 N (q_lp (fX11_forget_b180 N) (fun _ _ => none) n) x1 u = some (r0, σ0) := hF
      rw [← hih] at hF
      clear hih
      unfold fX11_forget_b180 at hF
      refine lv_iload_n hx hb dX11_forget_180 rfl (lv_at hl 1 rfl) ?_
      refine lv_sipush (v := 768) hx hb dX11_forget_181 (by decide) ?_
      refine sx_icmp_ge (tgt := 205) hx hb hF dX11_forget_184 (by decide) (fun hF => ?_) (fun hF => ?_)
      · refine lv_iconst (v := 0) hx hb dX11_forget_205 (by decide) ?_
        refine lv_istore_n (lv' := [(1, .int 0), (0, .ref (a 0))]) hx hb dX11_forget_206 rfl hl (by decide) rfl (fun ls hl => ?_)
        exact hB207 N 0 u ls (lv_sub hl [1, 0] rfl) hF _ _ hP hS
      · refine lv_aload_n hx hb dX11_forget_187 rfl (lv_at hl 0 rfl) ?_
        refine gm_m_block hx hb hts hown hK hP fl_X11_65 dX11_forget_188 ?_
        refine lv_iload_n hx hb dX11_forget_191 rfl (lv_at hl 1 rfl) ?_
        refine lv_aload_n hx hb dX11_forget_192 rfl (lv_at hl 0 rfl) ?_
        refine gm_m_keptBlock hx hb hts hown hK hP fl_X11_113 dX11_forget_193 ?_
        refine lv_iload_n hx hb dX11_forget_196 rfl (lv_at hl 1 rfl) ?_
        refine lm_m_keptBlock hx hb hK hP hF dX11_forget_197 (fun v14 hF => ?_)
        refine um_m_block hx hb hK hP hD hS hF dX11_forget_198 (fun u15 H locs hF hP hS => ?_)
        refine sx_iinc (d := 1) (k := 1) (lv2 := [(0, .ref (a 0))]) hx hb hF dX11_forget_199 hl rfl (by decide) (by decide) rfl (fun v16 hF ls hl => ?_)
        refine lv_goto (tgt := 180) hx hb dX11_forget_202 (by decide) ?_
        exact hi180 v16 u15 ls (lv_sub hl [1, 0] rfl) hF _ _ hP hS
  have hB153 : ∀ (n : Nat) (x1 : Int32) (u : q_St) (ls : Array Slot), lv_has ls 2 [(0, .ref (a 0)), (1, .int x1)] → q_lp (fX11_forget_b153 N) (fun _ _ => none) n x1 u = some (r0, σ0) → ∀ (H : Heap) (locs : List Loc), va_P D vwCl (am_W a cI u) H → va_S (am_A a) s.heap H locs → W p l e (headSpec (Cond.code yX11_forget cX11_forget 2 none :: q_T) ({ frames := 0, cells := 0, slots := 0, locals := 0 } : Room)).room s m ([.ref (a 0)] : List Value).toArray below meth c H locs 0 0 (MQ below (q_Qv D vwCl (am_W a cI) (am_A a) σ0) ([.ref (a 0)] : List Value).toArray s 0 0 (am_A a)) (F0 m 153 ls []) := by
    intro n
    induction n with
    | zero => intro x1 u ls hl hF; exact absurd (show (none : Option (Unit × q_St)) = some _ from hF) (fun h => nomatch h)
    | succ n hi153 =>
      intro x1 u ls hl hF _ _ hP hS
      obtain ⟨ih153, hih⟩ : ∃ q, q = q_lp (fX11_forget_b153 N) (fun _ _ => none) n := ⟨_, rfl⟩
      rw [← hih] at hi153
      have hF : fX11_forget_b153 N (q_lp (fX11_forget_b153 N) (fun _ _ => none) n) x1 u = some (r0, σ0) := hF
      rw [← hih] at hF
      clear hih
      unfold fX11_forget_b153 at hF
      refine lv_iload_n hx hb dX11_forget_153 rfl (lv_at hl 1 rfl) ?_
      refine lv_sipush (v := 2560) hx hb dX11_forget_154 (by decide) ?_
      refine sx_icmp_ge (tgt := 178) hx hb hF dX11_forget_157 (by decide) (fun hF => ?_) (fun hF => ?_)
      · refine lv_iconst (v := 0) hx hb dX11_forget_178 (by decide) ?_
        refine lv_istore_n (lv' := [(1, .int 0), (0, .ref (a 0))]) hx hb dX11_forget_179 rfl hl (by decide) rfl (fun ls hl => ?_)
        exact hB180 N 0 u ls (lv_sub hl [1, 0] rfl) hF _ _ hP hS
      · refine lv_aload_n hx hb dX11_forget_160 rfl (lv_at hl 0 rfl) ?_
        refine gm_m_text hx hb hts hown hK hP fl_X11_78 dX11_forget_161 ?_
        refine lv_iload_n hx hb dX11_forget_164 rfl (lv_at hl 1 rfl) ?_
        refine lv_aload_n hx hb dX11_forget_165 rfl (lv_at hl 0 rfl) ?_
        refine gm_m_keptText hx hb hts hown hK hP fl_X11_125 dX11_forget_166 ?_
        refine lv_iload_n hx hb dX11_forget_169 rfl (lv_at hl 1 rfl) ?_
        refine lm_m_keptText hx hb hK hP hF dX11_forget_170 (fun v17 hF => ?_)
        refine um_m_text hx hb hK hP hD hS hF dX11_forget_171 (fun u18 H locs hF hP hS => ?_)
        refine sx_iinc (d := 1) (k := 1) (lv2 := [(0, .ref (a 0))]) hx hb hF dX11_forget_172 hl rfl (by decide) (by decide) rfl (fun v19 hF ls hl => ?_)
        refine lv_goto (tgt := 153) hx hb dX11_forget_175 (by decide) ?_
        exact hi153 v19 u18 ls (lv_sub hl [1, 0] rfl) hF _ _ hP hS
  have hB127 : ∀ (n : Nat) (x1 : Int32) (u : q_St) (ls : Array Slot), lv_has ls 2 [(0, .ref (a 0)), (1, .int x1)] → q_lp (fX11_forget_b127 N) (fun _ _ => none) n x1 u = some (r0, σ0) → ∀ (H : Heap) (locs : List Loc), va_P D vwCl (am_W a cI u) H → va_S (am_A a) s.heap H locs → W p l e (headSpec (Cond.code yX11_forget cX11_forget 2 none :: q_T) ({ frames := 0, cells := 0, slots := 0, locals := 0 } : Room)).room s m ([.ref (a 0)] : List Value).toArray below meth c H locs 0 0 (MQ below (q_Qv D vwCl (am_W a cI) (am_A a) σ0) ([.ref (a 0)] : List Value).toArray s 0 0 (am_A a)) (F0 m 127 ls []) := by
    intro n
    induction n with
    | zero => intro x1 u ls hl hF; exact absurd (show (none : Option (Unit × q_St)) = some _ from hF) (fun h => nomatch h)
    | succ n hi127 =>
      intro x1 u ls hl hF _ _ hP hS
      obtain ⟨ih127, hih⟩ : ∃ q, q = q_lp (fX11_forget_b127 N) (fun _ _ => none) n := ⟨_, rfl⟩
      rw [← hih] at hi127
      have hF : fX11_forget_b127 N (q_lp (fX11_forget_b127 N) (fun _ _ => none) n) x1 u = some (r0, σ0) := hF
      rw [← hih] at hF
      clear hih
      unfold fX11_forget_b127 at hF
      refine lv_iload_n hx hb dX11_forget_127 rfl (lv_at hl 1 rfl) ?_
      refine lv_ldc (v := 68352) hx hb hown (hts _ kc_X11_52) dX11_forget_128 ?_
      refine sx_icmp_ge (tgt := 151) hx hb hF dX11_forget_130 (by decide) (fun hF => ?_) (fun hF => ?_)
      · refine lv_iconst (v := 0) hx hb dX11_forget_151 (by decide) ?_
        refine lv_istore_n (lv' := [(1, .int 0), (0, .ref (a 0))]) hx hb dX11_forget_152 rfl hl (by decide) rfl (fun ls hl => ?_)
        exact hB153 N 0 u ls (lv_sub hl [1, 0] rfl) hF _ _ hP hS
      · refine lv_aload_n hx hb dX11_forget_133 rfl (lv_at hl 0 rfl) ?_
        refine gm_m_piece hx hb hts hown hK hP fl_X11_53 dX11_forget_134 ?_
        refine lv_iload_n hx hb dX11_forget_137 rfl (lv_at hl 1 rfl) ?_
        refine lv_aload_n hx hb dX11_forget_138 rfl (lv_at hl 0 rfl) ?_
        refine gm_m_keptPiece hx hb hts hown hK hP fl_X11_101 dX11_forget_139 ?_
        refine lv_iload_n hx hb dX11_forget_142 rfl (lv_at hl 1 rfl) ?_
        refine lm_m_keptPiece hx hb hK hP hF dX11_forget_143 (fun v20 hF => ?_)
        refine um_m_piece hx hb hK hP hD hS hF dX11_forget_144 (fun u21 H locs hF hP hS => ?_)
        refine sx_iinc (d := 1) (k := 1) (lv2 := [(0, .ref (a 0))]) hx hb hF dX11_forget_145 hl rfl (by decide) (by decide) rfl (fun v22 hF ls hl => ?_)
        refine lv_goto (tgt := 127) hx hb dX11_forget_148 (by decide) ?_
        exact hi127 v22 u21 ls (lv_sub hl [1, 0] rfl) hF _ _ hP hS
  have hB100 : ∀ (n : Nat) (x1 : Int32) (u : q_St) (ls : Array Slot), lv_has ls 2 [(0, .ref (a 0)), (1, .int x1)] → q_lp (fX11_forget_b100 N) (fun _ _ => none) n x1 u = some (r0, σ0) → ∀ (H : Heap) (locs : List Loc), va_P D vwCl (am_W a cI u) H → va_S (am_A a) s.heap H locs → W p l e (headSpec (Cond.code yX11_forget cX11_forget 2 none :: q_T) ({ frames := 0, cells := 0, slots := 0, locals := 0 } : Room)).room s m ([.ref (a 0)] : List Value).toArray below meth c H locs 0 0 (MQ below (q_Qv D vwCl (am_W a cI) (am_A a) σ0) ([.ref (a 0)] : List Value).toArray s 0 0 (am_A a)) (F0 m 100 ls []) := by
    intro n
    induction n with
    | zero => intro x1 u ls hl hF; exact absurd (show (none : Option (Unit × q_St)) = some _ from hF) (fun h => nomatch h)
    | succ n hi100 =>
      intro x1 u ls hl hF _ _ hP hS
      obtain ⟨ih100, hih⟩ : ∃ q, q = q_lp (fX11_forget_b100 N) (fun _ _ => none) n := ⟨_, rfl⟩
      rw [← hih] at hi100
      have hF : fX11_forget_b100 N (q_lp (fX11_forget_b100 N) (fun _ _ => none) n) x1 u = some (r0, σ0) := hF
      rw [← hih] at hF
      clear hih
      unfold fX11_forget_b100 at hF
      refine lv_iload_n hx hb dX11_forget_100 rfl (lv_at hl 1 rfl) ?_
      refine lv_sipush (v := 2176) hx hb dX11_forget_101 (by decide) ?_
      refine sx_icmp_ge (tgt := 125) hx hb hF dX11_forget_104 (by decide) (fun hF => ?_) (fun hF => ?_)
      · refine lv_iconst (v := 0) hx hb dX11_forget_125 (by decide) ?_
        refine lv_istore_n (lv' := [(1, .int 0), (0, .ref (a 0))]) hx hb dX11_forget_126 rfl hl (by decide) rfl (fun ls hl => ?_)
        exact hB127 N 0 u ls (lv_sub hl [1, 0] rfl) hF _ _ hP hS
      · refine lv_aload_n hx hb dX11_forget_107 rfl (lv_at hl 0 rfl) ?_
        refine gm_m_index hx hb hts hown hK hP fl_X11_56 dX11_forget_108 ?_
        refine lv_iload_n hx hb dX11_forget_111 rfl (lv_at hl 1 rfl) ?_
        refine lv_aload_n hx hb dX11_forget_112 rfl (lv_at hl 0 rfl) ?_
        refine gm_m_keptIndex hx hb hts hown hK hP fl_X11_104 dX11_forget_113 ?_
        refine lv_iload_n hx hb dX11_forget_116 rfl (lv_at hl 1 rfl) ?_
        refine lm_m_keptIndex hx hb hK hP hF dX11_forget_117 (fun v23 hF => ?_)
        refine um_m_index hx hb hK hP hD hS hF dX11_forget_118 (fun u24 H locs hF hP hS => ?_)
        refine sx_iinc (d := 1) (k := 1) (lv2 := [(0, .ref (a 0))]) hx hb hF dX11_forget_119 hl rfl (by decide) (by decide) rfl (fun v25 hF ls hl => ?_)
        refine lv_goto (tgt := 100) hx hb dX11_forget_122 (by decide) ?_
        exact hi100 v25 u24 ls (lv_sub hl [1, 0] rfl) hF _ _ hP hS
  have hB2 : ∀ (n : Nat) (x1 : Int32) (u : q_St) (ls : Array Slot), lv_has ls 2 [(0, .ref (a 0)), (1, .int x1)] → q_lp (fX11_forget_b2 N) (fun _ _ => none) n x1 u = some (r0, σ0) → ∀ (H : Heap) (locs : List Loc), va_P D vwCl (am_W a cI u) H → va_S (am_A a) s.heap H locs → W p l e (headSpec (Cond.code yX11_forget cX11_forget 2 none :: q_T) ({ frames := 0, cells := 0, slots := 0, locals := 0 } : Room)).room s m ([.ref (a 0)] : List Value).toArray below meth c H locs 0 0 (MQ below (q_Qv D vwCl (am_W a cI) (am_A a) σ0) ([.ref (a 0)] : List Value).toArray s 0 0 (am_A a)) (F0 m 2 ls []) := by
    intro n
    induction n with
    | zero => intro x1 u ls hl hF; exact absurd (show (none : Option (Unit × q_St)) = some _ from hF) (fun h => nomatch h)
    | succ n hi2 =>
      intro x1 u ls hl hF _ _ hP hS
      obtain ⟨ih2, hih⟩ : ∃ q, q = q_lp (fX11_forget_b2 N) (fun _ _ => none) n := ⟨_, rfl⟩
      rw [← hih] at hi2
      have hF : fX11_forget_b2 N (q_lp (fX11_forget_b2 N) (fun _ _ => none) n) x1 u = some (r0, σ0) := hF
      rw [← hih] at hF
      clear hih
      unfold fX11_forget_b2 at hF
      refine lv_iload_n hx hb dX11_forget_2 rfl (lv_at hl 1 rfl) ?_
      refine lv_bipush (v := 64) hx hb dX11_forget_3 (by decide) ?_
      refine sx_icmp_ge (tgt := 98) hx hb hF dX11_forget_5 (by decide) (fun hF => ?_) (fun hF => ?_)
      · refine lv_iconst (v := 0) hx hb dX11_forget_98 (by decide) ?_
        refine lv_istore_n (lv' := [(1, .int 0), (0, .ref (a 0))]) hx hb dX11_forget_99 rfl hl (by decide) rfl (fun ls hl => ?_)
        exact hB100 N 0 u ls (lv_sub hl [1, 0] rfl) hF _ _ hP hS
      · refine lv_aload_n hx hb dX11_forget_8 rfl (lv_at hl 0 rfl) ?_
        refine gm_m_kind hx hb hts hown hK hP fl_X11_40 dX11_forget_9 ?_
        refine lv_iload_n hx hb dX11_forget_12 rfl (lv_at hl 1 rfl) ?_
        refine lv_aload_n hx hb dX11_forget_13 rfl (lv_at hl 0 rfl) ?_
        refine gm_m_keptKind hx hb hts hown hK hP fl_X11_89 dX11_forget_14 ?_
        refine lv_iload_n hx hb dX11_forget_17 rfl (lv_at hl 1 rfl) ?_
        refine lm_m_keptKind hx hb hK hP hF dX11_forget_18 (fun v26 hF => ?_)
        refine um_m_kind hx hb hK hP hD hS hF dX11_forget_19 (fun u27 H locs hF hP hS => ?_)
        refine lv_aload_n hx hb dX11_forget_20 rfl (lv_at hl 0 rfl) ?_
        refine gm_m_size hx hb hts hown hK hP fl_X11_43 dX11_forget_21 ?_
        refine lv_iload_n hx hb dX11_forget_24 rfl (lv_at hl 1 rfl) ?_
        refine lv_aload_n hx hb dX11_forget_25 rfl (lv_at hl 0 rfl) ?_
        refine gm_m_keptSize hx hb hts hown hK hP fl_X11_92 dX11_forget_26 ?_
        refine lv_iload_n hx hb dX11_forget_29 rfl (lv_at hl 1 rfl) ?_
        refine lm_m_keptSize hx hb hK hP hF dX11_forget_30 (fun v28 hF => ?_)
        refine um_m_size hx hb hK hP hD hS hF dX11_forget_31 (fun u29 H locs hF hP hS => ?_)
        refine lv_aload_n hx hb dX11_forget_32 rfl (lv_at hl 0 rfl) ?_
        refine gm_m_parent hx hb hts hown hK hP fl_X11_46 dX11_forget_33 ?_
        refine lv_iload_n hx hb dX11_forget_36 rfl (lv_at hl 1 rfl) ?_
        refine lv_aload_n hx hb dX11_forget_37 rfl (lv_at hl 0 rfl) ?_
        refine gm_m_keptParent hx hb hts hown hK hP fl_X11_95 dX11_forget_38 ?_
        refine lv_iload_n hx hb dX11_forget_41 rfl (lv_at hl 1 rfl) ?_
        refine lm_m_keptParent hx hb hK hP hF dX11_forget_42 (fun v30 hF => ?_)
        refine um_m_parent hx hb hK hP hD hS hF dX11_forget_43 (fun u31 H locs hF hP hS => ?_)
        refine lv_aload_n hx hb dX11_forget_44 rfl (lv_at hl 0 rfl) ?_
        refine gm_m_many hx hb hts hown hK hP fl_X11_49 dX11_forget_45 ?_
        refine lv_iload_n hx hb dX11_forget_48 rfl (lv_at hl 1 rfl) ?_
        refine lv_aload_n hx hb dX11_forget_49 rfl (lv_at hl 0 rfl) ?_
        refine gm_m_keptMany hx hb hts hown hK hP fl_X11_98 dX11_forget_50 ?_
        refine lv_iload_n hx hb dX11_forget_53 rfl (lv_at hl 1 rfl) ?_
        refine lm_m_keptMany hx hb hK hP hF dX11_forget_54 (fun v32 hF => ?_)
        refine um_m_many hx hb hK hP hD hS hF dX11_forget_55 (fun u33 H locs hF hP hS => ?_)
        refine lv_aload_n hx hb dX11_forget_56 rfl (lv_at hl 0 rfl) ?_
        refine gm_m_owner hx hb hts hown hK hP fl_X11_59 dX11_forget_57 ?_
        refine lv_iload_n hx hb dX11_forget_60 rfl (lv_at hl 1 rfl) ?_
        refine lv_aload_n hx hb dX11_forget_61 rfl (lv_at hl 0 rfl) ?_
        refine gm_m_keptOwner hx hb hts hown hK hP fl_X11_107 dX11_forget_62 ?_
        refine lv_iload_n hx hb dX11_forget_65 rfl (lv_at hl 1 rfl) ?_
        refine lm_m_keptOwner hx hb hK hP hF dX11_forget_66 (fun v34 hF => ?_)
        refine um_m_owner hx hb hK hP hD hS hF dX11_forget_67 (fun u35 H locs hF hP hS => ?_)
        refine lv_aload_n hx hb dX11_forget_68 rfl (lv_at hl 0 rfl) ?_
        refine gm_m_bits hx hb hts hown hK hP fl_X11_62 dX11_forget_69 ?_
        refine lv_iload_n hx hb dX11_forget_72 rfl (lv_at hl 1 rfl) ?_
        refine lv_aload_n hx hb dX11_forget_73 rfl (lv_at hl 0 rfl) ?_
        refine gm_m_keptBits hx hb hts hown hK hP fl_X11_110 dX11_forget_74 ?_
        refine lv_iload_n hx hb dX11_forget_77 rfl (lv_at hl 1 rfl) ?_
        refine lm_m_keptBits hx hb hK hP hF dX11_forget_78 (fun v36 hF => ?_)
        refine um_m_bits hx hb hK hP hD hS hF dX11_forget_79 (fun u37 H locs hF hP hS => ?_)
        refine lv_aload_n hx hb dX11_forget_80 rfl (lv_at hl 0 rfl) ?_
        refine gm_m_links hx hb hts hown hK hP fl_X11_75 dX11_forget_81 ?_
        refine lv_iload_n hx hb dX11_forget_84 rfl (lv_at hl 1 rfl) ?_
        refine lv_aload_n hx hb dX11_forget_85 rfl (lv_at hl 0 rfl) ?_
        refine gm_m_keptLinks hx hb hts hown hK hP fl_X11_122 dX11_forget_86 ?_
        refine lv_iload_n hx hb dX11_forget_89 rfl (lv_at hl 1 rfl) ?_
        refine lm_m_keptLinks hx hb hK hP hF dX11_forget_90 (fun v38 hF => ?_)
        refine um_m_links hx hb hK hP hD hS hF dX11_forget_91 (fun u39 H locs hF hP hS => ?_)
        refine sx_iinc (d := 1) (k := 1) (lv2 := [(0, .ref (a 0))]) hx hb hF dX11_forget_92 hl rfl (by decide) (by decide) rfl (fun v40 hF ls hl => ?_)
        refine lv_goto (tgt := 2) hx hb dX11_forget_95 (by decide) ?_
        exact hi2 v40 u39 ls (lv_sub hl [1, 0] rfl) hF _ _ hP hS
  unfold fX11_forget at hF
  refine lv_iconst (v := 0) hx hb dX11_forget_0 (by decide) ?_
  refine lv_istore_n (lv' := [(1, .int 0), (0, .ref (a 0))]) hx hb dX11_forget_1 rfl hl (by decide) rfl (fun ls hl => ?_)
  exact hB2 N 0 u ls (lv_sub hl [1, 0] rfl) hF _ _ hP hS
set_option maxHeartbeats 4000000 in
set_option maxRecDepth 100000 in
theorem kt_X11_fill {N : Nat} {l : Launch} {D : va_G} {a : Nat → Nat} {cI : Nat → ClassId} (hD : ∀ σ, va_D (am_A a) (am_W a cI σ))  {u σ0 : q_St} {r0 : Int32} (hF : fX11_fill N u = some (r0, σ0)) : Met l yX11_fill (Cond.code yX11_fill cX11_fill 3 (some .boolean) :: q_T) ({ frames := 2, cells := 0, slots := 0, locals := 46 } : Room) (q_P D vwCl (am_T cI) (am_W a cI) [.ref (a 0)] u) (q_Qi D vwCl (am_W a cI) (am_A a) r0 σ0) 0 0 (am_A a) := by
  refine Met.ofW (cc := cX11_fill) (maxL := 3) (ret := (some .boolean)) (by decide) rfl ?_
  intro p e s m args below meth c s₁ B hml hv
  obtain ⟨rfl, hP, hK⟩ := hv
  have hx := B.exec
  have hb := B.bytes
  have hr := B.returns
  have hts := q_ts (atoms_spec (ws := Cond.code yX11_fill cX11_fill 3 (some .boolean) :: q_T) B.pre)
  have hown : s.vm.findClass RX11 = some m.cls := findClass_of_methodNamed B.named
  have hlocks := B.notSynchronized
  have hS : va_S (am_A a) s.heap s.heap [] := va_S.rf
  have hl := lv_entry ([.ref (a 0)]) (n := 3) (Nat.le_of_ble_eq_true rfl)
  rw [lg_entry_eq]
  generalize (lg_sl ([.ref (a 0)]) ++ List.replicate (3 - (lg_sl ([.ref (a 0)])).length) Slot.unset).toArray = ls at hl ⊢
  have hl : lv_has ls 3 [(0, .ref (a 0))] := hl
  have hB12 : ∀ (ih2 : Int32 → q_St → Option (Int32 × q_St)) (hi2 : ∀ (x1 : Int32) (u : q_St) (ls : Array Slot), lv_has ls 3 [(0, .ref (a 0)), (1, .int x1)] → ih2 x1 u = some (r0, σ0) → ∀ (H : Heap) (locs : List Loc), va_P D vwCl (am_W a cI u) H → va_S (am_A a) s.heap H locs → W p l e (headSpec (Cond.code yX11_fill cX11_fill 3 (some .boolean) :: q_T) ({ frames := 2, cells := 0, slots := 0, locals := 46 } : Room)).room s m ([.ref (a 0)] : List Value).toArray below meth c H locs 0 0 (MQ below (q_Qi D vwCl (am_W a cI) (am_A a) r0 σ0) ([.ref (a 0)] : List Value).toArray s 0 0 (am_A a)) (F0 m 2 ls [])), ∀ (n : Nat) (x1 : Int32) (x2 : Int32) (u : q_St) (ls : Array Slot), lv_has ls 3 [(0, .ref (a 0)), (1, .int x1), (2, .int x2)] → q_lp (fX11_fill_b12 N ih2) (fun _ _ _ => none) n x1 x2 u = some (r0, σ0) → ∀ (H : Heap) (locs : List Loc), va_P D vwCl (am_W a cI u) H → va_S (am_A a) s.heap H locs → W p l e (headSpec (Cond.code yX11_fill cX11_fill 3 (some .boolean) :: q_T) ({ frames := 2, cells := 0, slots := 0, locals := 46 } : Room)).room s m ([.ref (a 0)] : List Value).toArray below meth c H locs 0 0 (MQ below (q_Qi D vwCl (am_W a cI) (am_A a) r0 σ0) ([.ref (a 0)] : List Value).toArray s 0 0 (am_A a)) (F0 m 12 ls []) := by
    intro ih2 hi2 n
    induction n with
    | zero => intro x1 x2 u ls hl hF; exact absurd (show (none : Option (Int32 × q_St)) = some _ from hF) (fun h => nomatch h)
    | succ n hi12 =>
      intro x1 x2 u ls hl hF _ _ hP hS
      obtain ⟨ih12, hih⟩ : ∃ q, q = q_lp (fX11_fill_b12 N ih2) (fun _ _ _ => none) n := ⟨_, rfl⟩
      rw [← hih] at hi12
      have hF : fX11_fill_b12 N ih2 (q_lp (fX11_fill_b12 N ih2) (fun _ _ _ => none) n) x1 x2 u = some (r0, σ0) := hF
      rw [← hih] at hF
      clear hih
      unfold fX11_fill_b12 at hF
      refine lv_iload_n hx hb dX11_fill_12 rfl (lv_at hl 2 rfl) ?_
      refine lv_bipush (v := 8) hx hb dX11_fill_13 (by decide) ?_
      refine sx_icmp_ge (tgt := 39) hx hb hF dX11_fill_15 (by decide) (fun hF => ?_) (fun hF => ?_)
      · refine sx_iinc (d := 1) (k := 1) (lv2 := [(0, .ref (a 0)), (2, .int x2)]) hx hb hF dX11_fill_39 hl rfl (by decide) (by decide) rfl (fun v9 hF ls hl => ?_)
        refine lv_goto (tgt := 2) hx hb dX11_fill_42 (by decide) ?_
        exact hi2 v9 u ls (lv_sub hl [1, 0] rfl) hF _ _ hP hS
      · refine lv_aload_n hx hb dX11_fill_18 rfl (lv_at hl 0 rfl) ?_
        refine lv_aload_n hx hb dX11_fill_19 rfl (lv_at hl 0 rfl) ?_
        refine gm_m_streamed hx hb hts hown hK hP fl_X11_37 dX11_fill_20 ?_
        refine lv_iload_n hx hb dX11_fill_23 rfl (lv_at hl 1 rfl) ?_
        refine lv_iload_n hx hb dX11_fill_24 rfl (lv_at hl 2 rfl) ?_
        obtain ⟨r10, u11, hc12, hF⟩ := q_bnd_some hF
        refine sx_ci (Wd := (am_W a cI)) (σ1 := u11) (q_runV (Wd := (am_W a cI)) (σ := u) (q0 := 0) (ci := 11) (T := TX11) (N := 72) (As := [.int (q_i u 24), .int x1, .int x2]) (rest := []) hx hb hml hown hts hK hP (kt_X11_writeBand hD hc12) cw_X11_245 rfl rfl ⟨Nat.le_of_ble_eq_true rfl, Nat.le_of_ble_eq_true rfl⟩ rfl rfl rfl hl.1 rfl (Nat.le_of_ble_eq_true rfl) dX11_fill_25) hS (fun H locs hP hS => ?_)
        refine sx_if_ne (tgt := 33) hx hb hF dX11_fill_28 (by decide) (fun hF => ?_) (fun hF => ?_)
        · refine sx_iinc (d := 1) (k := 2) (lv2 := [(0, .ref (a 0)), (1, .int x1)]) hx hb hF dX11_fill_33 hl rfl (by decide) (by decide) rfl (fun v13 hF ls hl => ?_)
          refine lv_goto (tgt := 12) hx hb dX11_fill_36 (by decide) ?_
          exact hi12 x1 v13 u11 ls (lv_sub hl [1, 2, 0] rfl) hF _ _ hP hS
        · refine lv_iconst (v := 0) hx hb dX11_fill_31 (by decide) ?_
          exact sx_retz (Wd := (am_W a cI)) (σ := u11) hx hb hr (by decide) hF hP hS hlocks dX11_fill_32
  have hB2 : ∀ (n : Nat) (x1 : Int32) (u : q_St) (ls : Array Slot), lv_has ls 3 [(0, .ref (a 0)), (1, .int x1)] → q_lp (fX11_fill_b2 N) (fun _ _ => none) n x1 u = some (r0, σ0) → ∀ (H : Heap) (locs : List Loc), va_P D vwCl (am_W a cI u) H → va_S (am_A a) s.heap H locs → W p l e (headSpec (Cond.code yX11_fill cX11_fill 3 (some .boolean) :: q_T) ({ frames := 2, cells := 0, slots := 0, locals := 46 } : Room)).room s m ([.ref (a 0)] : List Value).toArray below meth c H locs 0 0 (MQ below (q_Qi D vwCl (am_W a cI) (am_A a) r0 σ0) ([.ref (a 0)] : List Value).toArray s 0 0 (am_A a)) (F0 m 2 ls []) := by
    intro n
    induction n with
    | zero => intro x1 u ls hl hF; exact absurd (show (none : Option (Int32 × q_St)) = some _ from hF) (fun h => nomatch h)
    | succ n hi2 =>
      intro x1 u ls hl hF _ _ hP hS
      obtain ⟨ih2, hih⟩ : ∃ q, q = q_lp (fX11_fill_b2 N) (fun _ _ => none) n := ⟨_, rfl⟩
      rw [← hih] at hi2
      have hF : fX11_fill_b2 N (q_lp (fX11_fill_b2 N) (fun _ _ => none) n) x1 u = some (r0, σ0) := hF
      rw [← hih] at hF
      clear hih
      unfold fX11_fill_b2 at hF
      refine lv_iload_n hx hb dX11_fill_2 rfl (lv_at hl 1 rfl) ?_
      refine lv_aload_n hx hb dX11_fill_3 rfl (lv_at hl 0 rfl) ?_
      refine gm_m_tracks hx hb hts hown hK hP fl_X11_156 dX11_fill_4 ?_
      refine sx_icmp_ge (tgt := 45) hx hb hF dX11_fill_7 (by decide) (fun hF => ?_) (fun hF => ?_)
      · refine lv_aload_n hx hb dX11_fill_45 rfl (lv_at hl 0 rfl) ?_
        obtain ⟨r1, u2, hc3, hF⟩ := q_bnd_some hF
        refine sx_ci (Wd := (am_W a cI)) (σ1 := u2) (q_runV (Wd := (am_W a cI)) (σ := u) (q0 := 0) (ci := 11) (T := TX11) (N := 72) (As := []) (rest := []) hx hb hml hown hts hK hP (kt_X11_record hD hc3) cw_X11_226 rfl rfl ⟨Nat.le_of_ble_eq_true rfl, Nat.le_of_ble_eq_true rfl⟩ rfl rfl rfl hl.1 rfl (Nat.le_of_ble_eq_true rfl) dX11_fill_46) hS (fun H locs hP hS => ?_)
        refine sx_if_ne (tgt := 54) hx hb hF dX11_fill_49 (by decide) (fun hF => ?_) (fun hF => ?_)
        · refine lv_aload_n hx hb dX11_fill_54 rfl (lv_at hl 0 rfl) ?_
          refine lv_iconst (v := (-1)) hx hb dX11_fill_55 (by decide) ?_
          refine pm_m_streamed hx hb hts hown hK hP fl_X11_37 hD hS hF dX11_fill_56 (fun u4 H locs hF hP hS => ?_)
          refine lv_aload_n hx hb dX11_fill_59 rfl (lv_at hl 0 rfl) ?_
          refine lv_aload_n hx hb dX11_fill_60 rfl (lv_at hl 0 rfl) ?_
          obtain ⟨r5, u6, hc7, hF⟩ := q_bnd_some hF
          refine sx_ci (Wd := (am_W a cI)) (σ1 := u6) (q_runV (Wd := (am_W a cI)) (σ := u4) (q0 := 0) (ci := 11) (T := TX11) (N := 72) (As := []) (rest := [.ref (a 0)]) hx hb hml hown hts hK hP (kt_X11_oldest hD hc7) cw_X11_216 rfl rfl ⟨Nat.le_of_ble_eq_true rfl, Nat.le_of_ble_eq_true rfl⟩ rfl rfl rfl hl.1 rfl (Nat.le_of_ble_eq_true rfl) dX11_fill_61) hS (fun H locs hP hS => ?_)
          refine pm_m_tail hx hb hts hown hK hP fl_X11_202 hD hS hF dX11_fill_64 (fun u8 H locs hF hP hS => ?_)
          refine lv_iconst (v := 1) hx hb dX11_fill_67 (by decide) ?_
          exact sx_retz (Wd := (am_W a cI)) (σ := u8) hx hb hr (by decide) hF hP hS hlocks dX11_fill_68
        · refine lv_iconst (v := 0) hx hb dX11_fill_52 (by decide) ?_
          exact sx_retz (Wd := (am_W a cI)) (σ := u2) hx hb hr (by decide) hF hP hS hlocks dX11_fill_53
      · refine lv_iconst (v := 0) hx hb dX11_fill_10 (by decide) ?_
        refine lv_istore_n (lv' := [(2, .int 0), (0, .ref (a 0)), (1, .int x1)]) hx hb dX11_fill_11 rfl hl (by decide) rfl (fun ls hl => ?_)
        exact hB12 ih2 hi2 N x1 0 u ls (lv_sub hl [1, 2, 0] rfl) hF _ _ hP hS
  unfold fX11_fill at hF
  refine lv_iconst (v := 0) hx hb dX11_fill_0 (by decide) ?_
  refine lv_istore_n (lv' := [(1, .int 0), (0, .ref (a 0))]) hx hb dX11_fill_1 rfl hl (by decide) rfl (fun ls hl => ?_)
  exact hB2 N 0 u ls (lv_sub hl [1, 0] rfl) hF _ _ hP hS
set_option maxHeartbeats 4000000 in
set_option maxRecDepth 100000 in
theorem kt_X11_recovers {N : Nat} {l : Launch} {D : va_G} {a : Nat → Nat} {cI : Nat → ClassId} (hD : ∀ σ, va_D (am_A a) (am_W a cI σ))  {u σ0 : q_St} {r0 : Int32} (hF : fX11_recovers N u = some (r0, σ0)) : Met l yX11_recovers (Cond.code yX11_recovers cX11_recovers 1 (some .boolean) :: q_T) ({ frames := 7, cells := 0, slots := 0, locals := 154 } : Room) (q_P D vwCl (am_T cI) (am_W a cI) [.ref (a 0)] u) (q_Qi D vwCl (am_W a cI) (am_A a) r0 σ0) 0 0 (am_A a) := by
  refine Met.ofW (cc := cX11_recovers) (maxL := 1) (ret := (some .boolean)) (by decide) rfl ?_
  intro p e s m args below meth c s₁ B hml hv
  obtain ⟨rfl, hP, hK⟩ := hv
  have hx := B.exec
  have hb := B.bytes
  have hr := B.returns
  have hts := q_ts (atoms_spec (ws := Cond.code yX11_recovers cX11_recovers 1 (some .boolean) :: q_T) B.pre)
  have hown : s.vm.findClass RX11 = some m.cls := findClass_of_methodNamed B.named
  have hlocks := B.notSynchronized
  have hS : va_S (am_A a) s.heap s.heap [] := va_S.rf
  have hl := lv_entry ([.ref (a 0)]) (n := 1) (Nat.le_of_ble_eq_true rfl)
  rw [lg_entry_eq]
  generalize (lg_sl ([.ref (a 0)]) ++ List.replicate (1 - (lg_sl ([.ref (a 0)])).length) Slot.unset).toArray = ls at hl ⊢
  have hl : lv_has ls 1 [(0, .ref (a 0))] := hl
  have hB88 : ∀ (u : q_St) (ls : Array Slot), lv_has ls 1 [] → fX11_recovers_b88 N u = some (r0, σ0) → ∀ (H : Heap) (locs : List Loc), va_P D vwCl (am_W a cI u) H → va_S (am_A a) s.heap H locs → W p l e (headSpec (Cond.code yX11_recovers cX11_recovers 1 (some .boolean) :: q_T) ({ frames := 7, cells := 0, slots := 0, locals := 154 } : Room)).room s m ([.ref (a 0)] : List Value).toArray below meth c H locs 0 0 (MQ below (q_Qi D vwCl (am_W a cI) (am_A a) r0 σ0) ([.ref (a 0)] : List Value).toArray s 0 0 (am_A a)) (F0 m 88 ls []) := by
    intro u ls hl hF _ _ hP hS
    unfold fX11_recovers_b88 at hF
    refine lv_iconst (v := 1) hx hb dX11_recovers_88 (by decide) ?_
    refine lv_goto (tgt := 93) hx hb dX11_recovers_89 (by decide) ?_
    exact sx_retz (Wd := (am_W a cI)) (σ := u) hx hb hr (by decide) hF hP hS hlocks dX11_recovers_93
  have hB74 : ∀ (u : q_St) (ls : Array Slot), lv_has ls 1 [(0, .ref (a 0))] → fX11_recovers_b74 N u = some (r0, σ0) → ∀ (H : Heap) (locs : List Loc), va_P D vwCl (am_W a cI u) H → va_S (am_A a) s.heap H locs → W p l e (headSpec (Cond.code yX11_recovers cX11_recovers 1 (some .boolean) :: q_T) ({ frames := 7, cells := 0, slots := 0, locals := 154 } : Room)).room s m ([.ref (a 0)] : List Value).toArray below meth c H locs 0 0 (MQ below (q_Qi D vwCl (am_W a cI) (am_A a) r0 σ0) ([.ref (a 0)] : List Value).toArray s 0 0 (am_A a)) (F0 m 74 ls []) := by
    intro u ls hl hF _ _ hP hS
    unfold fX11_recovers_b74 at hF
    refine lv_aload_n hx hb dX11_recovers_74 rfl (lv_at hl 0 rfl) ?_
    refine gm_m_tells hx hb hts hown hK hP fl_X11_273 dX11_recovers_75 ?_
    refine sx_if_eq (tgt := 88) hx hb hF dX11_recovers_78 (by decide) (fun hF => ?_) (fun hF => ?_)
    · exact hB88 u ls (lv_sub hl [] rfl) hF _ _ hP hS
    · refine lv_aload_n hx hb dX11_recovers_81 rfl (lv_at hl 0 rfl) ?_
      obtain ⟨r1, u2, hc3, hF⟩ := q_bnd_some hF
      refine sx_ci (Wd := (am_W a cI)) (σ1 := u2) (q_runV (Wd := (am_W a cI)) (σ := u) (q0 := 0) (ci := 11) (T := TX11) (N := 72) (As := []) (rest := []) hx hb hml hown hts hK hP (kt_X11_bringHome hD hc3) cw_X11_282 rfl rfl ⟨Nat.le_of_ble_eq_true rfl, Nat.le_of_ble_eq_true rfl⟩ rfl rfl rfl hl.1 rfl (Nat.le_of_ble_eq_true rfl) dX11_recovers_82) hS (fun H locs hP hS => ?_)
      refine sx_if_eq (tgt := 92) hx hb hF dX11_recovers_85 (by decide) (fun hF => ?_) (fun hF => ?_)
      · refine lv_iconst (v := 0) hx hb dX11_recovers_92 (by decide) ?_
        exact sx_retz (Wd := (am_W a cI)) (σ := u2) hx hb hr (by decide) hF hP hS hlocks dX11_recovers_93
      · exact hB88 u2 ls (lv_sub hl [] rfl) hF _ _ hP hS
  have hB57 : ∀ (u : q_St) (ls : Array Slot), lv_has ls 1 [(0, .ref (a 0))] → fX11_recovers_b57 N u = some (r0, σ0) → ∀ (H : Heap) (locs : List Loc), va_P D vwCl (am_W a cI u) H → va_S (am_A a) s.heap H locs → W p l e (headSpec (Cond.code yX11_recovers cX11_recovers 1 (some .boolean) :: q_T) ({ frames := 7, cells := 0, slots := 0, locals := 154 } : Room)).room s m ([.ref (a 0)] : List Value).toArray below meth c H locs 0 0 (MQ below (q_Qi D vwCl (am_W a cI) (am_A a) r0 σ0) ([.ref (a 0)] : List Value).toArray s 0 0 (am_A a)) (F0 m 57 ls []) := by
    intro u ls hl hF _ _ hP hS
    unfold fX11_recovers_b57 at hF
    refine lv_aload_n hx hb dX11_recovers_57 rfl (lv_at hl 0 rfl) ?_
    refine gm_m_streamed hx hb hts hown hK hP fl_X11_37 dX11_recovers_58 ?_
    refine lv_iconst (v := (-1)) hx hb dX11_recovers_61 (by decide) ?_
    refine sx_icmp_eq (tgt := 74) hx hb hF dX11_recovers_62 (by decide) (fun hF => ?_) (fun hF => ?_)
    · exact hB74 u ls (lv_sub hl [0] rfl) hF _ _ hP hS
    · refine lv_aload_n hx hb dX11_recovers_65 rfl (lv_at hl 0 rfl) ?_
      obtain ⟨r4, u5, hc6, hF⟩ := q_bnd_some hF
      refine sx_ci (Wd := (am_W a cI)) (σ1 := u5) (q_runV (Wd := (am_W a cI)) (σ := u) (q0 := 0) (ci := 11) (T := TX11) (N := 72) (As := []) (rest := []) hx hb hml hown hts hK hP (kt_X11_fill hD hc6) cw_X11_264 rfl rfl ⟨Nat.le_of_ble_eq_true rfl, Nat.le_of_ble_eq_true rfl⟩ rfl rfl rfl hl.1 rfl (Nat.le_of_ble_eq_true rfl) dX11_recovers_66) hS (fun H locs hP hS => ?_)
      refine sx_if_ne (tgt := 74) hx hb hF dX11_recovers_69 (by decide) (fun hF => ?_) (fun hF => ?_)
      · exact hB74 u5 ls (lv_sub hl [0] rfl) hF _ _ hP hS
      · refine lv_iconst (v := 0) hx hb dX11_recovers_72 (by decide) ?_
        exact sx_retz (Wd := (am_W a cI)) (σ := u5) hx hb hr (by decide) hF hP hS hlocks dX11_recovers_73
  have hB38 : ∀ (n : Nat) (u : q_St) (ls : Array Slot), lv_has ls 1 [(0, .ref (a 0))] → q_lp (fX11_recovers_b38 N) (fun _ => none) n u = some (r0, σ0) → ∀ (H : Heap) (locs : List Loc), va_P D vwCl (am_W a cI u) H → va_S (am_A a) s.heap H locs → W p l e (headSpec (Cond.code yX11_recovers cX11_recovers 1 (some .boolean) :: q_T) ({ frames := 7, cells := 0, slots := 0, locals := 154 } : Room)).room s m ([.ref (a 0)] : List Value).toArray below meth c H locs 0 0 (MQ below (q_Qi D vwCl (am_W a cI) (am_A a) r0 σ0) ([.ref (a 0)] : List Value).toArray s 0 0 (am_A a)) (F0 m 38 ls []) := by
    intro n
    induction n with
    | zero => intro u ls hl hF; exact absurd (show (none : Option (Int32 × q_St)) = some _ from hF) (fun h => nomatch h)
    | succ n hi38 =>
      intro u ls hl hF _ _ hP hS
      obtain ⟨ih38, hih⟩ : ∃ q, q = q_lp (fX11_recovers_b38 N) (fun _ => none) n := ⟨_, rfl⟩
      rw [← hih] at hi38
      have hF : fX11_recovers_b38 N (q_lp (fX11_recovers_b38 N) (fun _ => none) n) u = some (r0, σ0) := hF
      rw [← hih] at hF
      clear hih
      unfold fX11_recovers_b38 at hF
      refine lv_aload_n hx hb dX11_recovers_38 rfl (lv_at hl 0 rfl) ?_
      refine gm_m_band hx hb hts hown hK hP fl_X11_34 dX11_recovers_39 ?_
      refine lv_iconst (v := (-1)) hx hb dX11_recovers_42 (by decide) ?_
      refine sx_icmp_eq (tgt := 57) hx hb hF dX11_recovers_43 (by decide) (fun hF => ?_) (fun hF => ?_)
      · exact hB57 u ls (lv_sub hl [0] rfl) hF _ _ hP hS
      · refine lv_aload_n hx hb dX11_recovers_46 rfl (lv_at hl 0 rfl) ?_
        obtain ⟨r9, u10, hc11, hF⟩ := q_bnd_some hF
        refine sx_ci (Wd := (am_W a cI)) (σ1 := u10) (q_runV (Wd := (am_W a cI)) (σ := u) (q0 := 0) (ci := 11) (T := TX11) (N := 72) (As := []) (rest := []) hx hb hml hown hts hK hP (kt_X11_step hD hc11) cw_X11_258 rfl rfl ⟨Nat.le_of_ble_eq_true rfl, Nat.le_of_ble_eq_true rfl⟩ rfl rfl rfl hl.1 rfl (Nat.le_of_ble_eq_true rfl) dX11_recovers_47) hS (fun H locs hP hS => ?_)
        refine lv_bipush (v := (-99)) hx hb dX11_recovers_50 (by decide) ?_
        refine sx_icmp_ne (tgt := 38) hx hb hF dX11_recovers_52 (by decide) (fun hF => ?_) (fun hF => ?_)
        · exact hi38 u10 ls (lv_sub hl [0] rfl) hF _ _ hP hS
        · refine lv_iconst (v := 0) hx hb dX11_recovers_55 (by decide) ?_
          exact sx_retz (Wd := (am_W a cI)) (σ := u10) hx hb hr (by decide) hF hP hS hlocks dX11_recovers_56
  have hB20 : ∀ (u : q_St) (ls : Array Slot), lv_has ls 1 [(0, .ref (a 0))] → fX11_recovers_b20 N u = some (r0, σ0) → ∀ (H : Heap) (locs : List Loc), va_P D vwCl (am_W a cI u) H → va_S (am_A a) s.heap H locs → W p l e (headSpec (Cond.code yX11_recovers cX11_recovers 1 (some .boolean) :: q_T) ({ frames := 7, cells := 0, slots := 0, locals := 154 } : Room)).room s m ([.ref (a 0)] : List Value).toArray below meth c H locs 0 0 (MQ below (q_Qi D vwCl (am_W a cI) (am_A a) r0 σ0) ([.ref (a 0)] : List Value).toArray s 0 0 (am_A a)) (F0 m 20 ls []) := by
    intro u ls hl hF _ _ hP hS
    unfold fX11_recovers_b20 at hF
    refine lv_aload_n hx hb dX11_recovers_20 rfl (lv_at hl 0 rfl) ?_
    refine gm_m_band hx hb hts hown hK hP fl_X11_34 dX11_recovers_21 ?_
    refine lv_iconst (v := (-1)) hx hb dX11_recovers_24 (by decide) ?_
    refine sx_icmp_eq (tgt := 57) hx hb hF dX11_recovers_25 (by decide) (fun hF => ?_) (fun hF => ?_)
    · exact hB57 u ls (lv_sub hl [0] rfl) hF _ _ hP hS
    · refine lv_aload_n hx hb dX11_recovers_28 rfl (lv_at hl 0 rfl) ?_
      refine lv_iconst (v := 5) hx hb dX11_recovers_29 (by decide) ?_
      refine pm_m_work hx hb hts hown hK hP fl_X11_213 hD hS hF dX11_recovers_30 (fun u7 H locs hF hP hS => ?_)
      refine lv_aload_n hx hb dX11_recovers_33 rfl (lv_at hl 0 rfl) ?_
      refine lv_iconst (v := 0) hx hb dX11_recovers_34 (by decide) ?_
      refine pm_m_track hx hb hts hown hK hP fl_X11_232 hD hS hF dX11_recovers_35 (fun u8 H locs hF hP hS => ?_)
      exact hB38 N u8 ls (lv_sub hl [0] rfl) hF _ _ hP hS
  unfold fX11_recovers at hF
  refine lv_aload_n hx hb dX11_recovers_0 rfl (lv_at hl 0 rfl) ?_
  refine gm_m_band hx hb hts hown hK hP fl_X11_34 dX11_recovers_1 ?_
  refine lv_iconst (v := (-1)) hx hb dX11_recovers_4 (by decide) ?_
  refine sx_icmp_eq (tgt := 20) hx hb hF dX11_recovers_5 (by decide) (fun hF => ?_) (fun hF => ?_)
  · exact hB20 u ls (lv_sub hl [0] rfl) hF _ _ hP hS
  · refine lv_aload_n hx hb dX11_recovers_8 rfl (lv_at hl 0 rfl) ?_
    refine gm_m_isSafe hx hb hts hown hK hP fl_X11_235 dX11_recovers_9 ?_
    refine sx_if_ne (tgt := 20) hx hb hF dX11_recovers_12 (by decide) (fun hF => ?_) (fun hF => ?_)
    · exact hB20 u ls (lv_sub hl [0] rfl) hF _ _ hP hS
    · refine lv_aload_n hx hb dX11_recovers_15 rfl (lv_at hl 0 rfl) ?_
      refine lv_iconst (v := (-1)) hx hb dX11_recovers_16 (by decide) ?_
      refine pm_m_band hx hb hts hown hK hP fl_X11_34 hD hS hF dX11_recovers_17 (fun u12 H locs hF hP hS => ?_)
      exact hB20 u12 ls (lv_sub hl [0] rfl) hF _ _ hP hS
set_option maxHeartbeats 4000000 in
set_option maxRecDepth 100000 in
theorem kt_X11_restore {N : Nat} {l : Launch} {D : va_G} {a : Nat → Nat} {cI : Nat → ClassId} (hD : ∀ σ, va_D (am_A a) (am_W a cI σ))  {u σ0 : q_St} {r0 : Int32} (hF : fX11_restore N u = some (r0, σ0)) : Met l yX11_restore (Cond.code yX11_restore cX11_restore 2 (some .int) :: q_T) ({ frames := 8, cells := 0, slots := 0, locals := 174 } : Room) (q_P D vwCl (am_T cI) (am_W a cI) [.ref (a 0)] u) (q_Qi D vwCl (am_W a cI) (am_A a) r0 σ0) 0 0 (am_A a) := by
  refine Met.ofW (cc := cX11_restore) (maxL := 2) (ret := (some .int)) (by decide) rfl ?_
  intro p e s m args below meth c s₁ B hml hv
  obtain ⟨rfl, hP, hK⟩ := hv
  have hx := B.exec
  have hb := B.bytes
  have hr := B.returns
  have hts := q_ts (atoms_spec (ws := Cond.code yX11_restore cX11_restore 2 (some .int) :: q_T) B.pre)
  have hown : s.vm.findClass RX11 = some m.cls := findClass_of_methodNamed B.named
  have hlocks := B.notSynchronized
  have hS : va_S (am_A a) s.heap s.heap [] := va_S.rf
  have hl := lv_entry ([.ref (a 0)]) (n := 2) (Nat.le_of_ble_eq_true rfl)
  rw [lg_entry_eq]
  generalize (lg_sl ([.ref (a 0)]) ++ List.replicate (2 - (lg_sl ([.ref (a 0)])).length) Slot.unset).toArray = ls at hl ⊢
  have hl : lv_has ls 2 [(0, .ref (a 0))] := hl
  unfold fX11_restore at hF
  refine lv_aload_n hx hb dX11_restore_0 rfl (lv_at hl 0 rfl) ?_
  refine gm_m_entries hx hb hts hown hK hP fl_X11_261 dX11_restore_1 ?_
  refine lv_aload_n hx hb dX11_restore_4 rfl (lv_at hl 0 rfl) ?_
  refine gm_m_inBands hx hb hts hown hK hP fl_X11_193 dX11_restore_5 ?_
  refine lv_iadd hx hb dX11_restore_8 ?_
  refine lv_aload_n hx hb dX11_restore_9 rfl (lv_at hl 0 rfl) ?_
  refine gm_m_inScratch hx hb hts hown hK hP fl_X11_196 dX11_restore_10 ?_
  refine lv_iadd hx hb dX11_restore_13 ?_
  refine lv_aload_n hx hb dX11_restore_14 rfl (lv_at hl 0 rfl) ?_
  refine gm_m_records hx hb hts hown hK hP fl_X11_190 dX11_restore_15 ?_
  refine lv_iadd hx hb dX11_restore_18 ?_
  refine sx_istore_n (lv2 := [(0, .ref (a 0))]) hx hb hF dX11_restore_19 rfl hl (by decide) rfl (fun v1 hF ls hl => ?_)
  refine lv_aload_n hx hb dX11_restore_20 rfl (lv_at hl 1 rfl) ?_
  refine lv_iconst (v := 1) hx hb dX11_restore_21 (by decide) ?_
  refine pm_m_isOn_1 hx hb hts hown hK hP fl_X11_7 hD hS hF dX11_restore_22 (fun u2 H locs hF hP hS => ?_)
  refine lv_aload_n hx hb dX11_restore_25 rfl (lv_at hl 1 rfl) ?_
  obtain ⟨r3, u4, hc5, hF⟩ := q_bnd_some hF
  refine sx_cv (Wd := (am_W a cI)) (σ1 := u4) (q_runV (Wd := (am_W a cI)) (σ := u2) (q0 := 0) (ci := 11) (T := TX11) (N := 72) (As := []) (rest := []) hx hb hml hown hts hK hP (kt_X11_forget hD hc5) cw_X11_288 rfl rfl ⟨Nat.le_of_ble_eq_true rfl, Nat.le_of_ble_eq_true rfl⟩ rfl rfl rfl hl.1 rfl (Nat.le_of_ble_eq_true rfl) dX11_restore_26) hS (fun H locs hP hS => ?_)
  refine lv_aload_n hx hb dX11_restore_29 rfl (lv_at hl 1 rfl) ?_
  obtain ⟨r6, u7, hc8, hF⟩ := q_bnd_some hF
  refine sx_ci (Wd := (am_W a cI)) (σ1 := u7) (q_runV (Wd := (am_W a cI)) (σ := u4) (q0 := 0) (ci := 11) (T := TX11) (N := 72) (As := []) (rest := []) hx hb hml hown hts hK hP (kt_X11_recovers hD hc8) cw_X11_291 rfl rfl ⟨Nat.le_of_ble_eq_true rfl, Nat.le_of_ble_eq_true rfl⟩ rfl rfl rfl hl.1 rfl (Nat.le_of_ble_eq_true rfl) dX11_restore_30) hS (fun H locs hP hS => ?_)
  refine sx_if_ne (tgt := 39) hx hb hF dX11_restore_33 (by decide) (fun hF => ?_) (fun hF => ?_)
  · refine lv_aload_n hx hb dX11_restore_39 rfl (lv_at hl 1 rfl) ?_
    refine gm_m_entries hx hb hts hown hK hP fl_X11_261 dX11_restore_40 ?_
    refine lv_aload_n hx hb dX11_restore_43 rfl (lv_at hl 1 rfl) ?_
    refine gm_m_inBands hx hb hts hown hK hP fl_X11_193 dX11_restore_44 ?_
    refine lv_iadd hx hb dX11_restore_47 ?_
    refine lv_aload_n hx hb dX11_restore_48 rfl (lv_at hl 1 rfl) ?_
    refine gm_m_inScratch hx hb hts hown hK hP fl_X11_196 dX11_restore_49 ?_
    refine lv_iadd hx hb dX11_restore_52 ?_
    refine lv_aload_n hx hb dX11_restore_53 rfl (lv_at hl 1 rfl) ?_
    refine gm_m_records hx hb hts hown hK hP fl_X11_190 dX11_restore_54 ?_
    refine lv_iadd hx hb dX11_restore_57 ?_
    refine lv_iload_n hx hb dX11_restore_58 rfl (lv_at hl 0 rfl) ?_
    refine lv_isub hx hb dX11_restore_59 ?_
    exact sx_reti (Wd := (am_W a cI)) (σ := u7) hx hb hr hF hP hS hlocks dX11_restore_60
  · refine lv_bipush (v := (-99)) hx hb dX11_restore_36 (by decide) ?_
    exact sx_reti (Wd := (am_W a cI)) (σ := u7) hx hb hr hF hP hS hlocks dX11_restore_38
set_option maxHeartbeats 4000000 in
set_option maxRecDepth 100000 in
theorem kt_X11_as {N : Nat} {l : Launch} {D : va_G} {a : Nat → Nat} {cI : Nat → ClassId} (hD : ∀ σ, va_D (am_A a) (am_W a cI σ)) {o1 : Int32} {u σ0 : q_St} {r0 : Int32} (hF : fX11_as N o1 u = some (r0, σ0)) : Met l yX11_as (Cond.code yX11_as cX11_as 3 (some .int) :: q_T) ({ frames := 0, cells := 0, slots := 0, locals := 0 } : Room) (q_P D vwCl (am_T cI) (am_W a cI) [.ref (a 0), .int o1] u) (q_Qi D vwCl (am_W a cI) (am_A a) r0 σ0) 0 0 (am_A a) := by
  refine Met.ofW (cc := cX11_as) (maxL := 3) (ret := (some .int)) (by decide) rfl ?_
  intro p e s m args below meth c s₁ B hml hv
  obtain ⟨rfl, hP, hK⟩ := hv
  have hx := B.exec
  have hb := B.bytes
  have hr := B.returns
  have hts := q_ts (atoms_spec (ws := Cond.code yX11_as cX11_as 3 (some .int) :: q_T) B.pre)
  have hown : s.vm.findClass RX11 = some m.cls := findClass_of_methodNamed B.named
  have hlocks := B.notSynchronized
  have hS : va_S (am_A a) s.heap s.heap [] := va_S.rf
  have hl := lv_entry ([.ref (a 0), .int o1]) (n := 3) (Nat.le_of_ble_eq_true rfl)
  rw [lg_entry_eq]
  generalize (lg_sl ([.ref (a 0), .int o1]) ++ List.replicate (3 - (lg_sl ([.ref (a 0), .int o1])).length) Slot.unset).toArray = ls at hl ⊢
  have hl : lv_has ls 3 [(0, .ref (a 0)), (1, .int o1)] := hl
  unfold fX11_as at hF
  refine lv_aload_n hx hb dX11_as_0 rfl (lv_at hl 0 rfl) ?_
  refine gm_m_isOn hx hb hts hown hK hP fl_X11_7 dX11_as_1 ?_
  refine sx_if_ne (tgt := 10) hx hb hF dX11_as_4 (by decide) (fun hF => ?_) (fun hF => ?_)
  · refine lv_iload_n hx hb dX11_as_10 rfl (lv_at hl 1 rfl) ?_
    refine sx_if_lt (tgt := 20) hx hb hF dX11_as_11 (by decide) (fun hF => ?_) (fun hF => ?_)
    · refine lv_bipush (v := (-15)) hx hb dX11_as_20 (by decide) ?_
      exact sx_reti (Wd := (am_W a cI)) (σ := u) hx hb hr hF hP hS hlocks dX11_as_22
    · refine lv_iload_n hx hb dX11_as_14 rfl (lv_at hl 1 rfl) ?_
      refine lv_bipush (v := 15) hx hb dX11_as_15 (by decide) ?_
      refine sx_icmp_le (tgt := 23) hx hb hF dX11_as_17 (by decide) (fun hF => ?_) (fun hF => ?_)
      · refine lv_aload_n hx hb dX11_as_23 rfl (lv_at hl 0 rfl) ?_
        refine gm_m_who hx hb hts hown hK hP fl_X11_330 dX11_as_24 ?_
        refine sx_istore_n (lv2 := [(0, .ref (a 0)), (1, .int o1)]) hx hb hF dX11_as_27 rfl hl (by decide) rfl (fun v1 hF ls hl => ?_)
        refine lv_aload_n hx hb dX11_as_28 rfl (lv_at hl 1 rfl) ?_
        refine lv_iload_n hx hb dX11_as_29 rfl (lv_at hl 2 rfl) ?_
        refine pm_m_who hx hb hts hown hK hP fl_X11_330 hD hS hF dX11_as_30 (fun u2 H locs hF hP hS => ?_)
        refine lv_iload_n hx hb dX11_as_33 rfl (lv_at hl 0 rfl) ?_
        exact sx_reti (Wd := (am_W a cI)) (σ := u2) hx hb hr hF hP hS hlocks dX11_as_34
      · refine lv_bipush (v := (-15)) hx hb dX11_as_20 (by decide) ?_
        exact sx_reti (Wd := (am_W a cI)) (σ := u) hx hb hr hF hP hS hlocks dX11_as_22
  · refine lv_bipush (v := (-99)) hx hb dX11_as_7 (by decide) ?_
    exact sx_reti (Wd := (am_W a cI)) (σ := u) hx hb hr hF hP hS hlocks dX11_as_9
set_option maxHeartbeats 4000000 in
set_option maxRecDepth 100000 in
theorem kt_X11_begins {N : Nat} {l : Launch} {D : va_G} {a : Nat → Nat} {cI : Nat → ClassId} (hD : ∀ σ, va_D (am_A a) (am_W a cI σ))  {u σ0 : q_St} {r0 : Int32} (hF : fX11_begins N u = some (r0, σ0)) : Met l yX11_begins (Cond.code yX11_begins cX11_begins 1 (some .boolean) :: q_T) ({ frames := 8, cells := 0, slots := 0, locals := 176 } : Room) (q_P D vwCl (am_T cI) (am_W a cI) [.ref (a 0)] u) (q_Qi D vwCl (am_W a cI) (am_A a) r0 σ0) 0 0 (am_A a) := by
  refine Met.ofW (cc := cX11_begins) (maxL := 1) (ret := (some .boolean)) (by decide) rfl ?_
  intro p e s m args below meth c s₁ B hml hv
  obtain ⟨rfl, hP, hK⟩ := hv
  have hx := B.exec
  have hb := B.bytes
  have hr := B.returns
  have hts := q_ts (atoms_spec (ws := Cond.code yX11_begins cX11_begins 1 (some .boolean) :: q_T) B.pre)
  have hown : s.vm.findClass RX11 = some m.cls := findClass_of_methodNamed B.named
  have hlocks := B.notSynchronized
  have hS : va_S (am_A a) s.heap s.heap [] := va_S.rf
  have hl := lv_entry ([.ref (a 0)]) (n := 1) (Nat.le_of_ble_eq_true rfl)
  rw [lg_entry_eq]
  generalize (lg_sl ([.ref (a 0)]) ++ List.replicate (1 - (lg_sl ([.ref (a 0)])).length) Slot.unset).toArray = ls at hl ⊢
  have hl : lv_has ls 1 [(0, .ref (a 0))] := hl
  have hB25 : ∀ (u : q_St) (ls : Array Slot), lv_has ls 1 [] → fX11_begins_b25 N u = some (r0, σ0) → ∀ (H : Heap) (locs : List Loc), va_P D vwCl (am_W a cI u) H → va_S (am_A a) s.heap H locs → W p l e (headSpec (Cond.code yX11_begins cX11_begins 1 (some .boolean) :: q_T) ({ frames := 8, cells := 0, slots := 0, locals := 176 } : Room)).room s m ([.ref (a 0)] : List Value).toArray below meth c H locs 0 0 (MQ below (q_Qi D vwCl (am_W a cI) (am_A a) r0 σ0) ([.ref (a 0)] : List Value).toArray s 0 0 (am_A a)) (F0 m 25 ls []) := by
    intro u ls hl hF _ _ hP hS
    unfold fX11_begins_b25 at hF
    refine lv_iconst (v := 1) hx hb dX11_begins_25 (by decide) ?_
    refine lv_goto (tgt := 30) hx hb dX11_begins_26 (by decide) ?_
    exact sx_retz (Wd := (am_W a cI)) (σ := u) hx hb hr (by decide) hF hP hS hlocks dX11_begins_30
  unfold fX11_begins at hF
  refine lv_aload_n hx hb dX11_begins_0 rfl (lv_at hl 0 rfl) ?_
  refine gm_m_isOn hx hb hts hown hK hP fl_X11_7 dX11_begins_1 ?_
  refine sx_if_ne (tgt := 9) hx hb hF dX11_begins_4 (by decide) (fun hF => ?_) (fun hF => ?_)
  · refine lv_aload_n hx hb dX11_begins_9 rfl (lv_at hl 0 rfl) ?_
    refine gm_m_dirty hx hb hts hown hK hP fl_X11_267 dX11_begins_10 ?_
    refine lv_bipush (v := 40) hx hb dX11_begins_13 (by decide) ?_
    refine sx_icmp_le (tgt := 25) hx hb hF dX11_begins_15 (by decide) (fun hF => ?_) (fun hF => ?_)
    · exact hB25 u ls (lv_sub hl [] rfl) hF _ _ hP hS
    · refine lv_aload_n hx hb dX11_begins_18 rfl (lv_at hl 0 rfl) ?_
      obtain ⟨r1, u2, hc3, hF⟩ := q_bnd_some hF
      refine sx_ci (Wd := (am_W a cI)) (σ1 := u2) (q_runV (Wd := (am_W a cI)) (σ := u) (q0 := 0) (ci := 11) (T := TX11) (N := 72) (As := []) (rest := []) hx hb hml hown hts hK hP (kt_X11_commit hD hc3) cw_X11_285 rfl rfl ⟨Nat.le_of_ble_eq_true rfl, Nat.le_of_ble_eq_true rfl⟩ rfl rfl rfl hl.1 rfl (Nat.le_of_ble_eq_true rfl) dX11_begins_19) hS (fun H locs hP hS => ?_)
      refine sx_if_eq (tgt := 29) hx hb hF dX11_begins_22 (by decide) (fun hF => ?_) (fun hF => ?_)
      · refine lv_iconst (v := 0) hx hb dX11_begins_29 (by decide) ?_
        exact sx_retz (Wd := (am_W a cI)) (σ := u2) hx hb hr (by decide) hF hP hS hlocks dX11_begins_30
      · exact hB25 u2 ls (lv_sub hl [] rfl) hF _ _ hP hS
  · refine lv_iconst (v := 0) hx hb dX11_begins_7 (by decide) ?_
    exact sx_retz (Wd := (am_W a cI)) (σ := u) hx hb hr (by decide) hF hP hS hlocks dX11_begins_8
set_option maxHeartbeats 4000000 in
set_option maxRecDepth 100000 in
theorem kt_X11_isNode {N : Nat} {l : Launch} {D : va_G} {a : Nat → Nat} {cI : Nat → ClassId} (hD : ∀ σ, va_D (am_A a) (am_W a cI σ)) {o1 : Int32} {u σ0 : q_St} {r0 : Int32} (hF : fX11_isNode N o1 u = some (r0, σ0)) : Met l yX11_isNode (Cond.code yX11_isNode cX11_isNode 2 (some .boolean) :: q_T) ({ frames := 0, cells := 0, slots := 0, locals := 0 } : Room) (q_P D vwCl (am_T cI) (am_W a cI) [.ref (a 0), .int o1] u) (q_Qi D vwCl (am_W a cI) (am_A a) r0 σ0) 0 0 (am_A a) := by
  refine Met.ofW (cc := cX11_isNode) (maxL := 2) (ret := (some .boolean)) (by decide) rfl ?_
  intro p e s m args below meth c s₁ B hml hv
  obtain ⟨rfl, hP, hK⟩ := hv
  have hx := B.exec
  have hb := B.bytes
  have hr := B.returns
  have hts := q_ts (atoms_spec (ws := Cond.code yX11_isNode cX11_isNode 2 (some .boolean) :: q_T) B.pre)
  have hown : s.vm.findClass RX11 = some m.cls := findClass_of_methodNamed B.named
  have hlocks := B.notSynchronized
  have hS : va_S (am_A a) s.heap s.heap [] := va_S.rf
  have hl := lv_entry ([.ref (a 0), .int o1]) (n := 2) (Nat.le_of_ble_eq_true rfl)
  rw [lg_entry_eq]
  generalize (lg_sl ([.ref (a 0), .int o1]) ++ List.replicate (2 - (lg_sl ([.ref (a 0), .int o1])).length) Slot.unset).toArray = ls at hl ⊢
  have hl : lv_has ls 2 [(0, .ref (a 0)), (1, .int o1)] := hl
  unfold fX11_isNode at hF
  refine lv_iload_n hx hb dX11_isNode_0 rfl (lv_at hl 1 rfl) ?_
  refine sx_if_lt (tgt := 23) hx hb hF dX11_isNode_1 (by decide) (fun hF => ?_) (fun hF => ?_)
  · refine lv_iconst (v := 0) hx hb dX11_isNode_23 (by decide) ?_
    exact sx_retz (Wd := (am_W a cI)) (σ := u) hx hb hr (by decide) hF hP hS hlocks dX11_isNode_24
  · refine lv_iload_n hx hb dX11_isNode_4 rfl (lv_at hl 1 rfl) ?_
    refine lv_bipush (v := 64) hx hb dX11_isNode_5 (by decide) ?_
    refine sx_icmp_ge (tgt := 23) hx hb hF dX11_isNode_7 (by decide) (fun hF => ?_) (fun hF => ?_)
    · refine lv_iconst (v := 0) hx hb dX11_isNode_23 (by decide) ?_
      exact sx_retz (Wd := (am_W a cI)) (σ := u) hx hb hr (by decide) hF hP hS hlocks dX11_isNode_24
    · refine lv_aload_n hx hb dX11_isNode_10 rfl (lv_at hl 0 rfl) ?_
      refine gm_m_kind hx hb hts hown hK hP fl_X11_40 dX11_isNode_11 ?_
      refine lv_iload_n hx hb dX11_isNode_14 rfl (lv_at hl 1 rfl) ?_
      refine lm_m_kind hx hb hK hP hF dX11_isNode_15 (fun v1 hF => ?_)
      refine sx_if_eq (tgt := 23) hx hb hF dX11_isNode_16 (by decide) (fun hF => ?_) (fun hF => ?_)
      · refine lv_iconst (v := 0) hx hb dX11_isNode_23 (by decide) ?_
        exact sx_retz (Wd := (am_W a cI)) (σ := u) hx hb hr (by decide) hF hP hS hlocks dX11_isNode_24
      · refine lv_iconst (v := 1) hx hb dX11_isNode_19 (by decide) ?_
        refine lv_goto (tgt := 24) hx hb dX11_isNode_20 (by decide) ?_
        exact sx_retz (Wd := (am_W a cI)) (σ := u) hx hb hr (by decide) hF hP hS hlocks dX11_isNode_24
set_option maxHeartbeats 4000000 in
set_option maxRecDepth 100000 in
theorem kt_X11_soil {N : Nat} {l : Launch} {D : va_G} {a : Nat → Nat} {cI : Nat → ClassId} (hD : ∀ σ, va_D (am_A a) (am_W a cI σ)) {o1 : Int32} {u σ0 : q_St} {r0 : Unit} (hF : fX11_soil N o1 u = some (r0, σ0)) : Met l yX11_soil (Cond.code yX11_soil cX11_soil 2 none :: q_T) ({ frames := 0, cells := 0, slots := 0, locals := 0 } : Room) (q_P D vwCl (am_T cI) (am_W a cI) [.ref (a 0), .int o1] u) (q_Qv D vwCl (am_W a cI) (am_A a) σ0) 0 0 (am_A a) := by
  refine Met.ofW (cc := cX11_soil) (maxL := 2) (ret := none) (by decide) rfl ?_
  intro p e s m args below meth c s₁ B hml hv
  obtain ⟨rfl, hP, hK⟩ := hv
  have hx := B.exec
  have hb := B.bytes
  have hr := B.returns
  have hts := q_ts (atoms_spec (ws := Cond.code yX11_soil cX11_soil 2 none :: q_T) B.pre)
  have hown : s.vm.findClass RX11 = some m.cls := findClass_of_methodNamed B.named
  have hlocks := B.notSynchronized
  have hS : va_S (am_A a) s.heap s.heap [] := va_S.rf
  have hl := lv_entry ([.ref (a 0), .int o1]) (n := 2) (Nat.le_of_ble_eq_true rfl)
  rw [lg_entry_eq]
  generalize (lg_sl ([.ref (a 0), .int o1]) ++ List.replicate (2 - (lg_sl ([.ref (a 0), .int o1])).length) Slot.unset).toArray = ls at hl ⊢
  have hl : lv_has ls 2 [(0, .ref (a 0)), (1, .int o1)] := hl
  have hB19 : ∀ (x1 : Int32) (y0 : Int32) (y1 : Int32) (u : q_St) (ls : Array Slot), lv_has ls 2 [(0, .ref (a 0)), (1, .int x1)] → fX11_soil_b19 N x1 y0 y1 u = some (r0, σ0) → ∀ (H : Heap) (locs : List Loc), va_P D vwCl (am_W a cI u) H → va_S (am_A a) s.heap H locs → W p l e (headSpec (Cond.code yX11_soil cX11_soil 2 none :: q_T) ({ frames := 0, cells := 0, slots := 0, locals := 0 } : Room)).room s m ([.ref (a 0), .int o1] : List Value).toArray below meth c H locs 0 0 (MQ below (q_Qv D vwCl (am_W a cI) (am_A a) σ0) ([.ref (a 0), .int o1] : List Value).toArray s 0 0 (am_A a)) (F0 m 19 ls [.int y0, .int y1, .ref (a 0)]) := by
    intro x1 y0 y1 u ls hl hF _ _ hP hS
    unfold fX11_soil_b19 at hF
    refine lv_iadd hx hb dX11_soil_19 ?_
    refine pm_m_dirty hx hb hts hown hK hP fl_X11_267 hD hS hF dX11_soil_20 (fun u2 H locs hF hP hS => ?_)
    refine lv_aload_n hx hb dX11_soil_23 rfl (lv_at hl 0 rfl) ?_
    refine gm_m_isDirty hx hb hts hown hK hP fl_X11_134 dX11_soil_24 ?_
    refine lv_iload_n hx hb dX11_soil_27 rfl (lv_at hl 1 rfl) ?_
    refine lv_iconst (v := 1) hx hb dX11_soil_28 (by decide) ?_
    refine um_m_isDirty hx hb hK hP hD hS hF dX11_soil_29 (fun u3 H locs hF hP hS => ?_)
    exact sx_retv (Wd := (am_W a cI)) (σ := u3) hx hb hr hF hP hS hlocks dX11_soil_30
  unfold fX11_soil at hF
  refine lv_aload_n hx hb dX11_soil_0 rfl (lv_at hl 0 rfl) ?_
  refine lv_dup hx hb dX11_soil_1 rfl ?_
  refine gm_m_dirty hx hb hts hown hK hP fl_X11_267 dX11_soil_2 ?_
  refine lv_aload_n hx hb dX11_soil_5 rfl (lv_at hl 0 rfl) ?_
  refine gm_m_isDirty hx hb hts hown hK hP fl_X11_134 dX11_soil_6 ?_
  refine lv_iload_n hx hb dX11_soil_9 rfl (lv_at hl 1 rfl) ?_
  refine lm_m_isDirty hx hb hK hP hF dX11_soil_10 (fun v1 hF => ?_)
  refine sx_if_eq (tgt := 18) hx hb hF dX11_soil_11 (by decide) (fun hF => ?_) (fun hF => ?_)
  · refine lv_iconst (v := 1) hx hb dX11_soil_18 (by decide) ?_
    exact hB19 o1 1 (q_i u 25) u ls (lv_sub hl [0, 1] rfl) hF _ _ hP hS
  · refine lv_iconst (v := 0) hx hb dX11_soil_14 (by decide) ?_
    refine lv_goto (tgt := 19) hx hb dX11_soil_15 (by decide) ?_
    exact hB19 o1 0 (q_i u 25) u ls (lv_sub hl [0, 1] rfl) hF _ _ hP hS
set_option maxHeartbeats 4000000 in
set_option maxRecDepth 100000 in
theorem kt_X11_soilNode {N : Nat} {l : Launch} {D : va_G} {a : Nat → Nat} {cI : Nat → ClassId} (hD : ∀ σ, va_D (am_A a) (am_W a cI σ)) {o1 : Int32} {u σ0 : q_St} {r0 : Unit} (hF : fX11_soilNode N o1 u = some (r0, σ0)) : Met l yX11_soilNode (Cond.code yX11_soilNode cX11_soilNode 2 none :: q_T) ({ frames := 1, cells := 0, slots := 0, locals := 21 } : Room) (q_P D vwCl (am_T cI) (am_W a cI) [.ref (a 0), .int o1] u) (q_Qv D vwCl (am_W a cI) (am_A a) σ0) 0 0 (am_A a) := by
  refine Met.ofW (cc := cX11_soilNode) (maxL := 2) (ret := none) (by decide) rfl ?_
  intro p e s m args below meth c s₁ B hml hv
  obtain ⟨rfl, hP, hK⟩ := hv
  have hx := B.exec
  have hb := B.bytes
  have hr := B.returns
  have hts := q_ts (atoms_spec (ws := Cond.code yX11_soilNode cX11_soilNode 2 none :: q_T) B.pre)
  have hown : s.vm.findClass RX11 = some m.cls := findClass_of_methodNamed B.named
  have hlocks := B.notSynchronized
  have hS : va_S (am_A a) s.heap s.heap [] := va_S.rf
  have hl := lv_entry ([.ref (a 0), .int o1]) (n := 2) (Nat.le_of_ble_eq_true rfl)
  rw [lg_entry_eq]
  generalize (lg_sl ([.ref (a 0), .int o1]) ++ List.replicate (2 - (lg_sl ([.ref (a 0), .int o1])).length) Slot.unset).toArray = ls at hl ⊢
  have hl : lv_has ls 2 [(0, .ref (a 0)), (1, .int o1)] := hl
  unfold fX11_soilNode at hF
  refine lv_aload_n hx hb dX11_soilNode_0 rfl (lv_at hl 0 rfl) ?_
  refine lv_aload_n hx hb dX11_soilNode_1 rfl (lv_at hl 0 rfl) ?_
  refine gm_m_nodesAt hx hb hts hown hK hP fl_X11_174 dX11_soilNode_2 ?_
  refine lv_iload_n hx hb dX11_soilNode_5 rfl (lv_at hl 1 rfl) ?_
  refine lv_iadd hx hb dX11_soilNode_6 ?_
  obtain ⟨r1, u2, hc3, hF⟩ := q_bnd_some hF
  refine sx_cv (Wd := (am_W a cI)) (σ1 := u2) (q_runV (Wd := (am_W a cI)) (σ := u) (q0 := 0) (ci := 11) (T := TX11) (N := 72) (As := [.int ((q_i u 8) + o1)]) (rest := []) hx hb hml hown hts hK hP (kt_X11_soil hD hc3) cw_X11_294 rfl rfl ⟨Nat.le_of_ble_eq_true rfl, Nat.le_of_ble_eq_true rfl⟩ rfl rfl rfl hl.1 rfl (Nat.le_of_ble_eq_true rfl) dX11_soilNode_7) hS (fun H locs hP hS => ?_)
  exact sx_retv (Wd := (am_W a cI)) (σ := u2) hx hb hr hF hP hS hlocks dX11_soilNode_10
set_option maxHeartbeats 4000000 in
set_option maxRecDepth 100000 in
theorem kt_X11_mode {N : Nat} {l : Launch} {D : va_G} {a : Nat → Nat} {cI : Nat → ClassId} (hD : ∀ σ, va_D (am_A a) (am_W a cI σ)) {o1 : Int32} {o2 : Int32} {u σ0 : q_St} {r0 : Int32} (hF : fX11_mode N o1 o2 u = some (r0, σ0)) : Met l yX11_mode (Cond.code yX11_mode cX11_mode 4 (some .int) :: q_T) ({ frames := 9, cells := 0, slots := 0, locals := 196 } : Room) (q_P D vwCl (am_T cI) (am_W a cI) [.ref (a 0), .int o1, .int o2] u) (q_Qi D vwCl (am_W a cI) (am_A a) r0 σ0) 0 0 (am_A a) := by
  refine Met.ofW (cc := cX11_mode) (maxL := 4) (ret := (some .int)) (by decide) rfl ?_
  intro p e s m args below meth c s₁ B hml hv
  obtain ⟨rfl, hP, hK⟩ := hv
  have hx := B.exec
  have hb := B.bytes
  have hr := B.returns
  have hts := q_ts (atoms_spec (ws := Cond.code yX11_mode cX11_mode 4 (some .int) :: q_T) B.pre)
  have hown : s.vm.findClass RX11 = some m.cls := findClass_of_methodNamed B.named
  have hlocks := B.notSynchronized
  have hS : va_S (am_A a) s.heap s.heap [] := va_S.rf
  have hl := lv_entry ([.ref (a 0), .int o1, .int o2]) (n := 4) (Nat.le_of_ble_eq_true rfl)
  rw [lg_entry_eq]
  generalize (lg_sl ([.ref (a 0), .int o1, .int o2]) ++ List.replicate (4 - (lg_sl ([.ref (a 0), .int o1, .int o2])).length) Slot.unset).toArray = ls at hl ⊢
  have hl : lv_has ls 4 [(0, .ref (a 0)), (1, .int o1), (2, .int o2)] := hl
  have hB67 : ∀ (x1 : Int32) (x2 : Int32) (u : q_St) (ls : Array Slot), lv_has ls 4 [(0, .ref (a 0)), (1, .int x1), (2, .int x2)] → fX11_mode_b67 N x1 x2 u = some (r0, σ0) → ∀ (H : Heap) (locs : List Loc), va_P D vwCl (am_W a cI u) H → va_S (am_A a) s.heap H locs → W p l e (headSpec (Cond.code yX11_mode cX11_mode 4 (some .int) :: q_T) ({ frames := 9, cells := 0, slots := 0, locals := 196 } : Room)).room s m ([.ref (a 0), .int o1, .int o2] : List Value).toArray below meth c H locs 0 0 (MQ below (q_Qi D vwCl (am_W a cI) (am_A a) r0 σ0) ([.ref (a 0), .int o1, .int o2] : List Value).toArray s 0 0 (am_A a)) (F0 m 67 ls []) := by
    intro x1 x2 u ls hl hF _ _ hP hS
    unfold fX11_mode_b67 at hF
    refine lv_aload_n hx hb dX11_mode_67 rfl (lv_at hl 0 rfl) ?_
    refine gm_m_bits hx hb hts hown hK hP fl_X11_62 dX11_mode_68 ?_
    refine lv_iload_n hx hb dX11_mode_71 rfl (lv_at hl 1 rfl) ?_
    refine lm_m_bits hx hb hK hP hF dX11_mode_72 (fun v8 hF => ?_)
    refine lv_istore_n (lv' := [(3, .int v8), (0, .ref (a 0)), (1, .int x1), (2, .int x2)]) hx hb dX11_mode_73 rfl hl (by decide) rfl (fun ls hl => ?_)
    refine lv_aload_n hx hb dX11_mode_74 rfl (lv_at hl 1 rfl) ?_
    refine gm_m_bits hx hb hts hown hK hP fl_X11_62 dX11_mode_75 ?_
    refine lv_iload_n hx hb dX11_mode_78 rfl (lv_at hl 2 rfl) ?_
    refine lv_iload_n hx hb dX11_mode_79 rfl (lv_at hl 3 rfl) ?_
    refine um_m_bits hx hb hK hP hD hS hF dX11_mode_80 (fun u9 H locs hF hP hS => ?_)
    refine lv_iload_n hx hb dX11_mode_81 rfl (lv_at hl 0 rfl) ?_
    refine lv_iload_n hx hb dX11_mode_82 rfl (lv_at hl 3 rfl) ?_
    refine sx_icmp_eq (tgt := 91) hx hb hF dX11_mode_83 (by decide) (fun hF => ?_) (fun hF => ?_)
    · refine lv_iload_n hx hb dX11_mode_91 rfl (lv_at hl 0 rfl) ?_
      exact sx_reti (Wd := (am_W a cI)) (σ := u9) hx hb hr hF hP hS hlocks dX11_mode_92
    · refine lv_aload_n hx hb dX11_mode_86 rfl (lv_at hl 1 rfl) ?_
      refine lv_iload_n hx hb dX11_mode_87 rfl (lv_at hl 2 rfl) ?_
      obtain ⟨r10, u11, hc12, hF⟩ := q_bnd_some hF
      refine sx_cv (Wd := (am_W a cI)) (σ1 := u11) (q_runV (Wd := (am_W a cI)) (σ := u9) (q0 := 0) (ci := 11) (T := TX11) (N := 72) (As := [.int x1]) (rest := []) hx hb hml hown hts hK hP (kt_X11_soilNode hD hc12) cw_X11_324 rfl rfl ⟨Nat.le_of_ble_eq_true rfl, Nat.le_of_ble_eq_true rfl⟩ rfl rfl rfl hl.1 rfl (Nat.le_of_ble_eq_true rfl) dX11_mode_88) hS (fun H locs hP hS => ?_)
      refine lv_iload_n hx hb dX11_mode_91 rfl (lv_at hl 0 rfl) ?_
      exact sx_reti (Wd := (am_W a cI)) (σ := u11) hx hb hr hF hP hS hlocks dX11_mode_92
  unfold fX11_mode at hF
  refine lv_aload_n hx hb dX11_mode_0 rfl (lv_at hl 0 rfl) ?_
  obtain ⟨r1, u2, hc3, hF⟩ := q_bnd_some hF
  refine sx_ci (Wd := (am_W a cI)) (σ1 := u2) (q_runV (Wd := (am_W a cI)) (σ := u) (q0 := 0) (ci := 11) (T := TX11) (N := 72) (As := []) (rest := []) hx hb hml hown hts hK hP (kt_X11_begins hD hc3) cw_X11_333 rfl rfl ⟨Nat.le_of_ble_eq_true rfl, Nat.le_of_ble_eq_true rfl⟩ rfl rfl rfl hl.1 rfl (Nat.le_of_ble_eq_true rfl) dX11_mode_1) hS (fun H locs hP hS => ?_)
  refine sx_if_ne (tgt := 10) hx hb hF dX11_mode_4 (by decide) (fun hF => ?_) (fun hF => ?_)
  · refine lv_aload_n hx hb dX11_mode_10 rfl (lv_at hl 0 rfl) ?_
    refine lv_iload_n hx hb dX11_mode_11 rfl (lv_at hl 1 rfl) ?_
    obtain ⟨r4, u5, hc6, hF⟩ := q_bnd_some hF
    refine sx_ci (Wd := (am_W a cI)) (σ1 := u5) (q_runV (Wd := (am_W a cI)) (σ := u2) (q0 := 0) (ci := 11) (T := TX11) (N := 72) (As := [.int o1]) (rest := []) hx hb hml hown hts hK hP (kt_X11_isNode hD hc6) cw_X11_336 rfl rfl ⟨Nat.le_of_ble_eq_true rfl, Nat.le_of_ble_eq_true rfl⟩ rfl rfl rfl hl.1 rfl (Nat.le_of_ble_eq_true rfl) dX11_mode_12) hS (fun H locs hP hS => ?_)
    refine sx_if_ne (tgt := 21) hx hb hF dX11_mode_15 (by decide) (fun hF => ?_) (fun hF => ?_)
    · refine lv_aload_n hx hb dX11_mode_21 rfl (lv_at hl 0 rfl) ?_
      refine gm_m_kind hx hb hts hown hK hP fl_X11_40 dX11_mode_22 ?_
      refine lv_iload_n hx hb dX11_mode_25 rfl (lv_at hl 1 rfl) ?_
      refine lm_m_kind hx hb hK hP hF dX11_mode_26 (fun v7 hF => ?_)
      refine lv_iconst (v := 4) hx hb dX11_mode_27 (by decide) ?_
      refine sx_icmp_eq (tgt := 41) hx hb hF dX11_mode_28 (by decide) (fun hF => ?_) (fun hF => ?_)
      · refine lv_bipush (v := (-15)) hx hb dX11_mode_41 (by decide) ?_
        exact sx_reti (Wd := (am_W a cI)) (σ := u5) hx hb hr hF hP hS hlocks dX11_mode_43
      · refine lv_iload_n hx hb dX11_mode_31 rfl (lv_at hl 2 rfl) ?_
        refine sx_if_lt (tgt := 41) hx hb hF dX11_mode_32 (by decide) (fun hF => ?_) (fun hF => ?_)
        · refine lv_bipush (v := (-15)) hx hb dX11_mode_41 (by decide) ?_
          exact sx_reti (Wd := (am_W a cI)) (σ := u5) hx hb hr hF hP hS hlocks dX11_mode_43
        · refine lv_iload_n hx hb dX11_mode_35 rfl (lv_at hl 2 rfl) ?_
          refine lv_bipush (v := 63) hx hb dX11_mode_36 (by decide) ?_
          refine sx_icmp_le (tgt := 44) hx hb hF dX11_mode_38 (by decide) (fun hF => ?_) (fun hF => ?_)
          · refine lv_aload_n hx hb dX11_mode_44 rfl (lv_at hl 0 rfl) ?_
            refine gm_m_who hx hb hts hown hK hP fl_X11_330 dX11_mode_45 ?_
            refine sx_if_eq (tgt := 67) hx hb hF dX11_mode_48 (by decide) (fun hF => ?_) (fun hF => ?_)
            · exact hB67 o1 o2 u5 ls (lv_sub hl [0, 1, 2] rfl) hF _ _ hP hS
            · refine lv_aload_n hx hb dX11_mode_51 rfl (lv_at hl 0 rfl) ?_
              refine gm_m_who hx hb hts hown hK hP fl_X11_330 dX11_mode_52 ?_
              refine lv_aload_n hx hb dX11_mode_55 rfl (lv_at hl 0 rfl) ?_
              refine gm_m_owner hx hb hts hown hK hP fl_X11_59 dX11_mode_56 ?_
              refine lv_iload_n hx hb dX11_mode_59 rfl (lv_at hl 1 rfl) ?_
              refine lm_m_owner hx hb hK hP hF dX11_mode_60 (fun v13 hF => ?_)
              refine sx_icmp_eq (tgt := 67) hx hb hF dX11_mode_61 (by decide) (fun hF => ?_) (fun hF => ?_)
              · exact hB67 o1 o2 u5 ls (lv_sub hl [0, 1, 2] rfl) hF _ _ hP hS
              · refine lv_bipush (v := (-20)) hx hb dX11_mode_64 (by decide) ?_
                exact sx_reti (Wd := (am_W a cI)) (σ := u5) hx hb hr hF hP hS hlocks dX11_mode_66
          · refine lv_bipush (v := (-15)) hx hb dX11_mode_41 (by decide) ?_
            exact sx_reti (Wd := (am_W a cI)) (σ := u5) hx hb hr hF hP hS hlocks dX11_mode_43
    · refine lv_bipush (v := (-10)) hx hb dX11_mode_18 (by decide) ?_
      exact sx_reti (Wd := (am_W a cI)) (σ := u5) hx hb hr hF hP hS hlocks dX11_mode_20
  · refine lv_bipush (v := (-99)) hx hb dX11_mode_7 (by decide) ?_
    exact sx_reti (Wd := (am_W a cI)) (σ := u2) hx hb hr hF hP hS hlocks dX11_mode_9
set_option maxHeartbeats 4000000 in
set_option maxRecDepth 100000 in
theorem kt_X11_give {N : Nat} {l : Launch} {D : va_G} {a : Nat → Nat} {cI : Nat → ClassId} (hD : ∀ σ, va_D (am_A a) (am_W a cI σ)) {o1 : Int32} {o2 : Int32} {u σ0 : q_St} {r0 : Int32} (hF : fX11_give N o1 o2 u = some (r0, σ0)) : Met l yX11_give (Cond.code yX11_give cX11_give 4 (some .int) :: q_T) ({ frames := 9, cells := 0, slots := 0, locals := 196 } : Room) (q_P D vwCl (am_T cI) (am_W a cI) [.ref (a 0), .int o1, .int o2] u) (q_Qi D vwCl (am_W a cI) (am_A a) r0 σ0) 0 0 (am_A a) := by
  refine Met.ofW (cc := cX11_give) (maxL := 4) (ret := (some .int)) (by decide) rfl ?_
  intro p e s m args below meth c s₁ B hml hv
  obtain ⟨rfl, hP, hK⟩ := hv
  have hx := B.exec
  have hb := B.bytes
  have hr := B.returns
  have hts := q_ts (atoms_spec (ws := Cond.code yX11_give cX11_give 4 (some .int) :: q_T) B.pre)
  have hown : s.vm.findClass RX11 = some m.cls := findClass_of_methodNamed B.named
  have hlocks := B.notSynchronized
  have hS : va_S (am_A a) s.heap s.heap [] := va_S.rf
  have hl := lv_entry ([.ref (a 0), .int o1, .int o2]) (n := 4) (Nat.le_of_ble_eq_true rfl)
  rw [lg_entry_eq]
  generalize (lg_sl ([.ref (a 0), .int o1, .int o2]) ++ List.replicate (4 - (lg_sl ([.ref (a 0), .int o1, .int o2])).length) Slot.unset).toArray = ls at hl ⊢
  have hl : lv_has ls 4 [(0, .ref (a 0)), (1, .int o1), (2, .int o2)] := hl
  unfold fX11_give at hF
  refine lv_aload_n hx hb dX11_give_0 rfl (lv_at hl 0 rfl) ?_
  obtain ⟨r1, u2, hc3, hF⟩ := q_bnd_some hF
  refine sx_ci (Wd := (am_W a cI)) (σ1 := u2) (q_runV (Wd := (am_W a cI)) (σ := u) (q0 := 0) (ci := 11) (T := TX11) (N := 72) (As := []) (rest := []) hx hb hml hown hts hK hP (kt_X11_begins hD hc3) cw_X11_333 rfl rfl ⟨Nat.le_of_ble_eq_true rfl, Nat.le_of_ble_eq_true rfl⟩ rfl rfl rfl hl.1 rfl (Nat.le_of_ble_eq_true rfl) dX11_give_1) hS (fun H locs hP hS => ?_)
  refine sx_if_ne (tgt := 10) hx hb hF dX11_give_4 (by decide) (fun hF => ?_) (fun hF => ?_)
  · refine lv_aload_n hx hb dX11_give_10 rfl (lv_at hl 0 rfl) ?_
    refine lv_iload_n hx hb dX11_give_11 rfl (lv_at hl 1 rfl) ?_
    obtain ⟨r4, u5, hc6, hF⟩ := q_bnd_some hF
    refine sx_ci (Wd := (am_W a cI)) (σ1 := u5) (q_runV (Wd := (am_W a cI)) (σ := u2) (q0 := 0) (ci := 11) (T := TX11) (N := 72) (As := [.int o1]) (rest := []) hx hb hml hown hts hK hP (kt_X11_isNode hD hc6) cw_X11_336 rfl rfl ⟨Nat.le_of_ble_eq_true rfl, Nat.le_of_ble_eq_true rfl⟩ rfl rfl rfl hl.1 rfl (Nat.le_of_ble_eq_true rfl) dX11_give_12) hS (fun H locs hP hS => ?_)
    refine sx_if_ne (tgt := 21) hx hb hF dX11_give_15 (by decide) (fun hF => ?_) (fun hF => ?_)
    · refine lv_iload_n hx hb dX11_give_21 rfl (lv_at hl 2 rfl) ?_
      refine sx_if_lt (tgt := 31) hx hb hF dX11_give_22 (by decide) (fun hF => ?_) (fun hF => ?_)
      · refine lv_bipush (v := (-15)) hx hb dX11_give_31 (by decide) ?_
        exact sx_reti (Wd := (am_W a cI)) (σ := u5) hx hb hr hF hP hS hlocks dX11_give_33
      · refine lv_iload_n hx hb dX11_give_25 rfl (lv_at hl 2 rfl) ?_
        refine lv_bipush (v := 15) hx hb dX11_give_26 (by decide) ?_
        refine sx_icmp_le (tgt := 34) hx hb hF dX11_give_28 (by decide) (fun hF => ?_) (fun hF => ?_)
        · refine lv_aload_n hx hb dX11_give_34 rfl (lv_at hl 0 rfl) ?_
          refine gm_m_who hx hb hts hown hK hP fl_X11_330 dX11_give_35 ?_
          refine sx_if_eq (tgt := 44) hx hb hF dX11_give_38 (by decide) (fun hF => ?_) (fun hF => ?_)
          · refine lv_aload_n hx hb dX11_give_44 rfl (lv_at hl 0 rfl) ?_
            refine gm_m_owner hx hb hts hown hK hP fl_X11_59 dX11_give_45 ?_
            refine lv_iload_n hx hb dX11_give_48 rfl (lv_at hl 1 rfl) ?_
            refine lm_m_owner hx hb hK hP hF dX11_give_49 (fun v7 hF => ?_)
            refine lv_istore_n (lv' := [(3, .int v7), (0, .ref (a 0)), (1, .int o1), (2, .int o2)]) hx hb dX11_give_50 rfl hl (by decide) rfl (fun ls hl => ?_)
            refine lv_aload_n hx hb dX11_give_51 rfl (lv_at hl 1 rfl) ?_
            refine gm_m_owner hx hb hts hown hK hP fl_X11_59 dX11_give_52 ?_
            refine lv_iload_n hx hb dX11_give_55 rfl (lv_at hl 2 rfl) ?_
            refine lv_iload_n hx hb dX11_give_56 rfl (lv_at hl 3 rfl) ?_
            refine um_m_owner hx hb hK hP hD hS hF dX11_give_57 (fun u8 H locs hF hP hS => ?_)
            refine lv_iload_n hx hb dX11_give_58 rfl (lv_at hl 0 rfl) ?_
            refine lv_iload_n hx hb dX11_give_59 rfl (lv_at hl 3 rfl) ?_
            refine sx_icmp_eq (tgt := 68) hx hb hF dX11_give_60 (by decide) (fun hF => ?_) (fun hF => ?_)
            · refine lv_iload_n hx hb dX11_give_68 rfl (lv_at hl 0 rfl) ?_
              exact sx_reti (Wd := (am_W a cI)) (σ := u8) hx hb hr hF hP hS hlocks dX11_give_69
            · refine lv_aload_n hx hb dX11_give_63 rfl (lv_at hl 1 rfl) ?_
              refine lv_iload_n hx hb dX11_give_64 rfl (lv_at hl 2 rfl) ?_
              obtain ⟨r9, u10, hc11, hF⟩ := q_bnd_some hF
              refine sx_cv (Wd := (am_W a cI)) (σ1 := u10) (q_runV (Wd := (am_W a cI)) (σ := u8) (q0 := 0) (ci := 11) (T := TX11) (N := 72) (As := [.int o1]) (rest := []) hx hb hml hown hts hK hP (kt_X11_soilNode hD hc11) cw_X11_324 rfl rfl ⟨Nat.le_of_ble_eq_true rfl, Nat.le_of_ble_eq_true rfl⟩ rfl rfl rfl hl.1 rfl (Nat.le_of_ble_eq_true rfl) dX11_give_65) hS (fun H locs hP hS => ?_)
              refine lv_iload_n hx hb dX11_give_68 rfl (lv_at hl 0 rfl) ?_
              exact sx_reti (Wd := (am_W a cI)) (σ := u10) hx hb hr hF hP hS hlocks dX11_give_69
          · refine lv_bipush (v := (-20)) hx hb dX11_give_41 (by decide) ?_
            exact sx_reti (Wd := (am_W a cI)) (σ := u5) hx hb hr hF hP hS hlocks dX11_give_43
        · refine lv_bipush (v := (-15)) hx hb dX11_give_31 (by decide) ?_
          exact sx_reti (Wd := (am_W a cI)) (σ := u5) hx hb hr hF hP hS hlocks dX11_give_33
    · refine lv_bipush (v := (-10)) hx hb dX11_give_18 (by decide) ?_
      exact sx_reti (Wd := (am_W a cI)) (σ := u5) hx hb hr hF hP hS hlocks dX11_give_20
  · refine lv_bipush (v := (-99)) hx hb dX11_give_7 (by decide) ?_
    exact sx_reti (Wd := (am_W a cI)) (σ := u2) hx hb hr hF hP hS hlocks dX11_give_9
set_option maxHeartbeats 4000000 in
set_option maxRecDepth 100000 in
theorem kt_X11_rights {N : Nat} {l : Launch} {D : va_G} {a : Nat → Nat} {cI : Nat → ClassId} (hD : ∀ σ, va_D (am_A a) (am_W a cI σ)) {o1 : Int32} {o2 : Int32} {u σ0 : q_St} {r0 : Int32} (hF : fX11_rights N o1 o2 u = some (r0, σ0)) : Met l yX11_rights (Cond.code yX11_rights cX11_rights 3 (some .int) :: q_T) ({ frames := 1, cells := 0, slots := 0, locals := 21 } : Room) (q_P D vwCl (am_T cI) (am_W a cI) [.ref (a 0), .int o1, .int o2] u) (q_Qi D vwCl (am_W a cI) (am_A a) r0 σ0) 0 0 (am_A a) := by
  refine Met.ofW (cc := cX11_rights) (maxL := 3) (ret := (some .int)) (by decide) rfl ?_
  intro p e s m args below meth c s₁ B hml hv
  obtain ⟨rfl, hP, hK⟩ := hv
  have hx := B.exec
  have hb := B.bytes
  have hr := B.returns
  have hts := q_ts (atoms_spec (ws := Cond.code yX11_rights cX11_rights 3 (some .int) :: q_T) B.pre)
  have hown : s.vm.findClass RX11 = some m.cls := findClass_of_methodNamed B.named
  have hlocks := B.notSynchronized
  have hS : va_S (am_A a) s.heap s.heap [] := va_S.rf
  have hl := lv_entry ([.ref (a 0), .int o1, .int o2]) (n := 3) (Nat.le_of_ble_eq_true rfl)
  rw [lg_entry_eq]
  generalize (lg_sl ([.ref (a 0), .int o1, .int o2]) ++ List.replicate (3 - (lg_sl ([.ref (a 0), .int o1, .int o2])).length) Slot.unset).toArray = ls at hl ⊢
  have hl : lv_has ls 3 [(0, .ref (a 0)), (1, .int o1), (2, .int o2)] := hl
  unfold fX11_rights at hF
  refine lv_aload_n hx hb dX11_rights_0 rfl (lv_at hl 0 rfl) ?_
  refine gm_m_isOn hx hb hts hown hK hP fl_X11_7 dX11_rights_1 ?_
  refine sx_if_ne (tgt := 10) hx hb hF dX11_rights_4 (by decide) (fun hF => ?_) (fun hF => ?_)
  · refine lv_aload_n hx hb dX11_rights_10 rfl (lv_at hl 0 rfl) ?_
    refine lv_iload_n hx hb dX11_rights_11 rfl (lv_at hl 1 rfl) ?_
    obtain ⟨r1, u2, hc3, hF⟩ := q_bnd_some hF
    refine sx_ci (Wd := (am_W a cI)) (σ1 := u2) (q_runV (Wd := (am_W a cI)) (σ := u) (q0 := 0) (ci := 11) (T := TX11) (N := 72) (As := [.int o1]) (rest := []) hx hb hml hown hts hK hP (kt_X11_isNode hD hc3) cw_X11_336 rfl rfl ⟨Nat.le_of_ble_eq_true rfl, Nat.le_of_ble_eq_true rfl⟩ rfl rfl rfl hl.1 rfl (Nat.le_of_ble_eq_true rfl) dX11_rights_12) hS (fun H locs hP hS => ?_)
    refine sx_if_ne (tgt := 21) hx hb hF dX11_rights_15 (by decide) (fun hF => ?_) (fun hF => ?_)
    · refine lv_iload_n hx hb dX11_rights_21 rfl (lv_at hl 2 rfl) ?_
      refine lv_iconst (v := 1) hx hb dX11_rights_22 (by decide) ?_
      refine sx_icmp_ne (tgt := 47) hx hb hF dX11_rights_23 (by decide) (fun hF => ?_) (fun hF => ?_)
      · refine lv_iload_n hx hb dX11_rights_47 rfl (lv_at hl 2 rfl) ?_
        refine sx_if_ne (tgt := 60) hx hb hF dX11_rights_48 (by decide) (fun hF => ?_) (fun hF => ?_)
        · refine lv_iconst (v := (-1)) hx hb dX11_rights_60 (by decide) ?_
          exact sx_reti (Wd := (am_W a cI)) (σ := u2) hx hb hr hF hP hS hlocks dX11_rights_61
        · refine lv_aload_n hx hb dX11_rights_51 rfl (lv_at hl 0 rfl) ?_
          refine gm_m_owner hx hb hts hown hK hP fl_X11_59 dX11_rights_52 ?_
          refine lv_iload_n hx hb dX11_rights_55 rfl (lv_at hl 1 rfl) ?_
          refine lm_m_owner hx hb hK hP hF dX11_rights_56 (fun v4 hF => ?_)
          refine lv_goto (tgt := 61) hx hb dX11_rights_57 (by decide) ?_
          exact sx_reti (Wd := (am_W a cI)) (σ := u2) hx hb hr hF hP hS hlocks dX11_rights_61
      · refine lv_aload_n hx hb dX11_rights_26 rfl (lv_at hl 0 rfl) ?_
        refine gm_m_kind hx hb hts hown hK hP fl_X11_40 dX11_rights_27 ?_
        refine lv_iload_n hx hb dX11_rights_30 rfl (lv_at hl 1 rfl) ?_
        refine lm_m_kind hx hb hK hP hF dX11_rights_31 (fun v5 hF => ?_)
        refine lv_iconst (v := 4) hx hb dX11_rights_32 (by decide) ?_
        refine sx_icmp_ne (tgt := 40) hx hb hF dX11_rights_33 (by decide) (fun hF => ?_) (fun hF => ?_)
        · refine lv_aload_n hx hb dX11_rights_40 rfl (lv_at hl 0 rfl) ?_
          refine gm_m_bits hx hb hts hown hK hP fl_X11_62 dX11_rights_41 ?_
          refine lv_iload_n hx hb dX11_rights_44 rfl (lv_at hl 1 rfl) ?_
          refine lm_m_bits hx hb hK hP hF dX11_rights_45 (fun v6 hF => ?_)
          exact sx_reti (Wd := (am_W a cI)) (σ := u2) hx hb hr hF hP hS hlocks dX11_rights_46
        · refine lv_iconst (v := (-1)) hx hb dX11_rights_36 (by decide) ?_
          refine lv_goto (tgt := 46) hx hb dX11_rights_37 (by decide) ?_
          exact sx_reti (Wd := (am_W a cI)) (σ := u2) hx hb hr hF hP hS hlocks dX11_rights_46
    · refine lv_bipush (v := (-10)) hx hb dX11_rights_18 (by decide) ?_
      exact sx_reti (Wd := (am_W a cI)) (σ := u2) hx hb hr hF hP hS hlocks dX11_rights_20
  · refine lv_bipush (v := (-99)) hx hb dX11_rights_7 (by decide) ?_
    exact sx_reti (Wd := (am_W a cI)) (σ := u) hx hb hr hF hP hS hlocks dX11_rights_9
