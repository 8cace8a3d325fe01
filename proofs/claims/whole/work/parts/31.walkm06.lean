set_option maxHeartbeats 4000000 in
set_option maxRecDepth 100000 in
theorem kt_X11_freeNodes {N : Nat} {l : Launch} {D : va_G} {a : Nat → Nat} {cI : Nat → ClassId} (hD : ∀ σ, va_D (am_A a) (am_W a cI σ))  {u σ0 : q_St} {r0 : Int32} (hF : fX11_freeNodes N u = some (r0, σ0)) : Met l yX11_freeNodes (Cond.code yX11_freeNodes cX11_freeNodes 3 (some .int) :: q_T) ({ frames := 0, cells := 0, slots := 0, locals := 0 } : Room) (q_P D vwCl (am_T cI) (am_W a cI) [.ref (a 0)] u) (q_Qi D vwCl (am_W a cI) (am_A a) r0 σ0) 0 0 (am_A a) := by
  refine Met.ofW (cc := cX11_freeNodes) (maxL := 3) (ret := (some .int)) (by decide) rfl ?_
  intro p e s m args below meth c s₁ B hml hv
  obtain ⟨rfl, hP, hK⟩ := hv
  have hx := B.exec
  have hb := B.bytes
  have hr := B.returns
  have hts := q_ts (atoms_spec (ws := Cond.code yX11_freeNodes cX11_freeNodes 3 (some .int) :: q_T) B.pre)
  have hown : s.vm.findClass RX11 = some m.cls := findClass_of_methodNamed B.named
  have hlocks := B.notSynchronized
  have hS : va_S (am_A a) s.heap s.heap [] := va_S.rf
  have hl := lv_entry ([.ref (a 0)]) (n := 3) (Nat.le_of_ble_eq_true rfl)
  rw [lg_entry_eq]
  generalize (lg_sl ([.ref (a 0)]) ++ List.replicate (3 - (lg_sl ([.ref (a 0)])).length) Slot.unset).toArray = ls at hl ⊢
  have hl : lv_has ls 3 [(0, .ref (a 0))] := hl
  have hB25 : ∀ (ih4 : Int32 → Int32 → q_St → Option (Int32 × q_St)) (hi4 : ∀ (x1 : Int32) (x2 : Int32) (u : q_St) (ls : Array Slot), lv_has ls 3 [(0, .ref (a 0)), (1, .int x1), (2, .int x2)] → ih4 x1 x2 u = some (r0, σ0) → ∀ (H : Heap) (locs : List Loc), va_P D vwCl (am_W a cI u) H → va_S (am_A a) s.heap H locs → W p l e (headSpec (Cond.code yX11_freeNodes cX11_freeNodes 3 (some .int) :: q_T) ({ frames := 0, cells := 0, slots := 0, locals := 0 } : Room)).room s m ([.ref (a 0)] : List Value).toArray below meth c H locs 0 0 (MQ below (q_Qi D vwCl (am_W a cI) (am_A a) r0 σ0) ([.ref (a 0)] : List Value).toArray s 0 0 (am_A a)) (F0 m 4 ls [])), ∀ (x2 : Int32) (y0 : Int32) (y1 : Int32) (u : q_St) (ls : Array Slot), lv_has ls 3 [(0, .ref (a 0)), (2, .int x2)] → fX11_freeNodes_b25 N ih4 x2 y0 y1 u = some (r0, σ0) → ∀ (H : Heap) (locs : List Loc), va_P D vwCl (am_W a cI u) H → va_S (am_A a) s.heap H locs → W p l e (headSpec (Cond.code yX11_freeNodes cX11_freeNodes 3 (some .int) :: q_T) ({ frames := 0, cells := 0, slots := 0, locals := 0 } : Room)).room s m ([.ref (a 0)] : List Value).toArray below meth c H locs 0 0 (MQ below (q_Qi D vwCl (am_W a cI) (am_A a) r0 σ0) ([.ref (a 0)] : List Value).toArray s 0 0 (am_A a)) (F0 m 25 ls [.int y0, .int y1]) := by
    intro ih4 hi4 x2 y0 y1 u ls hl hF _ _ hP hS
    unfold fX11_freeNodes_b25 at hF
    refine lv_iadd hx hb dX11_freeNodes_25 ?_
    refine sx_istore_n (lv2 := [(0, .ref (a 0)), (2, .int x2)]) hx hb hF dX11_freeNodes_26 rfl hl (by decide) rfl (fun v2 hF ls hl => ?_)
    refine sx_iinc (d := 1) (k := 2) (lv2 := [(1, .int v2), (0, .ref (a 0))]) hx hb hF dX11_freeNodes_27 hl rfl (by decide) (by decide) rfl (fun v3 hF ls hl => ?_)
    refine lv_goto (tgt := 4) hx hb dX11_freeNodes_30 (by decide) ?_
    exact hi4 v2 v3 u ls (lv_sub hl [2, 1, 0] rfl) hF _ _ hP hS
  have hB4 : ∀ (n : Nat) (x1 : Int32) (x2 : Int32) (u : q_St) (ls : Array Slot), lv_has ls 3 [(0, .ref (a 0)), (1, .int x1), (2, .int x2)] → q_lp (fX11_freeNodes_b4 N) (fun _ _ _ => none) n x1 x2 u = some (r0, σ0) → ∀ (H : Heap) (locs : List Loc), va_P D vwCl (am_W a cI u) H → va_S (am_A a) s.heap H locs → W p l e (headSpec (Cond.code yX11_freeNodes cX11_freeNodes 3 (some .int) :: q_T) ({ frames := 0, cells := 0, slots := 0, locals := 0 } : Room)).room s m ([.ref (a 0)] : List Value).toArray below meth c H locs 0 0 (MQ below (q_Qi D vwCl (am_W a cI) (am_A a) r0 σ0) ([.ref (a 0)] : List Value).toArray s 0 0 (am_A a)) (F0 m 4 ls []) := by
    intro n
    induction n with
    | zero => intro x1 x2 u ls hl hF; exact absurd (show (none : Option (Int32 × q_St)) = some _ from hF) (fun h => nomatch h)
    | succ n hi4 =>
      intro x1 x2 u ls hl hF _ _ hP hS
      obtain ⟨ih4, hih⟩ : ∃ q, q = q_lp (fX11_freeNodes_b4 N) (fun _ _ _ => none) n := ⟨_, rfl⟩
      rw [← hih] at hi4
      have hF : fX11_freeNodes_b4 N (q_lp (fX11_freeNodes_b4 N) (fun _ _ _ => none) n) x1 x2 u = some (r0, σ0) := hF
      rw [← hih] at hF
      clear hih
      unfold fX11_freeNodes_b4 at hF
      refine lv_iload_n hx hb dX11_freeNodes_4 rfl (lv_at hl 2 rfl) ?_
      refine lv_bipush (v := 64) hx hb dX11_freeNodes_5 (by decide) ?_
      refine sx_icmp_ge (tgt := 33) hx hb hF dX11_freeNodes_7 (by decide) (fun hF => ?_) (fun hF => ?_)
      · refine lv_iload_n hx hb dX11_freeNodes_33 rfl (lv_at hl 1 rfl) ?_
        exact sx_reti (Wd := (am_W a cI)) (σ := u) hx hb hr hF hP hS hlocks dX11_freeNodes_34
      · refine lv_iload_n hx hb dX11_freeNodes_10 rfl (lv_at hl 1 rfl) ?_
        refine lv_aload_n hx hb dX11_freeNodes_11 rfl (lv_at hl 0 rfl) ?_
        refine gm_m_kind hx hb hts hown hK hP fl_X11_40 dX11_freeNodes_12 ?_
        refine lv_iload_n hx hb dX11_freeNodes_15 rfl (lv_at hl 2 rfl) ?_
        refine lm_m_kind hx hb hK hP hF dX11_freeNodes_16 (fun v1 hF => ?_)
        refine sx_if_ne (tgt := 24) hx hb hF dX11_freeNodes_17 (by decide) (fun hF => ?_) (fun hF => ?_)
        · refine lv_iconst (v := 0) hx hb dX11_freeNodes_24 (by decide) ?_
          exact hB25 ih4 hi4 x2 0 x1 u ls (lv_sub hl [0, 2] rfl) hF _ _ hP hS
        · refine lv_iconst (v := 1) hx hb dX11_freeNodes_20 (by decide) ?_
          refine lv_goto (tgt := 25) hx hb dX11_freeNodes_21 (by decide) ?_
          exact hB25 ih4 hi4 x2 1 x1 u ls (lv_sub hl [0, 2] rfl) hF _ _ hP hS
  unfold fX11_freeNodes at hF
  refine lv_iconst (v := 0) hx hb dX11_freeNodes_0 (by decide) ?_
  refine lv_istore_n (lv' := [(1, .int 0), (0, .ref (a 0))]) hx hb dX11_freeNodes_1 rfl hl (by decide) rfl (fun ls hl => ?_)
  refine lv_iconst (v := 0) hx hb dX11_freeNodes_2 (by decide) ?_
  refine lv_istore_n (lv' := [(2, .int 0), (1, .int 0), (0, .ref (a 0))]) hx hb dX11_freeNodes_3 rfl hl (by decide) rfl (fun ls hl => ?_)
  exact hB4 N 0 0 u ls (lv_sub hl [2, 1, 0] rfl) hF _ _ hP hS
set_option maxHeartbeats 4000000 in
set_option maxRecDepth 100000 in
theorem kt_X11_now {N : Nat} {l : Launch} {D : va_G} {a : Nat → Nat} {cI : Nat → ClassId} (hD : ∀ σ, va_D (am_A a) (am_W a cI σ)) {o1 : Int32} {u σ0 : q_St} {r0 : Int32} (hF : fX11_now N o1 u = some (r0, σ0)) : Met l yX11_now (Cond.code yX11_now cX11_now 2 (some .int) :: q_T) ({ frames := 4, cells := 0, slots := 0, locals := 89 } : Room) (q_P D vwCl (am_T cI) (am_W a cI) [.ref (a 0), .int o1] u) (q_Qi D vwCl (am_W a cI) (am_A a) r0 σ0) 0 0 (am_A a) := by
  refine Met.ofW (cc := cX11_now) (maxL := 2) (ret := (some .int)) (by decide) rfl ?_
  intro p e s m args below meth c s₁ B hml hv
  obtain ⟨rfl, hP, hK⟩ := hv
  have hx := B.exec
  have hb := B.bytes
  have hr := B.returns
  have hts := q_ts (atoms_spec (ws := Cond.code yX11_now cX11_now 2 (some .int) :: q_T) B.pre)
  have hown : s.vm.findClass RX11 = some m.cls := findClass_of_methodNamed B.named
  have hlocks := B.notSynchronized
  have hS : va_S (am_A a) s.heap s.heap [] := va_S.rf
  have hl := lv_entry ([.ref (a 0), .int o1]) (n := 2) (Nat.le_of_ble_eq_true rfl)
  rw [lg_entry_eq]
  generalize (lg_sl ([.ref (a 0), .int o1]) ++ List.replicate (2 - (lg_sl ([.ref (a 0), .int o1])).length) Slot.unset).toArray = ls at hl ⊢
  have hl : lv_has ls 2 [(0, .ref (a 0)), (1, .int o1)] := hl
  unfold fX11_now at hF
  refine lv_iload_n hx hb dX11_now_0 rfl (lv_at hl 1 rfl) ?_
  by_cases hq5 : o1 = 5
  · have hF := (if_pos hq5).symm.trans hF
    refine sx_tabIn hx hb 5 hq5 (off := 59) (tgt := 60) dX11_now_1 (by decide) (by decide) (by decide) (by decide) ?_
    refine lv_aload_n hx hb dX11_now_60 rfl (lv_at hl 0 rfl) ?_
    obtain ⟨r1, u2, hc3, hF⟩ := q_bnd_some hF
    refine sx_ci (Wd := (am_W a cI)) (σ1 := u2) (q_runV (Wd := (am_W a cI)) (σ := u) (q0 := 0) (ci := 11) (T := TX11) (N := 72) (As := []) (rest := []) hx hb hml hown hts hK hP (kt_X11_free hD hc3) cw_X11_255 rfl rfl ⟨Nat.le_of_ble_eq_true rfl, Nat.le_of_ble_eq_true rfl⟩ rfl rfl rfl hl.1 rfl (Nat.le_of_ble_eq_true rfl) dX11_now_61) hS (fun H locs hP hS => ?_)
    exact sx_reti (Wd := (am_W a cI)) (σ := u2) hx hb hr hF hP hS hlocks dX11_now_64
  have hF := (if_neg hq5).symm.trans hF
  by_cases hq6 : o1 = 6
  · have hF := (if_pos hq6).symm.trans hF
    refine sx_tabIn hx hb 6 hq6 (off := 64) (tgt := 65) dX11_now_1 (by decide) (by decide) (by decide) (by decide) ?_
    refine lv_aload_n hx hb dX11_now_65 rfl (lv_at hl 0 rfl) ?_
    refine lv_iconst (v := (-1)) hx hb dX11_now_66 (by decide) ?_
    obtain ⟨r4, u5, hc6, hF⟩ := q_bnd_some hF
    refine sx_ci (Wd := (am_W a cI)) (σ1 := u5) (q_runV (Wd := (am_W a cI)) (σ := u) (q0 := 0) (ci := 11) (T := TX11) (N := 72) (As := [.int (-1)]) (rest := []) hx hb hml hown hts hK hP (kt_X11_live hD hc6) cw_X11_209 rfl rfl ⟨Nat.le_of_ble_eq_true rfl, Nat.le_of_ble_eq_true rfl⟩ rfl rfl rfl hl.1 rfl (Nat.le_of_ble_eq_true rfl) dX11_now_67) hS (fun H locs hP hS => ?_)
    exact sx_reti (Wd := (am_W a cI)) (σ := u5) hx hb hr hF hP hS hlocks dX11_now_70
  have hF := (if_neg hq6).symm.trans hF
  by_cases hq7 : o1 = 7
  · have hF := (if_pos hq7).symm.trans hF
    refine sx_tabIn hx hb 7 hq7 (off := 70) (tgt := 71) dX11_now_1 (by decide) (by decide) (by decide) (by decide) ?_
    refine lv_aload_n hx hb dX11_now_71 rfl (lv_at hl 0 rfl) ?_
    refine gm_m_dirty hx hb hts hown hK hP fl_X11_267 dX11_now_72 ?_
    exact sx_reti (Wd := (am_W a cI)) (σ := u) hx hb hr hF hP hS hlocks dX11_now_75
  have hF := (if_neg hq7).symm.trans hF
  by_cases hq8 : o1 = 8
  · have hF := (if_pos hq8).symm.trans hF
    refine sx_tabIn hx hb 8 hq8 (off := 75) (tgt := 76) dX11_now_1 (by decide) (by decide) (by decide) (by decide) ?_
    refine lv_aload_n hx hb dX11_now_76 rfl (lv_at hl 0 rfl) ?_
    obtain ⟨r7, u8, hc9, hF⟩ := q_bnd_some hF
    refine sx_ci (Wd := (am_W a cI)) (σ1 := u8) (q_runV (Wd := (am_W a cI)) (σ := u) (q0 := 0) (ci := 11) (T := TX11) (N := 72) (As := []) (rest := []) hx hb hml hown hts hK hP (kt_X11_freeBlocks hD hc9) cw_X11_422 rfl rfl ⟨Nat.le_of_ble_eq_true rfl, Nat.le_of_ble_eq_true rfl⟩ rfl rfl rfl hl.1 rfl (Nat.le_of_ble_eq_true rfl) dX11_now_77) hS (fun H locs hP hS => ?_)
    exact sx_reti (Wd := (am_W a cI)) (σ := u8) hx hb hr hF hP hS hlocks dX11_now_80
  have hF := (if_neg hq8).symm.trans hF
  by_cases hq9 : o1 = 9
  · have hF := (if_pos hq9).symm.trans hF
    refine sx_tabIn hx hb 9 hq9 (off := 80) (tgt := 81) dX11_now_1 (by decide) (by decide) (by decide) (by decide) ?_
    refine lv_aload_n hx hb dX11_now_81 rfl (lv_at hl 0 rfl) ?_
    obtain ⟨r10, u11, hc12, hF⟩ := q_bnd_some hF
    refine sx_ci (Wd := (am_W a cI)) (σ1 := u11) (q_runV (Wd := (am_W a cI)) (σ := u) (q0 := 0) (ci := 11) (T := TX11) (N := 72) (As := []) (rest := []) hx hb hml hown hts hK hP (kt_X11_freeNodes hD hc12) cw_X11_479 rfl rfl ⟨Nat.le_of_ble_eq_true rfl, Nat.le_of_ble_eq_true rfl⟩ rfl rfl rfl hl.1 rfl (Nat.le_of_ble_eq_true rfl) dX11_now_82) hS (fun H locs hP hS => ?_)
    exact sx_reti (Wd := (am_W a cI)) (σ := u11) hx hb hr hF hP hS hlocks dX11_now_85
  have hF := (if_neg hq9).symm.trans hF
  by_cases hq14 : o1 = 14
  · have hF := (if_pos hq14).symm.trans hF
    refine sx_tabIn hx hb 14 hq14 (off := 85) (tgt := 86) dX11_now_1 (by decide) (by decide) (by decide) (by decide) ?_
    refine lv_aload_n hx hb dX11_now_86 rfl (lv_at hl 0 rfl) ?_
    refine gm_m_band hx hb hts hown hK hP fl_X11_34 dX11_now_87 ?_
    exact sx_reti (Wd := (am_W a cI)) (σ := u) hx hb hr hF hP hS hlocks dX11_now_90
  have hF := (if_neg hq14).symm.trans hF
  by_cases hq15 : o1 = 15
  · have hF := (if_pos hq15).symm.trans hF
    refine sx_tabIn hx hb 15 hq15 (off := 90) (tgt := 91) dX11_now_1 (by decide) (by decide) (by decide) (by decide) ?_
    refine lv_aload_n hx hb dX11_now_91 rfl (lv_at hl 0 rfl) ?_
    obtain ⟨r13, u14, hc15, hF⟩ := q_bnd_some hF
    refine sx_ci (Wd := (am_W a cI)) (σ1 := u14) (q_runV (Wd := (am_W a cI)) (σ := u) (q0 := 0) (ci := 11) (T := TX11) (N := 72) (As := []) (rest := []) hx hb hml hown hts hK hP (kt_X11_nextKind hD hc15) cw_X11_223 rfl rfl ⟨Nat.le_of_ble_eq_true rfl, Nat.le_of_ble_eq_true rfl⟩ rfl rfl rfl hl.1 rfl (Nat.le_of_ble_eq_true rfl) dX11_now_92) hS (fun H locs hP hS => ?_)
    exact sx_reti (Wd := (am_W a cI)) (σ := u14) hx hb hr hF hP hS hlocks dX11_now_95
  have hF := (if_neg hq15).symm.trans hF
  by_cases hr1 : Int32.toInt o1 < 5 ∨ 15 < Int32.toInt o1
  · refine lv_tableOut (tgt := 96) hx hb dX11_now_1 hr1 (by decide) ?_
    refine lv_iconst (v := (-1)) hx hb dX11_now_96 (by decide) ?_
    exact sx_reti (Wd := (am_W a cI)) (σ := u) hx hb hr hF hP hS hlocks dX11_now_97
  · have hr2 : Int32.toInt o1 = 5 ∨ Int32.toInt o1 = 6 ∨ Int32.toInt o1 = 7 ∨ Int32.toInt o1 = 8 ∨ Int32.toInt o1 = 9 ∨ Int32.toInt o1 = 10 ∨ Int32.toInt o1 = 11 ∨ Int32.toInt o1 = 12 ∨ Int32.toInt o1 = 13 ∨ Int32.toInt o1 = 14 ∨ Int32.toInt o1 = 15 := by omega
    rcases hr2 with hr2 | hr2 | hr2 | hr2 | hr2 | hr2 | hr2 | hr2 | hr2 | hr2 | hr2
    · exact absurd (Int32.toInt_inj.mp (hr2.trans (by decide : (5 : Int) = Int32.toInt 5))) hq5
    · exact absurd (Int32.toInt_inj.mp (hr2.trans (by decide : (6 : Int) = Int32.toInt 6))) hq6
    · exact absurd (Int32.toInt_inj.mp (hr2.trans (by decide : (7 : Int) = Int32.toInt 7))) hq7
    · exact absurd (Int32.toInt_inj.mp (hr2.trans (by decide : (8 : Int) = Int32.toInt 8))) hq8
    · exact absurd (Int32.toInt_inj.mp (hr2.trans (by decide : (9 : Int) = Int32.toInt 9))) hq9
    · refine sx_tabIn hx hb 10 (Int32.toInt_inj.mp (hr2.trans (by decide : (10 : Int) = Int32.toInt 10))) (off := 95) (tgt := 96) dX11_now_1 (by decide) (by decide) (by decide) (by decide) ?_
      refine lv_iconst (v := (-1)) hx hb dX11_now_96 (by decide) ?_
      exact sx_reti (Wd := (am_W a cI)) (σ := u) hx hb hr hF hP hS hlocks dX11_now_97
    · refine sx_tabIn hx hb 11 (Int32.toInt_inj.mp (hr2.trans (by decide : (11 : Int) = Int32.toInt 11))) (off := 95) (tgt := 96) dX11_now_1 (by decide) (by decide) (by decide) (by decide) ?_
      refine lv_iconst (v := (-1)) hx hb dX11_now_96 (by decide) ?_
      exact sx_reti (Wd := (am_W a cI)) (σ := u) hx hb hr hF hP hS hlocks dX11_now_97
    · refine sx_tabIn hx hb 12 (Int32.toInt_inj.mp (hr2.trans (by decide : (12 : Int) = Int32.toInt 12))) (off := 95) (tgt := 96) dX11_now_1 (by decide) (by decide) (by decide) (by decide) ?_
      refine lv_iconst (v := (-1)) hx hb dX11_now_96 (by decide) ?_
      exact sx_reti (Wd := (am_W a cI)) (σ := u) hx hb hr hF hP hS hlocks dX11_now_97
    · refine sx_tabIn hx hb 13 (Int32.toInt_inj.mp (hr2.trans (by decide : (13 : Int) = Int32.toInt 13))) (off := 95) (tgt := 96) dX11_now_1 (by decide) (by decide) (by decide) (by decide) ?_
      refine lv_iconst (v := (-1)) hx hb dX11_now_96 (by decide) ?_
      exact sx_reti (Wd := (am_W a cI)) (σ := u) hx hb hr hF hP hS hlocks dX11_now_97
    · exact absurd (Int32.toInt_inj.mp (hr2.trans (by decide : (14 : Int) = Int32.toInt 14))) hq14
    · exact absurd (Int32.toInt_inj.mp (hr2.trans (by decide : (15 : Int) = Int32.toInt 15))) hq15
set_option maxHeartbeats 4000000 in
set_option maxRecDepth 100000 in
theorem kt_X11_count {N : Nat} {l : Launch} {D : va_G} {a : Nat → Nat} {cI : Nat → ClassId} (hD : ∀ σ, va_D (am_A a) (am_W a cI σ)) {o1 : Int32} {u σ0 : q_St} {r0 : Int32} (hF : fX11_count N o1 u = some (r0, σ0)) : Met l yX11_count (Cond.code yX11_count cX11_count 2 (some .int) :: q_T) ({ frames := 5, cells := 0, slots := 0, locals := 110 } : Room) (q_P D vwCl (am_T cI) (am_W a cI) [.ref (a 0), .int o1] u) (q_Qi D vwCl (am_W a cI) (am_A a) r0 σ0) 0 0 (am_A a) := by
  refine Met.ofW (cc := cX11_count) (maxL := 2) (ret := (some .int)) (by decide) rfl ?_
  intro p e s m args below meth c s₁ B hml hv
  obtain ⟨rfl, hP, hK⟩ := hv
  have hx := B.exec
  have hb := B.bytes
  have hr := B.returns
  have hts := q_ts (atoms_spec (ws := Cond.code yX11_count cX11_count 2 (some .int) :: q_T) B.pre)
  have hown : s.vm.findClass RX11 = some m.cls := findClass_of_methodNamed B.named
  have hlocks := B.notSynchronized
  have hS : va_S (am_A a) s.heap s.heap [] := va_S.rf
  have hl := lv_entry ([.ref (a 0), .int o1]) (n := 2) (Nat.le_of_ble_eq_true rfl)
  rw [lg_entry_eq]
  generalize (lg_sl ([.ref (a 0), .int o1]) ++ List.replicate (2 - (lg_sl ([.ref (a 0), .int o1])).length) Slot.unset).toArray = ls at hl ⊢
  have hl : lv_has ls 2 [(0, .ref (a 0)), (1, .int o1)] := hl
  unfold fX11_count at hF
  refine lv_iload_n hx hb dX11_count_0 rfl (lv_at hl 1 rfl) ?_
  by_cases hq0 : o1 = 0
  · have hF := (if_pos hq0).symm.trans hF
    refine sx_tabIn hx hb 0 hq0 (off := 71) (tgt := 72) dX11_count_1 (by decide) (by decide) (by decide) (by decide) ?_
    refine lv_aload_n hx hb dX11_count_72 rfl (lv_at hl 0 rfl) ?_
    refine gm_m_entries hx hb hts hown hK hP fl_X11_261 dX11_count_73 ?_
    exact sx_reti (Wd := (am_W a cI)) (σ := u) hx hb hr hF hP hS hlocks dX11_count_76
  have hF := (if_neg hq0).symm.trans hF
  by_cases hq1 : o1 = 1
  · have hF := (if_pos hq1).symm.trans hF
    refine sx_tabIn hx hb 1 hq1 (off := 76) (tgt := 77) dX11_count_1 (by decide) (by decide) (by decide) (by decide) ?_
    refine lv_aload_n hx hb dX11_count_77 rfl (lv_at hl 0 rfl) ?_
    refine gm_m_inBands hx hb hts hown hK hP fl_X11_193 dX11_count_78 ?_
    exact sx_reti (Wd := (am_W a cI)) (σ := u) hx hb hr hF hP hS hlocks dX11_count_81
  have hF := (if_neg hq1).symm.trans hF
  by_cases hq2 : o1 = 2
  · have hF := (if_pos hq2).symm.trans hF
    refine sx_tabIn hx hb 2 hq2 (off := 81) (tgt := 82) dX11_count_1 (by decide) (by decide) (by decide) (by decide) ?_
    refine lv_aload_n hx hb dX11_count_82 rfl (lv_at hl 0 rfl) ?_
    refine gm_m_inScratch hx hb hts hown hK hP fl_X11_196 dX11_count_83 ?_
    exact sx_reti (Wd := (am_W a cI)) (σ := u) hx hb hr hF hP hS hlocks dX11_count_86
  have hF := (if_neg hq2).symm.trans hF
  by_cases hq3 : o1 = 3
  · have hF := (if_pos hq3).symm.trans hF
    refine sx_tabIn hx hb 3 hq3 (off := 86) (tgt := 87) dX11_count_1 (by decide) (by decide) (by decide) (by decide) ?_
    refine lv_aload_n hx hb dX11_count_87 rfl (lv_at hl 0 rfl) ?_
    refine gm_m_records hx hb hts hown hK hP fl_X11_190 dX11_count_88 ?_
    exact sx_reti (Wd := (am_W a cI)) (σ := u) hx hb hr hF hP hS hlocks dX11_count_91
  have hF := (if_neg hq3).symm.trans hF
  by_cases hq4 : o1 = 4
  · have hF := (if_pos hq4).symm.trans hF
    refine sx_tabIn hx hb 4 hq4 (off := 91) (tgt := 92) dX11_count_1 (by decide) (by decide) (by decide) (by decide) ?_
    refine lv_aload_n hx hb dX11_count_92 rfl (lv_at hl 0 rfl) ?_
    refine gm_m_dones hx hb hts hown hK hP fl_X11_252 dX11_count_93 ?_
    exact sx_reti (Wd := (am_W a cI)) (σ := u) hx hb hr hF hP hS hlocks dX11_count_96
  have hF := (if_neg hq4).symm.trans hF
  by_cases hq10 : o1 = 10
  · have hF := (if_pos hq10).symm.trans hF
    refine sx_tabIn hx hb 10 hq10 (off := 96) (tgt := 97) dX11_count_1 (by decide) (by decide) (by decide) (by decide) ?_
    refine lv_aload_n hx hb dX11_count_97 rfl (lv_at hl 0 rfl) ?_
    refine gm_m_commits hx hb hts hown hK hP fl_X11_276 dX11_count_98 ?_
    exact sx_reti (Wd := (am_W a cI)) (σ := u) hx hb hr hF hP hS hlocks dX11_count_101
  have hF := (if_neg hq10).symm.trans hF
  by_cases hq11 : o1 = 11
  · have hF := (if_pos hq11).symm.trans hF
    refine sx_tabIn hx hb 11 hq11 (off := 101) (tgt := 102) dX11_count_1 (by decide) (by decide) (by decide) (by decide) ?_
    refine lv_iconst (v := 0) hx hb dX11_count_102 (by decide) ?_
    exact sx_reti (Wd := (am_W a cI)) (σ := u) hx hb hr hF hP hS hlocks dX11_count_103
  have hF := (if_neg hq11).symm.trans hF
  by_cases hq12 : o1 = 12
  · have hF := (if_pos hq12).symm.trans hF
    refine sx_tabIn hx hb 12 hq12 (off := 103) (tgt := 104) dX11_count_1 (by decide) (by decide) (by decide) (by decide) ?_
    refine lv_aload_n hx hb dX11_count_104 rfl (lv_at hl 0 rfl) ?_
    obtain ⟨r1, u2, hc3, hF⟩ := q_bnd_some hF
    refine sx_ci (Wd := (am_W a cI)) (σ1 := u2) (q_runV (Wd := (am_W a cI)) (σ := u) (q0 := 0) (ci := 11) (T := TX11) (N := 72) (As := []) (rest := []) hx hb hml hown hts hK hP (kt_X11_lost hD hc3) cw_X11_473 rfl rfl ⟨Nat.le_of_ble_eq_true rfl, Nat.le_of_ble_eq_true rfl⟩ rfl rfl rfl hl.1 rfl (Nat.le_of_ble_eq_true rfl) dX11_count_105) hS (fun H locs hP hS => ?_)
    exact sx_reti (Wd := (am_W a cI)) (σ := u2) hx hb hr hF hP hS hlocks dX11_count_108
  have hF := (if_neg hq12).symm.trans hF
  by_cases hq13 : o1 = 13
  · have hF := (if_pos hq13).symm.trans hF
    refine sx_tabIn hx hb 13 hq13 (off := 108) (tgt := 109) dX11_count_1 (by decide) (by decide) (by decide) (by decide) ?_
    refine lv_aload_n hx hb dX11_count_109 rfl (lv_at hl 0 rfl) ?_
    refine gm_m_all hx hb hts hown hK hP fl_X11_168 dX11_count_110 ?_
    exact sx_reti (Wd := (am_W a cI)) (σ := u) hx hb hr hF hP hS hlocks dX11_count_113
  have hF := (if_neg hq13).symm.trans hF
  by_cases hr1 : Int32.toInt o1 < 0 ∨ 13 < Int32.toInt o1
  · refine lv_tableOut (tgt := 114) hx hb dX11_count_1 hr1 (by decide) ?_
    refine lv_aload_n hx hb dX11_count_114 rfl (lv_at hl 0 rfl) ?_
    refine gm_m_isOn hx hb hts hown hK hP fl_X11_7 dX11_count_115 ?_
    refine sx_if_eq (tgt := 129) hx hb hF dX11_count_118 (by decide) (fun hF => ?_) (fun hF => ?_)
    · refine lv_bipush (v := (-99)) hx hb dX11_count_129 (by decide) ?_
      exact sx_reti (Wd := (am_W a cI)) (σ := u) hx hb hr hF hP hS hlocks dX11_count_131
    · refine lv_aload_n hx hb dX11_count_121 rfl (lv_at hl 0 rfl) ?_
      refine lv_iload_n hx hb dX11_count_122 rfl (lv_at hl 1 rfl) ?_
      obtain ⟨r4, u5, hc6, hF⟩ := q_bnd_some hF
      refine sx_ci (Wd := (am_W a cI)) (σ1 := u5) (q_runV (Wd := (am_W a cI)) (σ := u) (q0 := 0) (ci := 11) (T := TX11) (N := 72) (As := [.int o1]) (rest := []) hx hb hml hown hts hK hP (kt_X11_now hD hc6) cw_X11_476 rfl rfl ⟨Nat.le_of_ble_eq_true rfl, Nat.le_of_ble_eq_true rfl⟩ rfl rfl rfl hl.1 rfl (Nat.le_of_ble_eq_true rfl) dX11_count_123) hS (fun H locs hP hS => ?_)
      refine lv_goto (tgt := 131) hx hb dX11_count_126 (by decide) ?_
      exact sx_reti (Wd := (am_W a cI)) (σ := u5) hx hb hr hF hP hS hlocks dX11_count_131
  · have hr2 : Int32.toInt o1 = 0 ∨ Int32.toInt o1 = 1 ∨ Int32.toInt o1 = 2 ∨ Int32.toInt o1 = 3 ∨ Int32.toInt o1 = 4 ∨ Int32.toInt o1 = 5 ∨ Int32.toInt o1 = 6 ∨ Int32.toInt o1 = 7 ∨ Int32.toInt o1 = 8 ∨ Int32.toInt o1 = 9 ∨ Int32.toInt o1 = 10 ∨ Int32.toInt o1 = 11 ∨ Int32.toInt o1 = 12 ∨ Int32.toInt o1 = 13 := by omega
    rcases hr2 with hr2 | hr2 | hr2 | hr2 | hr2 | hr2 | hr2 | hr2 | hr2 | hr2 | hr2 | hr2 | hr2 | hr2
    · exact absurd (Int32.toInt_inj.mp (hr2.trans (by decide : (0 : Int) = Int32.toInt 0))) hq0
    · exact absurd (Int32.toInt_inj.mp (hr2.trans (by decide : (1 : Int) = Int32.toInt 1))) hq1
    · exact absurd (Int32.toInt_inj.mp (hr2.trans (by decide : (2 : Int) = Int32.toInt 2))) hq2
    · exact absurd (Int32.toInt_inj.mp (hr2.trans (by decide : (3 : Int) = Int32.toInt 3))) hq3
    · exact absurd (Int32.toInt_inj.mp (hr2.trans (by decide : (4 : Int) = Int32.toInt 4))) hq4
    · refine sx_tabIn hx hb 5 (Int32.toInt_inj.mp (hr2.trans (by decide : (5 : Int) = Int32.toInt 5))) (off := 113) (tgt := 114) dX11_count_1 (by decide) (by decide) (by decide) (by decide) ?_
      refine lv_aload_n hx hb dX11_count_114 rfl (lv_at hl 0 rfl) ?_
      refine gm_m_isOn hx hb hts hown hK hP fl_X11_7 dX11_count_115 ?_
      refine sx_if_eq (tgt := 129) hx hb hF dX11_count_118 (by decide) (fun hF => ?_) (fun hF => ?_)
      · refine lv_bipush (v := (-99)) hx hb dX11_count_129 (by decide) ?_
        exact sx_reti (Wd := (am_W a cI)) (σ := u) hx hb hr hF hP hS hlocks dX11_count_131
      · refine lv_aload_n hx hb dX11_count_121 rfl (lv_at hl 0 rfl) ?_
        refine lv_iload_n hx hb dX11_count_122 rfl (lv_at hl 1 rfl) ?_
        obtain ⟨r4, u5, hc6, hF⟩ := q_bnd_some hF
        refine sx_ci (Wd := (am_W a cI)) (σ1 := u5) (q_runV (Wd := (am_W a cI)) (σ := u) (q0 := 0) (ci := 11) (T := TX11) (N := 72) (As := [.int o1]) (rest := []) hx hb hml hown hts hK hP (kt_X11_now hD hc6) cw_X11_476 rfl rfl ⟨Nat.le_of_ble_eq_true rfl, Nat.le_of_ble_eq_true rfl⟩ rfl rfl rfl hl.1 rfl (Nat.le_of_ble_eq_true rfl) dX11_count_123) hS (fun H locs hP hS => ?_)
        refine lv_goto (tgt := 131) hx hb dX11_count_126 (by decide) ?_
        exact sx_reti (Wd := (am_W a cI)) (σ := u5) hx hb hr hF hP hS hlocks dX11_count_131
    · refine sx_tabIn hx hb 6 (Int32.toInt_inj.mp (hr2.trans (by decide : (6 : Int) = Int32.toInt 6))) (off := 113) (tgt := 114) dX11_count_1 (by decide) (by decide) (by decide) (by decide) ?_
      refine lv_aload_n hx hb dX11_count_114 rfl (lv_at hl 0 rfl) ?_
      refine gm_m_isOn hx hb hts hown hK hP fl_X11_7 dX11_count_115 ?_
      refine sx_if_eq (tgt := 129) hx hb hF dX11_count_118 (by decide) (fun hF => ?_) (fun hF => ?_)
      · refine lv_bipush (v := (-99)) hx hb dX11_count_129 (by decide) ?_
        exact sx_reti (Wd := (am_W a cI)) (σ := u) hx hb hr hF hP hS hlocks dX11_count_131
      · refine lv_aload_n hx hb dX11_count_121 rfl (lv_at hl 0 rfl) ?_
        refine lv_iload_n hx hb dX11_count_122 rfl (lv_at hl 1 rfl) ?_
        obtain ⟨r4, u5, hc6, hF⟩ := q_bnd_some hF
        refine sx_ci (Wd := (am_W a cI)) (σ1 := u5) (q_runV (Wd := (am_W a cI)) (σ := u) (q0 := 0) (ci := 11) (T := TX11) (N := 72) (As := [.int o1]) (rest := []) hx hb hml hown hts hK hP (kt_X11_now hD hc6) cw_X11_476 rfl rfl ⟨Nat.le_of_ble_eq_true rfl, Nat.le_of_ble_eq_true rfl⟩ rfl rfl rfl hl.1 rfl (Nat.le_of_ble_eq_true rfl) dX11_count_123) hS (fun H locs hP hS => ?_)
        refine lv_goto (tgt := 131) hx hb dX11_count_126 (by decide) ?_
        exact sx_reti (Wd := (am_W a cI)) (σ := u5) hx hb hr hF hP hS hlocks dX11_count_131
    · refine sx_tabIn hx hb 7 (Int32.toInt_inj.mp (hr2.trans (by decide : (7 : Int) = Int32.toInt 7))) (off := 113) (tgt := 114) dX11_count_1 (by decide) (by decide) (by decide) (by decide) ?_
      refine lv_aload_n hx hb dX11_count_114 rfl (lv_at hl 0 rfl) ?_
      refine gm_m_isOn hx hb hts hown hK hP fl_X11_7 dX11_count_115 ?_
      refine sx_if_eq (tgt := 129) hx hb hF dX11_count_118 (by decide) (fun hF => ?_) (fun hF => ?_)
      · refine lv_bipush (v := (-99)) hx hb dX11_count_129 (by decide) ?_
        exact sx_reti (Wd := (am_W a cI)) (σ := u) hx hb hr hF hP hS hlocks dX11_count_131
      · refine lv_aload_n hx hb dX11_count_121 rfl (lv_at hl 0 rfl) ?_
        refine lv_iload_n hx hb dX11_count_122 rfl (lv_at hl 1 rfl) ?_
        obtain ⟨r4, u5, hc6, hF⟩ := q_bnd_some hF
        refine sx_ci (Wd := (am_W a cI)) (σ1 := u5) (q_runV (Wd := (am_W a cI)) (σ := u) (q0 := 0) (ci := 11) (T := TX11) (N := 72) (As := [.int o1]) (rest := []) hx hb hml hown hts hK hP (kt_X11_now hD hc6) cw_X11_476 rfl rfl ⟨Nat.le_of_ble_eq_true rfl, Nat.le_of_ble_eq_true rfl⟩ rfl rfl rfl hl.1 rfl (Nat.le_of_ble_eq_true rfl) dX11_count_123) hS (fun H locs hP hS => ?_)
        refine lv_goto (tgt := 131) hx hb dX11_count_126 (by decide) ?_
        exact sx_reti (Wd := (am_W a cI)) (σ := u5) hx hb hr hF hP hS hlocks dX11_count_131
    · refine sx_tabIn hx hb 8 (Int32.toInt_inj.mp (hr2.trans (by decide : (8 : Int) = Int32.toInt 8))) (off := 113) (tgt := 114) dX11_count_1 (by decide) (by decide) (by decide) (by decide) ?_
      refine lv_aload_n hx hb dX11_count_114 rfl (lv_at hl 0 rfl) ?_
      refine gm_m_isOn hx hb hts hown hK hP fl_X11_7 dX11_count_115 ?_
      refine sx_if_eq (tgt := 129) hx hb hF dX11_count_118 (by decide) (fun hF => ?_) (fun hF => ?_)
      · refine lv_bipush (v := (-99)) hx hb dX11_count_129 (by decide) ?_
        exact sx_reti (Wd := (am_W a cI)) (σ := u) hx hb hr hF hP hS hlocks dX11_count_131
      · refine lv_aload_n hx hb dX11_count_121 rfl (lv_at hl 0 rfl) ?_
        refine lv_iload_n hx hb dX11_count_122 rfl (lv_at hl 1 rfl) ?_
        obtain ⟨r4, u5, hc6, hF⟩ := q_bnd_some hF
        refine sx_ci (Wd := (am_W a cI)) (σ1 := u5) (q_runV (Wd := (am_W a cI)) (σ := u) (q0 := 0) (ci := 11) (T := TX11) (N := 72) (As := [.int o1]) (rest := []) hx hb hml hown hts hK hP (kt_X11_now hD hc6) cw_X11_476 rfl rfl ⟨Nat.le_of_ble_eq_true rfl, Nat.le_of_ble_eq_true rfl⟩ rfl rfl rfl hl.1 rfl (Nat.le_of_ble_eq_true rfl) dX11_count_123) hS (fun H locs hP hS => ?_)
        refine lv_goto (tgt := 131) hx hb dX11_count_126 (by decide) ?_
        exact sx_reti (Wd := (am_W a cI)) (σ := u5) hx hb hr hF hP hS hlocks dX11_count_131
    · refine sx_tabIn hx hb 9 (Int32.toInt_inj.mp (hr2.trans (by decide : (9 : Int) = Int32.toInt 9))) (off := 113) (tgt := 114) dX11_count_1 (by decide) (by decide) (by decide) (by decide) ?_
      refine lv_aload_n hx hb dX11_count_114 rfl (lv_at hl 0 rfl) ?_
      refine gm_m_isOn hx hb hts hown hK hP fl_X11_7 dX11_count_115 ?_
      refine sx_if_eq (tgt := 129) hx hb hF dX11_count_118 (by decide) (fun hF => ?_) (fun hF => ?_)
      · refine lv_bipush (v := (-99)) hx hb dX11_count_129 (by decide) ?_
        exact sx_reti (Wd := (am_W a cI)) (σ := u) hx hb hr hF hP hS hlocks dX11_count_131
      · refine lv_aload_n hx hb dX11_count_121 rfl (lv_at hl 0 rfl) ?_
        refine lv_iload_n hx hb dX11_count_122 rfl (lv_at hl 1 rfl) ?_
        obtain ⟨r4, u5, hc6, hF⟩ := q_bnd_some hF
        refine sx_ci (Wd := (am_W a cI)) (σ1 := u5) (q_runV (Wd := (am_W a cI)) (σ := u) (q0 := 0) (ci := 11) (T := TX11) (N := 72) (As := [.int o1]) (rest := []) hx hb hml hown hts hK hP (kt_X11_now hD hc6) cw_X11_476 rfl rfl ⟨Nat.le_of_ble_eq_true rfl, Nat.le_of_ble_eq_true rfl⟩ rfl rfl rfl hl.1 rfl (Nat.le_of_ble_eq_true rfl) dX11_count_123) hS (fun H locs hP hS => ?_)
        refine lv_goto (tgt := 131) hx hb dX11_count_126 (by decide) ?_
        exact sx_reti (Wd := (am_W a cI)) (σ := u5) hx hb hr hF hP hS hlocks dX11_count_131
    · exact absurd (Int32.toInt_inj.mp (hr2.trans (by decide : (10 : Int) = Int32.toInt 10))) hq10
    · exact absurd (Int32.toInt_inj.mp (hr2.trans (by decide : (11 : Int) = Int32.toInt 11))) hq11
    · exact absurd (Int32.toInt_inj.mp (hr2.trans (by decide : (12 : Int) = Int32.toInt 12))) hq12
    · exact absurd (Int32.toInt_inj.mp (hr2.trans (by decide : (13 : Int) = Int32.toInt 13))) hq13
